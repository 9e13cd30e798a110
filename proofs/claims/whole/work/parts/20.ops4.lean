/-! the ends of a member's part -/
theorem c_letGo_u {x : am_N} {a b k v n t : Nat} (h4 : a ≠ 4) (h5 : a ≠ 5) : c_letGo (am_u x a b k v) n t = am_u (c_letGo x n t) a b k v := by
  unfold c_letGo
  rw [am_uc h5, am_uc h4]
theorem c_letGo_w {x : am_N} {n t kd w : Nat} (hl : x 6 n 2 < 60) : c_letGo (c_write x n t kd w) n t = c_write (c_letGo x n t) n t kd w := by
  have hl2 : (c_letGo x n t) 6 n 2 < 60 := hl
  unfold c_write
  rw [if_pos hl, if_pos hl2, c_letGo_u (by decide) (by decide), c_letGo_u (by decide) (by decide), c_letGo_u (by decide) (by decide)]
  rfl
theorem VV_fin {x : am_N} {n t kd : Nat} (hn : n < 4) (ht : t < 10) (hk : kd = 2 ∨ kd = 3) (hst : x 4 n t ≠ 0) (h : VV x) : x 6 n 2 < 60 ∧ VV (c_letGo (c_write x n t kd 0) n t) := by
  obtain ⟨v1, v2, v3, v4, v6, v7, v8, v9, v10, v11, v12, v13, v14⟩ := h
  have hB : t < x 0 0 3 := by
    by_cases q : t < x 0 0 3
    · exact q
    · exact absurd ((v6 t ht (by omega)).2 n hn).1 hst
  have b4 := (v4 n t hn ht).1
  have hno : ¬ hr x n (10 * t + kd) := by
    obtain ⟨g1, g2⟩ := v10 n t hn ht
    by_cases q : x 4 n t = 3
    · rcases hk with rfl | rfl
      · exact (g2 q).1
      · exact (g2 q).2
    · have g := g1 (by omega)
      rcases hk with rfl | rfl
      · exact g.2.1
      · exact g.2.2
  have hl : x 6 n 2 < 60 := V_len hn v1.1 v8 v9 hB (by omega) hno
  refine ⟨hl, ?_⟩
  rw [c_letGo_w hl]
  have s4 : ∀ m u, (c_letGo x n t) 4 m u = if m = n ∧ u = t then 0 else x 4 m u := fun m u => by simp [c_letGo, am_u]
  have s5 : ∀ m u, (c_letGo x n t) 5 m u = if m = n ∧ u = t then 0 else x 5 m u := fun m u => by simp [c_letGo, am_u]
  have a4 : V4 (c_letGo x n t) := fun m u hm hu => by
    have g := v4 m u hm hu
    rw [s4, s5]
    split <;> omega
  have a6 : V6 (c_letGo x n t) := fun u hu hle => by
    obtain ⟨g1, g2⟩ := v6 u hu hle
    refine ⟨g1, fun m hm => ?_⟩
    have g := g2 m hm
    rw [s4, s5]
    split <;> omega
  have a10 : V10 (c_letGo x n t) := fun m u hm hu => by
    have g := v10 m u hm hu
    rw [s4]
    split
    · exact ⟨fun z => by omega, fun z => by omega⟩
    · exact g
  have a12 : V12 (c_letGo x n t) := fun u hu hs m hm => by
    obtain ⟨g1, g2, g3⟩ := v12 u hu hs m hm
    rw [s4]
    split
    · exact ⟨g1, by omega, fun z => ⟨(g3 z).1, (g3 z).2.1, rfl⟩⟩
    · exact ⟨g1, g2, g3⟩
  have hl2 : (c_letGo x n t) 6 n 2 < 60 := hl
  have sn : (c_letGo x n t) 4 n t = 0 := by simp [c_letGo, am_u]
  refine ⟨W1 v1, W2 v2, W3 v3, W4 a4, W6 a6, W7 v7, W8 hn hl2 hB (by omega) (fun q => by omega) (fun q => by omega) v8, W9 hl2 hno v9, W10 hl2 (by omega) (fun _ => by omega) (fun _ => by omega) a10, W11 hl2 (by omega) (Or.inl (by omega)) v11, W12 hl2 (by omega) (fun q => by omega) (fun _ hs => ?_) a12, W13 hl2 (by omega) (fun q => by omega) v13, ?_⟩
  · have hs : x 9 t 1 = 1 := hs
    show (x 9 t 2).testBit n = true
    cases q : (x 9 t 2).testBit n with
    | true => rfl
    | false => exact absurd ((v12 t ht hs n hn).2.2 q).2.2 hst
  · have o3 : (c_write (c_letGo x n t) n t kd 0) 3 = x 3 := c_write_o (by omega)
    have o4 : (c_write (c_letGo x n t) n t kd 0) 4 = (c_letGo x n t) 4 := c_write_o (by omega)
    have o5 : (c_write (c_letGo x n t) n t kd 0) 5 = (c_letGo x n t) 5 := c_write_o (by omega)
    intro m hm
    obtain ⟨g1, g2⟩ := v14 m hm
    rw [o3, o4, o5]
    refine ⟨fun hu i u hi e a2 a3 => ?_, fun hu u hu2 => ?_⟩
    · rw [hr_write hl2] at a2 a3
      have n2 : ¬ hr x m (10 * u + 2) := fun z => a2 (Or.inl z)
      have n3 : ¬ hr x m (10 * u + 3) := fun z => a3 (Or.inl z)
      have nt : ¬ (m = n ∧ u = t) := by
        rintro ⟨rfl, rfl⟩
        rcases hk with rfl | rfl
        · exact a2 (Or.inr ⟨rfl, rfl⟩)
        · exact a3 (Or.inr ⟨rfl, rfl⟩)
      rw [s4, if_neg nt, s5, if_neg nt]
      unfold c_write at hi e ⊢
      rw [if_pos hl2] at hi e ⊢
      by_cases q : m = n
      · subst q
        have hi : i < x 6 m 2 + 1 := by simpa [am_u, c_letGo] using hi
        by_cases q2 : i = x 6 m 2
        · subst q2
          have e : 10 * t + kd = 10 * u + 1 := by simpa [am_u, c_letGo] using e
          omega
        · have e : x 7 m i = 10 * u + 1 := by simpa [am_u, c_letGo, q2] using e
          have g := g1 hu i u (by omega) e n2 n3
          simpa [am_u, c_letGo, q2] using g
      · have hi : i < x 6 m 2 := by simpa [am_u, c_letGo, q] using hi
        have e : x 7 m i = 10 * u + 1 := by simpa [am_u, c_letGo, q] using e
        have g := g1 hu i u hi e n2 n3
        simpa [am_u, c_letGo, q] using g
    · rw [s5]
      split
      · rfl
      · exact g2 hu u hu2
theorem JJ_abort {x y : am_N} {n t : Nat} (hn : n < 4) (ht : t < 10) (hst : x 4 n t ≠ 0) (h : JJ (x, y)) : x 6 n 2 < 60 ∧ JJ (c_letGo (c_write x n t 3 0) n t, r_letGo (r_write y n t 3 0) n t) := by
  have v8 : V8 x := (show VV x from h.1).2.2.2.2.2.2.1
  obtain ⟨hl, hv⟩ := VV_fin (kd := 3) hn ht (Or.inr rfl) hst h.1
  exact ⟨hl, JJ_mk hv (RR_letGo hn ht (RR_write hn hl (fun m hm => (v8 m hm).1) (v8 n hn).2.1 (by decide) h.2))⟩
theorem c_letGo_fc {x : am_N} {n t v : Nat} : c_letGo (am_u (am_u x 6 n 3 (x 6 n 2)) 6 n 4 v) n t = am_u (am_u (c_letGo x n t) 6 n 3 ((c_letGo x n t) 6 n 2)) 6 n 4 v := by
  rw [c_letGo_u (by decide) (by decide), c_letGo_u (by decide) (by decide)]
  rfl
theorem JJ_done {x y : am_N} {n t : Nat} (hn : n < 4) (ht : t < 10) (hst : x 4 n t = 3) (h : JJ (x, y)) : x 6 n 2 < 60 ∧ JJ (c_letGo (c_force x n t 2 0) n t, r_letGo (r_force y n t 2 0) n t) := by
  have v8 : V8 x := (show VV x from h.1).2.2.2.2.2.2.1
  obtain ⟨hl, hv⟩ := VV_fin (kd := 2) hn ht (Or.inl rfl) (show x 4 n t ≠ 0 by omega) h.1
  refine ⟨hl, JJ_mk ?_ (RR_letGo hn ht (RR_force hn hl (fun m hm => (v8 m hm).1) (v8 n hn).2.1 (by decide) h.2))⟩
  unfold c_force
  rw [c_letGo_fc]
  exact VV_fc hv
theorem JJ_read {x y : am_N} {n t : Nat} (hn : n < 4) (ht : t < 10) (hst : x 4 n t = 1) (h : JJ (x, y)) : JJ (c_letGo x n t, r_letGo y n t) := by
  obtain ⟨v1, v2, v3, v4, v6, v7, v8, v9, v10, v11, v12, v13, v14⟩ := (show VV x from h.1)
  have b := (v10 n t hn ht).1 (Or.inl hst)
  have s4 : ∀ m u, (c_letGo x n t) 4 m u = if m = n ∧ u = t then 0 else x 4 m u := fun m u => by simp [c_letGo, am_u]
  have s5 : ∀ m u, (c_letGo x n t) 5 m u = if m = n ∧ u = t then 0 else x 5 m u := fun m u => by simp [c_letGo, am_u]
  refine JJ_mk ⟨v1, v2, v3, ?_, ?_, v7, v8, v9, ?_, v11, ?_, v13, ?_⟩ (RR_letGo hn ht h.2)
  · intro m u hm hu
    have g := v4 m u hm hu
    rw [s4, s5]
    split <;> omega
  · intro u hu hle
    obtain ⟨g1, g2⟩ := v6 u hu hle
    refine ⟨g1, fun m hm => ?_⟩
    have g := g2 m hm
    rw [s4, s5]
    split <;> omega
  · intro m u hm hu
    have g := v10 m u hm hu
    rw [s4]
    split
    · exact ⟨fun z => by omega, fun z => by omega⟩
    · exact g
  · intro u hu hs m hm
    obtain ⟨g1, g2, g3⟩ := v12 u hu hs m hm
    rw [s4]
    split
    · exact ⟨g1, by omega, fun z => ⟨(g3 z).1, (g3 z).2.1, rfl⟩⟩
    · exact ⟨g1, g2, g3⟩
  · intro m hm
    obtain ⟨g1, g2⟩ := v14 m hm
    refine ⟨fun hu i u hi e a2 a3 => ?_, fun hu u hu2 => ?_⟩
    · have nt : ¬ (m = n ∧ u = t) := by
        rintro ⟨rfl, rfl⟩
        exact b.1 ⟨i, hi, e⟩
      rw [s4, if_neg nt, s5, if_neg nt]
      exact g1 hu i u hi e a2 a3
    · rw [s5]
      split
      · rfl
      · exact g2 hu u hu2
theorem c_write_u {x : am_N} {a b k v n t kd w : Nat} (h6 : a ≠ 6) (h7 : a ≠ 7) (h8 : a ≠ 8) (hl : x 6 n 2 < 60) : am_u (c_write x n t kd w) a b k v = c_write (am_u x a b k v) n t kd w := by
  have s : (am_u x a b k v) 6 n 2 = x 6 n 2 := by
    unfold am_u
    exact if_neg (fun z => h6 z.1.symm)
  unfold c_write
  rw [s, if_pos hl, if_pos hl, am_uc h6.symm, am_uc h8.symm, am_uc h7.symm]
theorem VV_prep {x : am_N} {n t : Nat} (hn : n < 4) (ht : t < x 0 0 3) (hst : x 4 n t = 1) (hs : x 9 t 1 ≠ 1) (hup : x 3 n 0 = 1) (hdis : ∀ u, u < 10 → u ≠ t → x 5 n u &&& x 5 n t = 0) (h : VV x) : x 6 n 2 < 60 ∧ VV (am_u (c_write x n t 1 (x 5 n t)) 4 n t 3) := by
  obtain ⟨v1, v2, v3, v4, v6, v7, v8, v9, v10, v11, v12, v13, v14⟩ := h
  have hB := v1.1
  have ht10 : t < 10 := by omega
  obtain ⟨b1, b2, b3⟩ := (v10 n t hn ht10).1 (Or.inl hst)
  have hl : x 6 n 2 < 60 := V_len (kd := 1) hn v1.1 v8 v9 ht (by omega) b1
  refine ⟨hl, ?_⟩
  rw [c_write_u (by decide) (by decide) (by decide) hl]
  have s4 : ∀ m u, (am_u x 4 n t 3) 4 m u = if m = n ∧ u = t then 3 else x 4 m u := fun m u => by simp [am_u]
  have a4 : V4 (am_u x 4 n t 3) := fun m u hm hu => by
    have g := v4 m u hm hu
    rw [s4]
    refine ⟨?_, g.2⟩
    split <;> omega
  have a6 : V6 (am_u x 4 n t 3) := fun u hu hle => by
    obtain ⟨g1, g2⟩ := v6 u hu hle
    have hle : x 0 0 3 ≤ u := hle
    refine ⟨g1, fun m hm => ?_⟩
    have g := g2 m hm
    rw [s4, if_neg (by omega)]
    exact g
  have a10 : V10 (am_u x 4 n t 3) := fun m u hm hu => by
    have g := v10 m u hm hu
    rw [s4]
    split
    · rename_i q
      obtain ⟨rfl, rfl⟩ := q
      exact ⟨fun z => by omega, fun _ => ⟨b2, b3⟩⟩
    · exact g
  have a12 : V12 (am_u x 4 n t 3) := fun u hu hs2 m hm => by
    obtain ⟨g1, g2, g3⟩ := v12 u hu hs2 m hm
    have hs2 : x 9 u 1 = 1 := hs2
    rw [s4, if_neg (fun z => by rw [z.2] at hs2; exact hs hs2)]
    exact ⟨g1, g2, g3⟩
  have hl2 : (am_u x 4 n t 3) 6 n 2 < 60 := hl
  have sn : (am_u x 4 n t 3) 4 n t = 3 := by simp [am_u]
  refine ⟨W1 v1, W2 v2, W3 v3, W4 a4, W6 a6, W7 v7, W8 hn hl2 ht (by omega) (fun _ => (v4 n t hn ht10).2) (fun q => by omega) v8, W9 hl2 b1 v9, W10 hl2 (by omega) (fun _ => by omega) (fun q => by omega) a10, W11 hl2 (by omega) (Or.inl (by omega)) v11, W12 hl2 (by omega) (fun _ => hs) (fun q => by omega) a12, W13 hl2 (by omega) (fun _ i u hi e hne => ?_) v13, ?_⟩
  · -- two that hold the same were never undecided together
    have hi : i < x 6 n 2 := hi
    have e : x 7 n i = 10 * u + 1 := e
    have hne : x 8 n i &&& x 5 n t ≠ 0 := hne
    have hu10 : u < 10 := by
      have := ((v8 n hn).2.2 i hi).1
      omega
    by_cases q2 : hr x n (10 * u + 2)
    · obtain ⟨k, hk, ek⟩ := q2
      exact ⟨k, hk, Or.inl ek⟩
    · by_cases q3 : hr x n (10 * u + 3)
      · obtain ⟨k, hk, ek⟩ := q3
        exact ⟨k, hk, Or.inr ek⟩
      · have g := (v14 n hn).1 hup i u hi e q2 q3
        have ut : u ≠ t := fun z => by
          subst z
          exact b1 ⟨i, hi, e⟩
        rw [g.2] at hne
        exact absurd (hdis u hu10 ut) hne
  · have o3 : (c_write (am_u x 4 n t 3) n t 1 (x 5 n t)) 3 = x 3 := c_write_o (by omega)
    have o4 : (c_write (am_u x 4 n t 3) n t 1 (x 5 n t)) 4 = (am_u x 4 n t 3) 4 := c_write_o (by omega)
    have o5 : (c_write (am_u x 4 n t 3) n t 1 (x 5 n t)) 5 = x 5 := c_write_o (by omega)
    intro m hm
    obtain ⟨g1, g2⟩ := v14 m hm
    rw [o3, o4, o5]
    refine ⟨fun hu i u hi e a2 a3 => ?_, g2⟩
    rw [hr_write hl2] at a2 a3
    have n2 : ¬ hr x m (10 * u + 2) := fun z => a2 (Or.inl z)
    have n3 : ¬ hr x m (10 * u + 3) := fun z => a3 (Or.inl z)
    rw [s4]
    unfold c_write at hi e ⊢
    rw [if_pos hl2] at hi e ⊢
    by_cases q : m = n
    · subst q
      have hi : i < x 6 m 2 + 1 := by simpa [am_u] using hi
      by_cases q2 : i = x 6 m 2
      · subst q2
        have e : 10 * t + 1 = 10 * u + 1 := by simpa [am_u] using e
        have eu : u = t := by omega
        subst eu
        simp [am_u]
      · have e : x 7 m i = 10 * u + 1 := by simpa [am_u, q2] using e
        have ut : ¬ u = t := fun z => b1 ⟨i, by omega, by rw [← z]; exact e⟩
        have g := g1 hu i u (by omega) e n2 n3
        rw [if_neg (fun z => ut z.2)]
        simpa [am_u, q2] using g
    · have hi : i < x 6 m 2 := by simpa [am_u, q] using hi
      have e : x 7 m i = 10 * u + 1 := by simpa [am_u, q] using e
      have g := g1 hu i u hi e n2 n3
      rw [if_neg (fun z => q z.1)]
      simpa [am_u, q] using g
theorem RR_state {x y : am_N} {n t v : Nat} (hn : n < 4) (h : RR x y) : RR (am_u x 4 n t v) (am_u y 29 0 (4 * t + n) v) := by
  obtain ⟨r1, r2, r3, r4, r5, r6, r7, r8, r9, r10, r11⟩ := h
  refine ⟨r1, r2, r3, ?_, r5, r6, r7, r8, r9, r10, r11⟩
  intro m u hm hu
  have g := r4 m u hm hu
  by_cases q : m = n ∧ u = t
  · obtain ⟨rfl, rfl⟩ := q; simp [am_u]
  · have ne : ¬ 4 * u + m = 4 * t + n := by omega
    simpa [am_u, q, ne] using g
theorem JJ_prep {x y : am_N} {n t : Nat} (hn : n < 4) (ht : t < x 0 0 3) (hst : x 4 n t = 1) (hs : x 9 t 1 ≠ 1) (hup : x 3 n 0 = 1) (h : JJ (x, y)) : x 6 n 2 < 60 ∧ JJ (am_u (c_force x n t 1 (x 5 n t)) 4 n t 3, am_u (r_force y n t 1 (x 5 n t)) 29 0 (4 * t + n) 3) := by
  obtain ⟨v1, v2, v3, v4, v6, v7, v8, -⟩ := (show VV x from h.1)
  have hB := v1.1
  have r5 : R5 x y := (show RR x y from h.2).2.2.2.2.1
  obtain ⟨hl, hv⟩ := VV_prep hn ht hst hs hup (fun u hu hut => RR_dis r5 hn hu (by omega) hut (v4 n u hn hu).2) h.1
  refine ⟨hl, JJ_mk ?_ (RR_state hn (RR_force hn hl (fun m hm => (v8 m hm).1) (v8 n hn).2.1 (by decide) h.2))⟩
  have e : am_u (c_force x n t 1 (x 5 n t)) 4 n t 3 = am_u (am_u (am_u (c_write x n t 1 (x 5 n t)) 4 n t 3) 6 n 3 ((am_u (c_write x n t 1 (x 5 n t)) 4 n t 3) 6 n 2)) 6 n 4 ((c_write x n t 1 (x 5 n t)) 6 n 4 + 1) := by
    unfold c_force
    rw [am_uc (a := 6) (a2 := 4) (by decide), am_uc (a := 6) (a2 := 4) (by decide)]
    rfl
  rw [e]
  exact VV_fc hv
theorem JJ_send {x y : am_N} {k s r t : Nat} (hk : 1 ≤ k ∧ k ≤ 8) (hs : s < 4) (hr : r < 4) (ht : t < x 0 0 3) (h1 : k = 1 → x 9 t 1 ≠ 1) (h : JJ (x, y)) : JJ (c_send x k s r t, r_send y k s r t) := JJ_mk (VV_send hk hs hr ht h1 h.1) (RR_send h.2)
