theorem W1 {x : am_N} {n t kd w : Nat} (h : V1 x) : V1 (c_write x n t kd w) := by unfold c_write; split <;> exact h
theorem W2 {x : am_N} {n t kd w : Nat} (h : V2 x) : V2 (c_write x n t kd w) := by unfold c_write; split <;> exact h
theorem W3 {x : am_N} {n t kd w : Nat} (h : V3 x) : V3 (c_write x n t kd w) := by unfold c_write; split <;> exact h
theorem W4 {x : am_N} {n t kd w : Nat} (h : V4 x) : V4 (c_write x n t kd w) := by unfold c_write; split <;> exact h
theorem W6 {x : am_N} {n t kd w : Nat} (h : V6 x) : V6 (c_write x n t kd w) := by unfold c_write; split <;> exact h
theorem W7 {x : am_N} {n t kd w : Nat} (h : V7 x) : V7 (c_write x n t kd w) := by unfold c_write; split <;> exact h
theorem W10 {x : am_N} {n t kd w : Nat} (hl : x 6 n 2 < 60) (hk : kd ≤ 6) (h1 : kd ≤ 3 → x 4 n t ≠ 1 ∧ x 4 n t ≠ 2) (h2 : kd = 2 ∨ kd = 3 → x 4 n t ≠ 3) (h : V10 x) : V10 (c_write x n t kd w) := by
  intro m u hm hu
  obtain ⟨g1, g2⟩ := h m u hm hu
  have o4 : (c_write x n t kd w) 4 = x 4 := c_write_o (by omega)
  rw [o4]
  simp only [hr_write hl]
  refine ⟨fun q => ?_, fun q => ?_⟩
  · obtain ⟨a1, a2, a3⟩ := g1 q
    refine ⟨?_, ?_, ?_⟩
    · rintro (z | ⟨rfl, z⟩)
      · exact a1 z
      · have e : u = t ∧ kd = 1 := by omega
        obtain ⟨rfl, rfl⟩ := e
        have := h1 (by omega)
        omega
    · rintro (z | ⟨rfl, z⟩)
      · exact a2 z
      · have e : u = t ∧ kd = 2 := by omega
        obtain ⟨rfl, rfl⟩ := e
        have := h1 (by omega)
        omega
    · rintro (z | ⟨rfl, z⟩)
      · exact a3 z
      · have e : u = t ∧ kd = 3 := by omega
        obtain ⟨rfl, rfl⟩ := e
        have := h1 (by omega)
        omega
  · obtain ⟨a2, a3⟩ := g2 q
    refine ⟨?_, ?_⟩
    · rintro (z | ⟨rfl, z⟩)
      · exact a2 z
      · have e : u = t ∧ kd = 2 := by omega
        obtain ⟨rfl, rfl⟩ := e
        exact h2 (by omega) q
    · rintro (z | ⟨rfl, z⟩)
      · exact a3 z
      · have e : u = t ∧ kd = 3 := by omega
        obtain ⟨rfl, rfl⟩ := e
        exact h2 (by omega) q
theorem W11 {e : Nat} {x : am_N} {n t kd w : Nat} (hl : x 6 n 2 < 60) (hk : kd ≤ 6) (hc : kd ≤ 3 ∨ e = t) (h : V11 e x) : V11 e (c_write x n t kd w) := by
  intro u hu hue
  obtain ⟨g1, g2⟩ := h u hu hue
  have o9 : (c_write x n t kd w) 9 = x 9 := c_write_o (by omega)
  rw [o9]
  simp only [hr_write hl]
  refine ⟨fun q => ?_, fun q => ?_⟩
  · obtain ⟨a1, a2, a3⟩ := g1 q
    refine ⟨?_, ?_, ?_⟩
    · rintro (z | ⟨-, z⟩)
      · exact a1 z
      · omega
    · rintro (z | ⟨-, z⟩)
      · exact a2 z
      · omega
    · rintro (z | ⟨-, z⟩)
      · exact a3 z
      · omega
  · rintro (z | ⟨-, z⟩)
    · exact g2 q z
    · omega
theorem W12 {x : am_N} {n t kd w : Nat} (hl : x 6 n 2 < 60) (hk : kd ≤ 6) (h1 : kd = 1 → x 9 t 1 ≠ 1) (h2 : kd = 2 ∨ kd = 3 → x 9 t 1 = 1 → (x 9 t 2).testBit n = true) (h : V12 x) : V12 (c_write x n t kd w) := by
  intro u hu hs m hm
  have o9 : (c_write x n t kd w) 9 = x 9 := c_write_o (by omega)
  have o4 : (c_write x n t kd w) 4 = x 4 := c_write_o (by omega)
  rw [o9] at hs
  obtain ⟨g1, g2, g3⟩ := h u hu hs m hm
  rw [o9, o4]
  simp only [hr_write hl]
  refine ⟨?_, g2, fun q => ?_⟩
  · rintro (z | ⟨rfl, z⟩)
    · exact g1 z
    · have e : u = t ∧ kd = 1 := by omega
      obtain ⟨rfl, rfl⟩ := e
      exact h1 rfl hs
  · obtain ⟨a1, a2, a3⟩ := g3 q
    refine ⟨?_, ?_, a3⟩
    · rintro (z | ⟨rfl, z⟩)
      · exact a1 z
      · have e : u = t ∧ kd = 2 := by omega
        obtain ⟨rfl, rfl⟩ := e
        rw [h2 (by omega) hs] at q
        cases q
    · rintro (z | ⟨rfl, z⟩)
      · exact a2 z
      · have e : u = t ∧ kd = 3 := by omega
        obtain ⟨rfl, rfl⟩ := e
        rw [h2 (by omega) hs] at q
        cases q
theorem W13 {x : am_N} {n t kd w : Nat} (hl : x 6 n 2 < 60) (hk : kd ≤ 6) (hd : kd = 1 → ∀ i u, i < x 6 n 2 → x 7 n i = 10 * u + 1 → x 8 n i &&& w ≠ 0 → ∃ k, k < x 6 n 2 ∧ (x 7 n k = 10 * u + 2 ∨ x 7 n k = 10 * u + 3)) (h : V13 x) : V13 (c_write x n t kd w) := by
  unfold c_write
  rw [if_pos hl]
  intro m hm i j u v hij hj hi1 hj1 hne
  by_cases q : m = n
  · subst q
    have hj : j < x 6 m 2 + 1 := by simpa [am_u] using hj
    have qi : ¬ i = x 6 m 2 := by omega
    have hi1 : x 7 m i = 10 * u + 1 := by simpa [am_u, qi] using hi1
    by_cases q2 : j = x 6 m 2
    · subst q2
      have hj1 : 10 * t + kd = 10 * v + 1 := by simpa [am_u] using hj1
      have hne : x 8 m i &&& w ≠ 0 := by simpa [am_u, qi] using hne
      obtain ⟨k, hk1, hk2⟩ := hd (by omega) i u (by omega) hi1 hne
      have qk : ¬ k = x 6 m 2 := by omega
      exact ⟨k, hk1, by simpa [am_u, qk] using hk2⟩
    · have hj1 : x 7 m j = 10 * v + 1 := by simpa [am_u, q2] using hj1
      have hne : x 8 m i &&& x 8 m j ≠ 0 := by simpa [am_u, qi, q2] using hne
      obtain ⟨k, hk1, hk2⟩ := h m hm i j u v hij (by omega) hi1 hj1 hne
      have qk : ¬ k = x 6 m 2 := by omega
      exact ⟨k, hk1, by simpa [am_u, qk] using hk2⟩
  · have hj : j < x 6 m 2 := by simpa [am_u, q] using hj
    have hi1 : x 7 m i = 10 * u + 1 := by simpa [am_u, q] using hi1
    have hj1 : x 7 m j = 10 * v + 1 := by simpa [am_u, q] using hj1
    have hne : x 8 m i &&& x 8 m j ≠ 0 := by simpa [am_u, q] using hne
    obtain ⟨k, hk1, hk2⟩ := h m hm i j u v hij hj hi1 hj1 hne
    exact ⟨k, hk1, by simpa [am_u, q] using hk2⟩
/-- a record of the coordinator's kinds changes nothing of the members' -/
theorem W14 {x : am_N} {n t kd w : Nat} (hl : x 6 n 2 < 60) (hk : 4 ≤ kd ∧ kd ≤ 6) (h : V14 x) : V14 (c_write x n t kd w) := by
  have h1 : ∀ m u, hr (c_write x n t kd w) m (10 * u + 2) ↔ hr x m (10 * u + 2) := fun m u => by
    rw [hr_write hl]
    exact ⟨fun z => z.elim id (fun z => by omega), Or.inl⟩
  have h2 : ∀ m u, hr (c_write x n t kd w) m (10 * u + 3) ↔ hr x m (10 * u + 3) := fun m u => by
    rw [hr_write hl]
    exact ⟨fun z => z.elim id (fun z => by omega), Or.inl⟩
  intro m hm
  obtain ⟨g1, g2⟩ := h m hm
  refine ⟨fun hu i u hi e a2 a3 => ?_, fun hu => ?_⟩
  · rw [h1] at a2
    rw [h2] at a3
    unfold c_write at hu hi e ⊢
    rw [if_pos hl] at hu hi e ⊢
    by_cases q : m = n
    · subst q
      have hi : i < x 6 m 2 + 1 := by simpa [am_u] using hi
      by_cases q2 : i = x 6 m 2
      · subst q2
        have e : 10 * t + kd = 10 * u + 1 := by simpa [am_u] using e
        omega
      · have e : x 7 m i = 10 * u + 1 := by simpa [am_u, q2] using e
        have g := g1 hu i u (by omega) e a2 a3
        simpa [am_u, q2] using g
    · have hi : i < x 6 m 2 := by simpa [am_u, q] using hi
      have e : x 7 m i = 10 * u + 1 := by simpa [am_u, q] using e
      have g := g1 hu i u hi e a2 a3
      simpa [am_u, q] using g
  · have o3 : (c_write x n t kd w) 3 = x 3 := c_write_o (by omega)
    have o5 : (c_write x n t kd w) 5 = x 5 := c_write_o (by omega)
    rw [o3] at hu
    rw [o5]
    exact g2 hu
/-- a record of the coordinator of t, as long as t's stage is left out of account -/
theorem VV_wr46 {e : Nat} {x : am_N} {n t kd w : Nat} (hn : n < 4) (ht : t < x 0 0 3) (hk : 4 ≤ kd ∧ kd ≤ 6) (hw : kd = 4 → w < 16) (hno : ¬ hr x n (10 * t + kd)) (he : e = t ∨ e = 10) (h : VW e x) : x 6 n 2 < 60 ∧ VW t (c_write x n t kd w) := by
  obtain ⟨v1, v2, v3, v4, v6, v7, v8, v9, v10, v11, v12, v13, v14⟩ := h
  have hB := v1.1
  have hl : x 6 n 2 < 60 := V_len hn v1.1 v8 v9 ht (by omega) hno
  have v11 : V11 t x := fun u hu hut => v11 u hu (by omega)
  exact ⟨hl, W1 v1, W2 v2, W3 v3, W4 v4, W6 v6, W7 v7, W8 hn hl ht (by omega) (fun q => by omega) hw v8, W9 hl hno v9, W10 hl (by omega) (fun q => by omega) (fun q => by omega) v10, W11 hl (by omega) (Or.inr rfl) v11, W12 hl (by omega) (fun q => by omega) (fun q => by omega) v12, W13 hl (by omega) (fun q => by omega) v13, W14 hl hk v14⟩
/-- forced: two numbers of the row more -/
theorem VV_fc {e : Nat} {x : am_N} {n v : Nat} (h : VW e x) : VW e (am_u (am_u x 6 n 3 (x 6 n 2)) 6 n 4 v) := by
  obtain ⟨v1, v2, v3, v4, v6, v7, v8, v9, v10, v11, v12, v13, v14⟩ := h
  have o6 : ∀ m, (am_u (am_u x 6 n 3 (x 6 n 2)) 6 n 4 v) 6 m 2 = x 6 m 2 := fun m => by simp [am_u]
  have o : ∀ m L, hr (am_u (am_u x 6 n 3 (x 6 n 2)) 6 n 4 v) m L ↔ hr x m L := fun m L => by
    unfold hr
    rw [o6]
    exact Iff.rfl
  refine ⟨v1, v2, v3, v4, v6, v7, ?_, ?_, ?_, ?_, ?_, ?_, ?_⟩
  · intro m hm
    obtain ⟨g1, g2, g3⟩ := v8 m hm
    refine ⟨by rw [o6]; exact g1, ?_, ?_⟩
    · rw [o6]
      by_cases q : m = n
      · subst q; simp [am_u]
      · simpa [am_u, q] using g2
    · rw [o6]
      exact g3
  · intro m hm i j hij hj
    rw [o6] at hj
    exact v9 m hm i j hij hj
  · intro m u hm hu
    simp only [o]
    exact v10 m u hm hu
  · intro u hu hue
    simp only [o]
    exact v11 u hu hue
  · intro u hu hs m hm
    simp only [o]
    exact v12 u hu hs m hm
  · intro m hm i j u v2 hij hj
    rw [o6] at hj
    exact v13 m hm i j u v2 hij hj
  · intro m hm
    simp only [o, o6]
    exact v14 m hm
theorem VV_forget {e : Nat} {x : am_N} {t : Nat} (he : e = t ∨ e = 10) (h : VW e x) : VV (c_forget x t) := by
  obtain ⟨v1, v2, v3, v4, v6, v7, v8, v9, v10, v11, v12, v13, v14⟩ := h
  refine ⟨v1, ?_, v3, v4, ?_, ?_, v8, v9, v10, ?_, ?_, v13, v14⟩
  · intro u hu
    have g := v2 u hu
    by_cases q : u = t
    · subst q; simp [c_forget, am_u]; exact g.1
    · simpa [c_forget, am_u, q] using g
  · intro u hu hB
    obtain ⟨g1, g2⟩ := v6 u hu hB
    refine ⟨?_, g2⟩
    by_cases q : u = t
    · subst q; simp [c_forget, am_u]
    · simpa [c_forget, am_u, q] using g1
  · intro k hk
    obtain ⟨g1, g2, g3, g4, g5, g6⟩ := v7 k hk
    refine ⟨g1, g2, g3, g4, g5, fun q => ?_⟩
    have g := g6 q
    by_cases q : x 2 3 k = t
    · simp [c_forget, am_u, q]
    · simpa [c_forget, am_u, q] using g
  · intro u hu hue
    by_cases q : u = t
    · subst q
      have s0 : (c_forget x u) 9 u 1 = 0 := by simp [c_forget, am_u]
      rw [s0]
      exact ⟨fun z => by omega, fun z => by omega⟩
    · have g := v11 u hu (by omega)
      have s1 : (c_forget x t) 9 u 1 = x 9 u 1 := by simp [c_forget, am_u, q]
      have s0 : (c_forget x t) 9 u 0 = x 9 u 0 := by simp [c_forget, am_u]
      rw [s1, s0]
      exact g
  · intro u hu hs m hm
    by_cases q : u = t
    · subst q
      have s0 : (c_forget x u) 9 u 1 = 0 := by simp [c_forget, am_u]
      rw [s0] at hs
      omega
    · have s1 : (c_forget x t) 9 u 1 = x 9 u 1 := by simp [c_forget, am_u, q]
      have s2 : (c_forget x t) 9 u 2 = x 9 u 2 := by simp [c_forget, am_u, q]
      rw [s1] at hs
      have g := v12 u hu hs m hm
      rw [s2]
      exact g
