/-! commit -/
theorem RR_stage {x y : am_N} {t v : Nat} (h : RR x y) : RR (am_u x 9 t 1 v) (am_u y 24 0 t v) := by
  obtain ⟨r1, r2, r3, r4, r5, r6, r7, r8, r9, r10, r11⟩ := h
  refine ⟨r1, r2, r3, r4, r5, r6, ?_, ?_, ?_, ?_, ?_⟩
  · intro u hu
    have g := r7 u hu
    by_cases q : u = t
    · subst q; simpa [am_u] using g.1
    · simpa [am_u, q] using g
  · intro u m hu hm
    simpa [am_u] using r8 u m hu hm
  · intro u m hu hm
    simpa [am_u] using r9 u m hu hm
  · intro u m hu hm
    simpa [am_u] using r10 u m hu hm
  · intro u m hu hm
    simpa [am_u] using r11 u m hu hm
theorem VV_stage2 {x : am_N} {t : Nat} (hs : x 9 t 1 = 1) (h : VV x) : VV (am_u x 9 t 1 2) := by
  obtain ⟨v1, v2, v3, v4, v6, v7, v8, v9, v10, v11, v12, v13, v14⟩ := h
  refine ⟨v1, ?_, v3, v4, ?_, ?_, v8, v9, v10, ?_, ?_, v13, v14⟩
  · intro u hu
    have g := v2 u hu
    by_cases q : u = t
    · subst q; simp [am_u]; exact ⟨g.1, g.2.2⟩
    · simpa [am_u, q] using g
  · intro u hu hB
    simpa [am_u] using v6 u hu hB
  · intro k hk
    obtain ⟨g1, g2, g3, g4, g5, g6⟩ := v7 k hk
    refine ⟨g1, g2, g3, g4, g5, fun z => ?_⟩
    by_cases q : x 2 3 k = t
    · simp [am_u, q]
    · simpa [am_u, q] using g6 z
  · intro u hu hue
    have s0 : (am_u x 9 t 1 2) 9 u 0 = x 9 u 0 := by simp [am_u]
    rw [s0]
    by_cases q : u = t
    · subst q
      have s1 : (am_u x 9 u 1 2) 9 u 1 = 2 := by simp [am_u]
      rw [s1]
      exact ⟨fun _ => (v11 u hu hue).1 (Or.inl hs), fun z => by omega⟩
    · have s1 : (am_u x 9 t 1 2) 9 u 1 = x 9 u 1 := by simp [am_u, q]
      rw [s1]
      exact v11 u hu hue
  · intro u hu hs2 m hm
    by_cases q : u = t
    · subst q
      have s1 : (am_u x 9 u 1 2) 9 u 1 = 2 := by simp [am_u]
      omega
    · have s1 : (am_u x 9 t 1 2) 9 u 1 = x 9 u 1 := by simp [am_u, q]
      have s2 : (am_u x 9 t 1 2) 9 u 2 = x 9 u 2 := by simp [am_u]
      rw [s1] at hs2
      rw [s2]
      exact v12 u hu hs2 m hm
theorem c_forget_st {x : am_N} {t v : Nat} : c_forget (am_u x 9 t 1 v) t = c_forget x t := by
  funext p q r
  unfold c_forget
  simp only [am_u]
  by_cases h : p = 9 ∧ q = t ∧ r = 1
  · simp [h]
  · simp only [if_neg h]
theorem r_ct0 {p : Nat → Bool} (h : r_ct p 4 = 0) : ∀ n, n < 4 → p n = false := by
  intro n hn
  have h4 : n = 0 ∨ n = 1 ∨ n = 2 ∨ n = 3 := by omega
  simp only [r_ct] at h
  cases h0 : p 0 <;> cases h1 : p 1 <;> cases h2 : p 2 <;> cases h3 : p 3 <;> simp [h0, h1, h2, h3] at h
  rcases h4 with rfl | rfl | rfl | rfl <;> assumption
theorem r_each0 {y : am_N} {k s t : Nat} {p : Nat → Bool} (h : ∀ n, n < 4 → p n = false) : r_each y k s t p = y := by
  simp [r_each, r_e, h 0 (by decide), h 1 (by decide), h 2 (by decide), h 3 (by decide)]
set_option maxRecDepth 100000 in
theorem pr_ct0 : ∀ m, m < 16 → (r_ct m.testBit 4 = 0 ↔ m = 0) := by decide +kernel
theorem r_ct_le (p : Nat → Bool) : r_ct p 4 ≤ 4 := by
  simp only [r_ct]
  cases p 0 <;> cases p 1 <;> cases p 2 <;> cases p 3 <;> decide
theorem op_commit {x y : am_N} (h : JJ (x, y)) (a : Int32) : w_X0_commit (x, y) a (fun r M1 => w_X5_commit M1 a (fun r2 M2 => r = r2 ∧ JJ M2)) := by
  obtain ⟨v1, v2, v3, v4, v6, v7, v8, -⟩ := (show VV x from h.1)
  obtain ⟨r1, r2, r3, r4, r5, r6, r7, r8, r9, r10, r11⟩ := (show RR x y from h.2)
  have hB := v1.1
  have e := r1.1
  rcases pr_cs a (B := x 0 0 3) (by omega) with ha | ⟨t, ht, rfl⟩
  · refine w_X0_commit_i (sC_isTx_f ha (pr_t (by decide) ?_))
    exact w_X5_commit_i (sR_noWork_f (show a < 0 ∨ nI (y 20 0 2) ≤ a by rw [← e]; exact ha) (br_f (by decide) ⟨rfl, h⟩))
  · have ht10 : t < 10 := by omega
    have f1 : t < y 20 0 2 := by omega
    have f2 : y 20 0 2 ≤ 10 := by omega
    obtain ⟨w1, w2, w3, w4, w5, w6⟩ := v2 t ht10
    obtain ⟨c1, c2⟩ := r7 t ht10
    have g := r3 _ w1
    have u3 := v3 _ w1
    have e24 : nI (y 24 0 t) = nI 1 ↔ x 9 t 1 = 1 := by rw [← c2]; exact pr_eq (by omega) (by omega)
    have p1 : nI (x 9 t 1) = nI 1 ↔ x 9 t 1 = 1 := pr_eq (by omega) (by omega)
    have hq : ∀ n, n < 4 → (x 9 t 2).testBit n = r_pd y 25 t n := fun n hn => (r8 t n ht10 hn).1
    have hct : r_ct (x 9 t 2).testBit 4 = r_ct (r_pd y 25 t) 4 := r_ct_c hq
    refine w_X0_commit_i (sC_isTx_t ht hB (pr_f (by decide) ⟨t, ht10, rfl, x 9 t 0, w1, rfl, fun q => ?_, fun q => ?_⟩))
    · have q : ¬ x 3 (x 9 t 0) 0 = 0 := fun z => q (by show nI (x 3 (x 9 t 0) 0) = 0; rw [z]; rfl)
      have up : nI (y 21 0 (x 9 t 0)) = 0 := (pr_eq0 (by omega)).mpr (by omega)
      refine ⟨fun z => ?_, fun z => ?_⟩
      · have z : x 9 t 1 = 1 := p1.mp z
        -- the reference, from any memory of the class
        have ref : ∀ (xx : am_N) (Q : Int32 → am_M → Prop), ((¬ nI (r_ct (r_pd y 25 t) 4) = 0 → Q (nI (r_ct (r_pd y 25 t) 4)) (xx, r_each (am_u y 24 0 t 2) 1 (y 23 0 t) t (r_pd y 25 t))) ∧ (nI (r_ct (r_pd y 25 t) 4) = 0 → Q (nI (r_ct (r_pd y 25 t) 4)) (xx, r_forget (r_each (am_u y 24 0 t 2) 1 (y 23 0 t) t (r_pd y 25 t)) t))) → w_X5_commit (xx, y) (nI t) Q := by
          intro xx Q hQ
          refine w_X5_commit_i (sR_noWork_t f1 f2 (br_t (by decide) ⟨t, ht10, rfl, x 9 t 0, w1, by show nI (y 23 0 t) = _; rw [c1], br_t up ⟨t, ht10, rfl, br_t (e24.mpr z) ⟨t, 2, ht10, rfl, rfl, 5, ?_⟩⟩⟩))
          refine sR_commitL ht10 (by have := v1.2; have := r1.2; show y 20 0 16 ≤ 40; omega) (fun n hn => by show y 25 0 (4 * t + n) < 1000; have := (r8 t n ht10 hn).2; omega) ?_
          exact ⟨fun z0 => hQ.1 z0, fun z0 => sR_forget ht10 (hQ.2 z0)⟩
        refine ⟨fun z2 => ?_, fun z2 => ?_⟩
        · have z2 : ¬ x 9 t 2 = 0 := fun z3 => z2 (by show nI (x 9 t 2) = 0; rw [z3]; rfl)
          refine ⟨2, rfl, ?_⟩
          have s0 : (am_u x 9 t 1 2) 9 t 0 = x 9 t 0 := by simp [am_u]
          have s2 : (am_u x 9 t 1 2) 9 t 2 = x 9 t 2 := by simp [am_u]
          show w_X2_sendToEach (am_u x 9 t 1 2, y) (nI 1) (nI ((am_u x 9 t 1 2) 9 t 0)) (nI ((am_u x 9 t 1 2) 9 t 2)) (nI t) _
          rw [s0, s2]
          refine sC_each w3 v1.2 ?_
          have s3 : (c_each (am_u x 9 t 1 2) 1 (x 9 t 0) t (x 9 t 2).testBit) 9 t 2 = x 9 t 2 := by
            rw [c_each_o (by decide) (by decide)]
            exact s2
          show w_J6_bitCount (c_each (am_u x 9 t 1 2) 1 (x 9 t 0) t (x 9 t 2).testBit, y) (nI ((c_each (am_u x 9 t 1 2) 1 (x 9 t 0) t (x 9 t 2).testBit) 9 t 2)) _
          rw [s3]
          refine sJ_bc w3 (ref _ _ ⟨fun _ => ?_, fun z4 => ?_⟩)
          · refine ⟨by rw [hct], JJ_mk ?_ ?_⟩
            · exact VV_each (by omega) w1 ht (fun _ => by simp [am_u]) (VV_stage2 z h.1)
            · rw [← c1]
              exact RR_each hq (RR_stage h.2)
          · have := (pr_eq0 (show r_ct (r_pd y 25 t) 4 < 1000 by have := r_ct_le (r_pd y 25 t); omega)).mp z4
            rw [← hct] at this
            exact absurd ((pr_ct0 _ w3).mp this) z2
        · have z2 : x 9 t 2 = 0 := (pr_eq0 (by omega)).mp z2
          have z3 : r_ct (r_pd y 25 t) 4 = 0 := by rw [← hct]; exact (pr_ct0 _ w3).mpr z2
          refine sC_forget (ref _ _ ⟨fun z4 => absurd (by rw [z3]; rfl) z4, fun _ => ⟨by rw [z3], JJ_mk (VV_forget (Or.inr rfl) h.1) ?_⟩⟩)
          rw [r_each0 (r_ct0 z3), ← c_forget_st (v := 2)]
          exact RR_forget ht10 (RR_stage h.2)
      · have z : ¬ x 9 t 1 = 1 := fun z2 => z (p1.mpr z2)
        exact w_X5_commit_i (sR_noWork_t f1 f2 (br_t (by decide) ⟨t, ht10, rfl, x 9 t 0, w1, by show nI (y 23 0 t) = _; rw [c1], br_t up ⟨t, ht10, rfl, br_f (fun z2 => z (e24.mp z2)) ⟨rfl, h⟩⟩⟩))
    · have q : x 3 (x 9 t 0) 0 = 0 := (pr_eq0 (by omega)).mp q
      have dn : ¬ nI (y 21 0 (x 9 t 0)) = 0 := fun z => by
        have := (pr_eq0 (show y 21 0 (x 9 t 0) < 1000 by omega)).mp z
        omega
      exact w_X5_commit_i (sR_noWork_t f1 f2 (br_t (by decide) ⟨t, ht10, rfl, x 9 t 0, w1, by show nI (y 23 0 t) = _; rw [c1], br_f dn ⟨rfl, h⟩⟩))
/-! work -/
theorem tb_or {m n i : Nat} : (m ||| 2 ^ n).testBit i = (m.testBit i || decide (n = i)) := by
  rw [Nat.testBit_or, Nat.testBit_two_pow]
theorem JJ_member {x y : am_N} {n t : Nat} (hn : n < 4) (ht : t < x 0 0 3) (hs : x 9 t 1 = 1) (hb : (x 9 t 2).testBit n = false) (h : JJ (x, y)) : JJ (am_u (am_u x 9 t 2 (x 9 t 2 ||| 2 ^ n)) 4 n t 1, am_u (am_u y 25 0 (4 * t + n) 1) 29 0 (4 * t + n) 1) := by
  obtain ⟨v1, v2, v3, v4, v6, v7, v8, v9, v10, v11, v12, v13, v14⟩ := (show VV x from h.1)
  obtain ⟨r1, r2, r3, r4, r5, r6, r7, r8, r9, r10, r11⟩ := (show RR x y from h.2)
  have hB := v1.1
  have ht10 : t < 10 := by omega
  obtain ⟨b1, b2, b3⟩ := v12 t ht10 hs n hn
  obtain ⟨b4, b5, b6⟩ := b3 hb
  refine JJ_mk ⟨v1, ?_, v3, ?_, ?_, ?_, v8, v9, ?_, ?_, ?_, v13, ?_⟩ ⟨r1, r2, r3, ?_, r5, r6, ?_, ?_, ?_, ?_, ?_⟩
  · intro u hu
    have g := v2 u hu
    by_cases q : u = t
    · subst q; simp [am_u]; exact ⟨g.1, g.2.1, pr_or16 _ g.2.2.1 _ hn, g.2.2.2⟩
    · simpa [am_u, q] using g
  · intro m u hm hu
    have g := v4 m u hm hu
    by_cases q : m = n ∧ u = t
    · obtain ⟨rfl, rfl⟩ := q; simp [am_u]; exact g.2
    · simpa [am_u, q] using g
  · intro u hu hle
    have q : ¬ u = t := by have hle : x 0 0 3 ≤ u := hle; omega
    simpa [am_u, q] using v6 u hu hle
  · intro k hk
    obtain ⟨g1, g2, g3, g4, g5, g6⟩ := v7 k hk
    refine ⟨g1, g2, g3, g4, g5, fun z => ?_⟩
    simpa [am_u] using g6 z
  · intro m u hm hu
    by_cases q : m = n ∧ u = t
    · obtain ⟨rfl, rfl⟩ := q
      refine ⟨fun _ => ⟨b1, b4, b5⟩, fun z => ?_⟩
      have : (am_u (am_u x 9 u 2 (x 9 u 2 ||| 2 ^ m)) 4 m u 1) 4 m u = 1 := by simp [am_u]
      omega
    · have g := v10 m u hm hu
      have s : (am_u (am_u x 9 t 2 (x 9 t 2 ||| 2 ^ n)) 4 n t 1) 4 m u = x 4 m u := by simp [am_u, q]
      rw [s]
      exact g
  · intro u hu hue
    have s0 : (am_u (am_u x 9 t 2 (x 9 t 2 ||| 2 ^ n)) 4 n t 1) 9 u 0 = x 9 u 0 := by simp [am_u]
    have s1 : (am_u (am_u x 9 t 2 (x 9 t 2 ||| 2 ^ n)) 4 n t 1) 9 u 1 = x 9 u 1 := by simp [am_u]
    rw [s0, s1]
    exact v11 u hu hue
  · intro u hu hs2 m hm
    have s1 : (am_u (am_u x 9 t 2 (x 9 t 2 ||| 2 ^ n)) 4 n t 1) 9 u 1 = x 9 u 1 := by simp [am_u]
    rw [s1] at hs2
    obtain ⟨a1, a2, a3⟩ := v12 u hu hs2 m hm
    by_cases q : u = t
    · subst q
      have s2 : (am_u (am_u x 9 u 2 (x 9 u 2 ||| 2 ^ n)) 4 n u 1) 9 u 2 = x 9 u 2 ||| 2 ^ n := by simp [am_u]
      rw [s2, tb_or]
      by_cases qm : m = n
      · subst qm
        refine ⟨a1, ?_, fun z => ?_⟩
        · simp [am_u]
        · simp at z
      · have s4 : (am_u (am_u x 9 u 2 (x 9 u 2 ||| 2 ^ n)) 4 n u 1) 4 m u = x 4 m u := by simp [am_u, qm]
        rw [s4]
        have nq : decide (n = m) = false := by simp; omega
        rw [nq, Bool.or_false]
        exact ⟨a1, a2, a3⟩
    · have s2 : (am_u (am_u x 9 t 2 (x 9 t 2 ||| 2 ^ n)) 4 n t 1) 9 u 2 = x 9 u 2 := by simp [am_u, q]
      have s4 : (am_u (am_u x 9 t 2 (x 9 t 2 ||| 2 ^ n)) 4 n t 1) 4 m u = x 4 m u := by simp [am_u, q]
      rw [s2, s4]
      exact ⟨a1, a2, a3⟩
  · intro m hm
    obtain ⟨g1, g2⟩ := v14 m hm
    refine ⟨fun hu i u hi e a2 a3 => ?_, g2⟩
    have g := g1 hu i u hi e a2 a3
    by_cases q : m = n ∧ u = t
    · obtain ⟨rfl, rfl⟩ := q
      exact absurd ⟨i, hi, e⟩ b1
    · have s : (am_u (am_u x 9 t 2 (x 9 t 2 ||| 2 ^ n)) 4 n t 1) 4 m u = x 4 m u := by simp [am_u, q]
      rw [s]
      exact g
  · intro m u hm hu
    have g := r4 m u hm hu
    by_cases q : m = n ∧ u = t
    · obtain ⟨rfl, rfl⟩ := q; simp [am_u]
    · have ne : ¬ 4 * u + m = 4 * t + n := by omega
      simpa [am_u, q, ne] using g
  · intro u hu
    simpa [am_u] using r7 u hu
  · intro u m hu hm
    have g := r8 u m hu hm
    by_cases q : u = t
    · subst q
      by_cases qm : m = n
      · subst qm
        simp [am_u, tb_or]
      · have ne : ¬ 4 * u + m = 4 * u + n := by omega
        have nq : decide (n = m) = false := by simp; omega
        have nm : ¬ n = m := by omega
        simp only [am_u]
        simp [Nat.testBit_two_pow, nm, qm]
        simpa using g
    · have ne : ¬ 4 * u + m = 4 * t + n := by omega
      simpa [am_u, q, ne] using g
  · intro u m hu hm
    simpa [am_u] using r9 u m hu hm
  · intro u m hu hm
    simpa [am_u] using r10 u m hu hm
  · intro u m hu hm
    simpa [am_u] using r11 u m hu hm
theorem JJ_refuse {x y : am_N} {n t : Nat} (hn : n < 4) (ht : t < x 0 0 3) (hs : x 9 t 1 = 1) (hb : (x 9 t 2).testBit n = true) (hst : x 4 n t = 1 ∨ x 4 n t = 2) (h : JJ (x, y)) : JJ (am_u x 4 n t 2, am_u y 29 0 (4 * t + n) 2) := by
  obtain ⟨v1, v2, v3, v4, v6, v7, v8, v9, v10, v11, v12, v13, v14⟩ := (show VV x from h.1)
  obtain ⟨r1, r2, r3, r4, r5, r6, r7, r8, r9, r10, r11⟩ := (show RR x y from h.2)
  have hB := v1.1
  have ht10 : t < 10 := by omega
  have b := (v10 n t hn ht10).1 hst
  refine JJ_mk ⟨v1, v2, v3, ?_, ?_, v7, v8, v9, ?_, v11, ?_, v13, ?_⟩ ⟨r1, r2, r3, ?_, r5, r6, r7, r8, r9, r10, r11⟩
  · intro m u hm hu
    have g := v4 m u hm hu
    by_cases q : m = n ∧ u = t
    · obtain ⟨rfl, rfl⟩ := q; simp [am_u]; exact g.2
    · simpa [am_u, q] using g
  · intro u hu hle
    have q : ¬ u = t := by have hle : x 0 0 3 ≤ u := hle; omega
    simpa [am_u, q] using v6 u hu hle
  · intro m u hm hu
    by_cases q : m = n ∧ u = t
    · obtain ⟨rfl, rfl⟩ := q
      refine ⟨fun _ => b, fun z => ?_⟩
      have : (am_u x 4 m u 2) 4 m u = 2 := by simp [am_u]
      omega
    · have s : (am_u x 4 n t 2) 4 m u = x 4 m u := by simp [am_u, q]
      rw [s]
      exact v10 m u hm hu
  · intro u hu hs2 m hm
    obtain ⟨a1, a2, a3⟩ := v12 u hu hs2 m hm
    by_cases q : m = n ∧ u = t
    · obtain ⟨rfl, rfl⟩ := q
      refine ⟨a1, by simp [am_u], fun z => ?_⟩
      have z : (x 9 u 2).testBit m = false := z
      rw [hb] at z
      cases z
    · have s : (am_u x 4 n t 2) 4 m u = x 4 m u := by simp [am_u, q]
      rw [s]
      exact ⟨a1, a2, a3⟩
  · intro m hm
    obtain ⟨g1, g2⟩ := v14 m hm
    refine ⟨fun hu i u hi e a2 a3 => ?_, g2⟩
    have g := g1 hu i u hi e a2 a3
    by_cases q : m = n ∧ u = t
    · obtain ⟨rfl, rfl⟩ := q
      exact absurd ⟨i, hi, e⟩ b.1
    · have s : (am_u x 4 n t 2) 4 m u = x 4 m u := by simp [am_u, q]
      rw [s]
      exact g
  · intro m u hm hu
    have g := r4 m u hm hu
    by_cases q : m = n ∧ u = t
    · obtain ⟨rfl, rfl⟩ := q; simp [am_u]
    · have ne : ¬ 4 * u + m = 4 * t + n := by omega
      simpa [am_u, q, ne] using g
theorem JJ_grant {x y : am_N} {n t r : Nat} (hn : n < 4) (ht : t < x 0 0 3) (hr8 : r < 8) (hup : x 3 n 0 = 1) (hst : x 4 n t = 1) (ho : y 30 0 (8 * n + r) = 0 ∨ y 30 0 (8 * n + r) = t + 1) (h : JJ (x, y)) : JJ (am_u x 5 n t (x 5 n t ||| 2 ^ r), am_u y 30 0 (8 * n + r) (t + 1)) := by
  obtain ⟨v1, v2, v3, v4, v6, v7, v8, v9, v10, v11, v12, v13, v14⟩ := (show VV x from h.1)
  obtain ⟨r1, r2, r3, r4, r5, r6, r7, r8, r9, r10, r11⟩ := (show RR x y from h.2)
  have hB := v1.1
  have ht10 : t < 10 := by omega
  have b := (v10 n t hn ht10).1 (Or.inl hst)
  refine JJ_mk ⟨v1, v2, v3, ?_, ?_, v7, v8, v9, v10, v11, v12, v13, ?_⟩ ⟨r1, r2, r3, r4, ⟨?_, ?_⟩, r6, r7, r8, r9, r10, r11⟩
  · intro m u hm hu
    have g := v4 m u hm hu
    by_cases q : m = n ∧ u = t
    · obtain ⟨rfl, rfl⟩ := q; simp [am_u]; exact ⟨g.1, pr_or256 _ g.2 _ hr8⟩
    · simpa [am_u, q] using g
  · intro u hu hle
    have q : ¬ u = t := by have hle : x 0 0 3 ≤ u := hle; omega
    simpa [am_u, q] using v6 u hu hle
  · intro m hm
    obtain ⟨g1, g2⟩ := v14 m hm
    refine ⟨fun hu i u hi e a2 a3 => ?_, fun hu u hu2 => ?_⟩
    · have g := g1 hu i u hi e a2 a3
      by_cases q : m = n ∧ u = t
      · obtain ⟨rfl, rfl⟩ := q
        exact absurd ⟨i, hi, e⟩ b.1
      · have s : (am_u x 5 n t (x 5 n t ||| 2 ^ r)) 5 m u = x 5 m u := by simp [am_u, q]
        rw [s]
        exact g
    · have hu : x 3 m 0 = 0 := hu
      have q : ¬ m = n := fun z => by subst z; omega
      have s : (am_u x 5 n t (x 5 n t ||| 2 ^ r)) 5 m u = x 5 m u := by simp [am_u, q]
      rw [s]
      exact g2 hu u hu2
  · intro m u i hm hu hi
    have g := r5.1 m u i hm hu hi
    by_cases q : m = n
    · subst q
      by_cases qi : i = r
      · subst qi
        by_cases qu : u = t
        · subst qu
          simp [am_u, tb_or]
        · simp only [am_u]
          simp [qu]
          rw [g]
          have n1 : ¬ t = u := fun z => qu z.symm
          rcases ho with ho | ho
          · rw [ho]; simp [n1]
          · rw [ho]; simp [n1]
      · have ne : ¬ 8 * m + i = 8 * m + r := by omega
        by_cases qu : u = t
        · subst qu
          have nq : decide (r = i) = false := by simp; omega
          have nm : ¬ r = i := by omega
          simp only [am_u]
          simp [qi, Nat.testBit_two_pow, nm]
          exact g
        · simp only [am_u]
          simp [qi, qu]
          exact g
    · have ne : ¬ 8 * m + i = 8 * n + r := by omega
      simpa [am_u, q, ne] using g
  · intro c hc
    have g := r5.2 c hc
    by_cases q : c = 8 * n + r
    · subst q; simp [am_u]; omega
    · simpa [am_u, q] using g
