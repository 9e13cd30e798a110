/-! how the small steps keep it -/
theorem am_uc {x : am_N} {a b k v a2 b2 k2 v2 : Nat} (h : a ≠ a2) : am_u (am_u x a b k v) a2 b2 k2 v2 = am_u (am_u x a2 b2 k2 v2) a b k v := by
  funext p q r
  unfold am_u
  by_cases h1 : p = a2 ∧ q = b2 ∧ r = k2
  · have h2 : ¬ (p = a ∧ q = b ∧ r = k) := fun z => h (z.1.symm.trans h1.1)
    rw [if_pos h1, if_neg h2, if_pos h1]
  · rw [if_neg h1]
    by_cases h2 : p = a ∧ q = b ∧ r = k
    · rw [if_pos h2, if_pos h2]
    · rw [if_neg h2, if_neg h2, if_neg h1]
theorem VV_take {e : Nat} {x : am_N} {k : Nat} (hk : k < x 1 0 1) (h : VW e x) : VW e (c_take x k) := by
  obtain ⟨v1, v2, v3, v4, v6, v7, v8, v9, v10, v11, v12, v13, v14⟩ := h
  refine ⟨⟨v1.1, ?_⟩, v2, v3, v4, v6, ?_, v8, v9, v10, v11, v12, v13, v14⟩
  · show x 1 0 1 - 1 ≤ 40
    have := v1.2
    omega
  · intro j hj
    have hj : j < x 1 0 1 - 1 := hj
    by_cases q : k ≤ j
    · have g := v7 (j + 1) (by omega)
      simpa [c_take, c_tk, am_u, q, hj] using g
    · have g := v7 j (by omega)
      simpa [c_take, c_tk, am_u, q] using g
theorem VV_send {e : Nat} {x : am_N} {k s r t : Nat} (hk : 1 ≤ k ∧ k ≤ 8) (hs : s < 4) (hr : r < 4) (ht : t < x 0 0 3) (h1 : k = 1 → x 9 t 1 ≠ 1) (h : VW e x) : VW e (c_send x k s r t) := by
  unfold c_send
  split
  · rename_i hc
    obtain ⟨v1, v2, v3, v4, v6, v7, v8, v9, v10, v11, v12, v13, v14⟩ := h
    refine ⟨⟨v1.1, ?_⟩, v2, v3, v4, v6, ?_, v8, v9, v10, v11, v12, v13, v14⟩
    · show x 1 0 1 + 1 ≤ 40
      omega
    · intro j hj
      have hj : j < x 1 0 1 + 1 := hj
      by_cases q : j = x 1 0 1
      · subst q
        simpa [am_u] using ⟨hk.1, hk.2, hs, hr, ht, h1⟩
      · have g := v7 j (by omega)
        simpa [am_u, q] using g
  · exact h
theorem c_send_o {x : am_N} {k s r t a : Nat} (h1 : a ≠ 1) (h2 : a ≠ 2) : (c_send x k s r t) a = x a := by
  funext b c
  unfold c_send
  split
  · simp only [am_u]
    rw [if_neg (by omega), if_neg (by omega), if_neg (by omega), if_neg (by omega), if_neg (by omega)]
  · rfl
theorem c_e_o {x : am_N} {k s t n a : Nat} {p : Nat → Bool} (h1 : a ≠ 1) (h2 : a ≠ 2) : (c_e k s t p x n) a = x a := by
  unfold c_e
  split
  · exact c_send_o h1 h2
  · rfl
theorem c_each_o {x : am_N} {k s t a : Nat} {p : Nat → Bool} (h1 : a ≠ 1) (h2 : a ≠ 2) : (c_each x k s t p) a = x a := by
  unfold c_each
  rw [c_e_o h1 h2, c_e_o h1 h2, c_e_o h1 h2, c_e_o h1 h2]
theorem VV_e {e : Nat} {x : am_N} {k s t n : Nat} {p : Nat → Bool} (hk : 1 ≤ k ∧ k ≤ 8) (hs : s < 4) (hn : n < 4) (ht : t < x 0 0 3) (h1 : k = 1 → x 9 t 1 ≠ 1) (h : VW e x) : VW e (c_e k s t p x n) := by
  unfold c_e
  split
  · exact VV_send hk hs hn ht h1 h
  · exact h
theorem VV_each {e : Nat} {x : am_N} {k s t : Nat} {p : Nat → Bool} (hk : 1 ≤ k ∧ k ≤ 8) (hs : s < 4) (ht : t < x 0 0 3) (h1 : k = 1 → x 9 t 1 ≠ 1) (h : VW e x) : VW e (c_each x k s t p) := by
  have o0 : ∀ (z : am_N) (n : Nat), (c_e k s t p z n) 0 = z 0 := fun z n => c_e_o (by decide) (by decide)
  have o9 : ∀ (z : am_N) (n : Nat), (c_e k s t p z n) 9 = z 9 := fun z n => c_e_o (by decide) (by decide)
  unfold c_each
  refine VV_e hk hs (by decide) (by rw [o0, o0, o0]; exact ht) (by rw [o9, o9, o9]; exact h1) ?_
  refine VV_e hk hs (by decide) (by rw [o0, o0]; exact ht) (by rw [o9, o9]; exact h1) ?_
  refine VV_e hk hs (by decide) (by rw [o0]; exact ht) (by rw [o9]; exact h1) ?_
  exact VV_e hk hs (by decide) ht h1 h
/-- owners are one: what two transactions hold at a node is apart -/
theorem RR_dis {x y : am_N} {n t u : Nat} (h5 : R5 x y) (hn : n < 4) (ht : t < 10) (hu : u < 10) (hne : t ≠ u) (hx : x 5 n t < 256) : x 5 n t &&& x 5 n u = 0 := by
  apply Nat.eq_of_testBit_eq
  intro i
  rw [Nat.testBit_and, Nat.zero_testBit]
  by_cases hi : i < 8
  · rw [h5.1 n t i hn ht hi, h5.1 n u i hn hu hi]
    by_cases q : y 30 0 (8 * n + i) = t + 1
    · have q2 : ¬ y 30 0 (8 * n + i) = u + 1 := by omega
      simp [q2]
    · simp [q]
  · have h0 : (x 5 n t).testBit i = false := Nat.testBit_lt_two_pow (Nat.lt_of_lt_of_le hx (Nat.pow_le_pow_right (n := 2) (by decide) (show 8 ≤ i by omega)))
    rw [h0]
    rfl
/-! a record more -/
theorem hr_write {x : am_N} {n t kd w m L : Nat} (hl : x 6 n 2 < 60) : hr (c_write x n t kd w) m L ↔ hr x m L ∨ (m = n ∧ L = 10 * t + kd) := by
  unfold hr c_write
  rw [if_pos hl]
  by_cases q : m = n
  · subst q
    constructor
    · rintro ⟨k, hk, e⟩
      have hk : k < x 6 m 2 + 1 := by simpa [am_u] using hk
      by_cases q2 : k = x 6 m 2
      · subst q2
        exact Or.inr ⟨rfl, by simpa [am_u] using e.symm⟩
      · exact Or.inl ⟨k, by omega, by simpa [am_u, q2] using e⟩
    · rintro (⟨k, hk, e⟩ | ⟨-, e⟩)
      · have q2 : ¬ k = x 6 m 2 := by omega
        exact ⟨k, by simp [am_u]; omega, by simpa [am_u, q2] using e⟩
      · exact ⟨x 6 m 2, by simp [am_u], by simp [am_u, e]⟩
  · constructor
    · rintro ⟨k, hk, e⟩
      exact Or.inl ⟨k, by simpa [am_u, q] using hk, by simpa [am_u, q] using e⟩
    · rintro (⟨k, hk, e⟩ | ⟨z, -⟩)
      · exact ⟨k, by simpa [am_u, q] using hk, by simpa [am_u, q] using e⟩
      · exact absurd z q
theorem V_len {x : am_N} {n t kd : Nat} (hn : n < 4) (hB : x 0 0 3 ≤ 10) (v8 : V8 x) (v9 : V9 x) (ht : t < x 0 0 3) (hk : 1 ≤ kd ∧ kd ≤ 6) (hno : ¬ hr x n (10 * t + kd)) : x 6 n 2 < 60 := by
  obtain ⟨g1, g2, g3⟩ := v8 n hn
  have key := v_php 60 (x 6 n 2 + 1) (fun i => if i = x 6 n 2 then 6 * t + (kd - 1) else 6 * (x 7 n i / 10) + (x 7 n i % 10 - 1)) ?_ ?_
  · omega
  · intro i hi
    show (if i = x 6 n 2 then 6 * t + (kd - 1) else 6 * (x 7 n i / 10) + (x 7 n i % 10 - 1)) < 60
    split
    · omega
    · have := g3 i (by omega)
      omega
  · intro i j hij hj
    show (if i = x 6 n 2 then 6 * t + (kd - 1) else 6 * (x 7 n i / 10) + (x 7 n i % 10 - 1)) ≠ (if j = x 6 n 2 then 6 * t + (kd - 1) else 6 * (x 7 n j / 10) + (x 7 n j % 10 - 1))
    have gi := g3 i (by omega)
    rw [if_neg (show ¬ i = x 6 n 2 by omega)]
    split
    · intro e
      exact hno ⟨i, by omega, by omega⟩
    · have gj := g3 j (by omega)
      have d := v9 n hn i j hij (by omega)
      omega
theorem W8 {x : am_N} {n t kd w : Nat} (hn : n < 4) (hl : x 6 n 2 < 60) (ht : t < x 0 0 3) (hk : 1 ≤ kd ∧ kd ≤ 6) (hw1 : kd = 1 → w < 256) (hw4 : kd = 4 → w < 16) (v8 : V8 x) : V8 (c_write x n t kd w) := by
  unfold c_write
  rw [if_pos hl]
  intro m hm
  obtain ⟨g1, g2, g3⟩ := v8 m hm
  by_cases q : m = n
  · subst q
    refine ⟨by simp [am_u]; omega, by simp [am_u]; omega, fun k hk2 => ?_⟩
    have hk2 : k < x 6 m 2 + 1 := by simpa [am_u] using hk2
    by_cases q2 : k = x 6 m 2
    · subst q2
      have e1 : (10 * t + kd) / 10 = t := by omega
      have e2 : (10 * t + kd) % 10 = kd := by omega
      simp only [am_u]
      simp [e1, e2]
      exact ⟨ht, hk.1, hk.2, hw1, hw4⟩
    · have g := g3 k (by omega)
      simpa [am_u, q2] using g
  · refine ⟨by simpa [am_u, q] using g1, by simpa [am_u, q] using g2, fun k hk2 => ?_⟩
    have hk2 : k < x 6 m 2 := by simpa [am_u, q] using hk2
    simpa [am_u, q] using g3 k hk2
theorem W9 {x : am_N} {n t kd w : Nat} (hl : x 6 n 2 < 60) (hno : ¬ hr x n (10 * t + kd)) (v9 : V9 x) : V9 (c_write x n t kd w) := by
  unfold c_write
  rw [if_pos hl]
  intro m hm i j hij hj
  by_cases q : m = n
  · subst q
    have hj : j < x 6 m 2 + 1 := by simpa [am_u] using hj
    have qi : ¬ i = x 6 m 2 := by omega
    by_cases q2 : j = x 6 m 2
    · subst q2
      simp [am_u, qi]
      exact fun e => hno ⟨i, hij, e⟩
    · have g := v9 m hm i j hij (by omega)
      simpa [am_u, q2, qi] using g
  · have hj : j < x 6 m 2 := by simpa [am_u, q] using hj
    have g := v9 m hm i j hij hj
    simpa [am_u, q] using g
theorem c_write_o {x : am_N} {n t kd w a : Nat} (h : a < 6 ∨ 8 < a) : (c_write x n t kd w) a = x a := by
  funext b c
  unfold c_write
  split
  · simp only [am_u]
    rw [if_neg (by omega), if_neg (by omega), if_neg (by omega)]
  · rfl
