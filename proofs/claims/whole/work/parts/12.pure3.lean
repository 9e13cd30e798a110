/-! the two memories hold the same -/
def R1 (x y : am_N) : Prop := x 0 0 3 = y 20 0 2 ∧ x 1 0 1 = y 20 0 16
def R2 (x y : am_N) : Prop := ∀ k, k < x 1 0 1 → x 2 0 k = y 36 0 k ∧ x 2 1 k = y 37 0 k ∧ x 2 2 k = y 38 0 k ∧ x 2 3 k = y 39 0 k
def R3 (x y : am_N) : Prop := ∀ n, n < 4 → x 3 n 0 + y 21 0 n = 1
def R4 (x y : am_N) : Prop := ∀ n t, n < 4 → t < 10 → x 4 n t = y 29 0 (4 * t + n)
def R5 (x y : am_N) : Prop := (∀ n t r, n < 4 → t < 10 → r < 8 → (x 5 n t).testBit r = decide (y 30 0 (8 * n + r) = t + 1)) ∧ ∀ c, c < 32 → y 30 0 c ≤ 10
def R6 (x y : am_N) : Prop := ∀ n, n < 4 → x 6 n 2 = y 31 0 n ∧ x 6 n 4 = y 22 0 n ∧ ∀ k, k < x 6 n 2 → x 7 n k = 10 * y 32 0 (64 * n + k) + y 33 0 (64 * n + k) ∧ y 33 0 (64 * n + k) < 10 ∧ x 8 n k = y 34 0 (64 * n + k) ∧ y 35 0 (64 * n + k) = (if k < x 6 n 3 then 1 else 0) ∧ (x 7 n k % 10 = 4 → y 23 0 (x 7 n k / 10) = n)
def R7 (x y : am_N) : Prop := ∀ t, t < 10 → x 9 t 0 = y 23 0 t ∧ x 9 t 1 = y 24 0 t
def R8 (c d : Nat) (x y : am_N) : Prop := ∀ t n, t < 10 → n < 4 → (x 9 t c).testBit n = decide (y d 0 (4 * t + n) ≠ 0) ∧ y d 0 (4 * t + n) < 2
def RR (x y : am_N) : Prop := R1 x y ∧ R2 x y ∧ R3 x y ∧ R4 x y ∧ R5 x y ∧ R6 x y ∧ R7 x y ∧ R8 2 25 x y ∧ R8 3 26 x y ∧ R8 4 27 x y ∧ R8 5 28 x y
theorem RR_send {x y : am_N} {k s r t : Nat} (h : RR x y) : RR (c_send x k s r t) (r_send y k s r t) := by
  obtain ⟨h1, h2, h3, h4, h5, h6, h7, h8, h9, h10, h11⟩ := h
  unfold c_send r_send
  rw [← h1.2]
  split
  · refine ⟨⟨h1.1, ?_⟩, ?_, h3, h4, h5, h6, h7, h8, h9, h10, h11⟩
    · rfl
    · intro j hj
      have hj : j < x 1 0 1 + 1 := hj
      by_cases q : j = x 1 0 1
      · subst q
        simp [am_u]
      · have g := h2 j (by omega)
        simpa [am_u, q] using g
  · exact ⟨h1, h2, h3, h4, h5, h6, h7, h8, h9, h10, h11⟩
theorem RR_e {x y : am_N} {k s t n : Nat} {p : Nat → Bool} (h : RR x y) : RR (c_e k s t p x n) (r_e k s t p y n) := by
  unfold c_e r_e
  split
  · exact RR_send h
  · exact h
theorem RR_each {x y : am_N} {k s t : Nat} {p q : Nat → Bool} (hpq : ∀ n, n < 4 → p n = q n) (h : RR x y) : RR (c_each x k s t p) (r_each y k s t q) := by
  have e : ∀ (z : am_N) (n : Nat), n < 4 → r_e k s t q z n = r_e k s t p z n := fun z n hn => by unfold r_e; rw [hpq n hn]
  unfold c_each r_each
  rw [e _ 0 (by decide), e _ 1 (by decide), e _ 2 (by decide), e _ 3 (by decide)]
  exact RR_e (RR_e (RR_e (RR_e h)))
theorem RR_take {x y : am_N} {k : Nat} (hk : k < x 1 0 1) (h : RR x y) : RR (c_take x k) (r_take y k) := by
  obtain ⟨h1, h2, h3, h4, h5, h6, h7, h8, h9, h10, h11⟩ := h
  refine ⟨⟨h1.1, ?_⟩, ?_, h3, h4, h5, h6, h7, h8, h9, h10, h11⟩
  · show x 1 0 1 - 1 = y 20 0 16 - 1
    rw [h1.2]
  · intro j hj
    have hj : j < x 1 0 1 - 1 := hj
    unfold c_take r_take c_tk r_tk
    rw [← h1.2]
    by_cases q : k ≤ j
    · have g := h2 (j + 1) (by omega)
      simpa [q, hj, am_u] using g
    · have g := h2 j (by omega)
      simpa [q, am_u] using g
theorem RR_write {x y : am_N} {n t kd w : Nat} (hn : n < 4) (hl : x 6 n 2 < 60) (hL : ∀ m, m < 4 → x 6 m 2 ≤ 60) (hs : x 6 n 3 ≤ x 6 n 2) (hkd : kd < 10) (h : RR x y) (h4 : kd = 4 → y 23 0 t = n := by omega) : RR (c_write x n t kd w) (r_write y n t kd w) := by
  obtain ⟨h1, h2, h3, h4', h5, h6, h7, h8, h9, h10, h11⟩ := h
  have e := (h6 n hn).1
  unfold c_write r_write
  rw [if_pos hl, ← e]
  refine ⟨h1, h2, h3, h4', h5, ?_, h7, h8, h9, h10, h11⟩
  intro m hm
  obtain ⟨g1, g2, g3⟩ := h6 m hm
  by_cases q : m = n
  · subst q
    refine ⟨by simp [am_u], by simpa [am_u] using g2, fun k hk => ?_⟩
    have hk : k < x 6 m 2 + 1 := by simpa [am_u] using hk
    by_cases q2 : k = x 6 m 2
    · subst q2
      have ns : ¬ x 6 m 2 < x 6 m 3 := by omega
      refine ⟨by simp [am_u], by simpa [am_u] using hkd, by simp [am_u], by simp [am_u, ns], ?_⟩
      have e1 : (10 * t + kd) % 10 = kd := by omega
      have e2 : (10 * t + kd) / 10 = t := by omega
      simpa [am_u, e1, e2] using h4
    · have g := g3 k (by omega)
      have ne : ¬ 64 * m + k = 64 * m + x 6 m 2 := by omega
      simpa [am_u, q2, ne] using g
  · refine ⟨by simpa [am_u, q] using g1, by simpa [am_u] using g2, fun k hk => ?_⟩
    have hk : k < x 6 m 2 := by simpa [am_u, q] using hk
    have g := g3 k hk
    have hlen := hL m hm
    have ne : ¬ 64 * m + k = 64 * n + x 6 n 2 := by omega
    simpa [am_u, q, ne] using g
theorem RR_force {x y : am_N} {n t kd w : Nat} (hn : n < 4) (hl : x 6 n 2 < 60) (hL : ∀ m, m < 4 → x 6 m 2 ≤ 60) (hs : x 6 n 3 ≤ x 6 n 2) (hkd : kd < 10) (h : RR x y) (h4 : kd = 4 → y 23 0 t = n := by omega) : RR (c_force x n t kd w) (r_force y n t kd w) := by
  have hw := RR_write (t := t) (w := w) hn hl hL hs hkd h h4
  have e1 : (c_write x n t kd w) 6 n 2 = x 6 n 2 + 1 := by simp [c_write, hl, am_u]
  have e2 : (r_write y n t kd w) 31 0 n = y 31 0 n + 1 := by simp [r_write, am_u]
  have e3 : (r_write y n t kd w) 22 0 n = y 22 0 n := rfl
  have e4 : ∀ m, m < 4 → (c_write x n t kd w) 6 m 2 ≤ 60 := fun m hm => by
    have := hL m hm
    by_cases q : m = n
    · subst q; omega
    · simpa [c_write, hl, am_u, q] using this
  have e5 := (h.2.2.2.2.2.1 n hn).1
  unfold c_force r_force
  rw [← e3]
  generalize c_write x n t kd w = X at hw e1 e4 ⊢
  generalize r_write y n t kd w = Y at hw e2 e3 ⊢
  clear e3
  obtain ⟨h1, h2, h3, h4, h5, h6, h7, h8, h9, h10, h11⟩ := hw
  refine ⟨h1, h2, h3, h4, h5, ?_, h7, h8, h9, h10, h11⟩
  intro m hm
  obtain ⟨g1, g2, g3⟩ := h6 m hm
  by_cases q : m = n
  · subst q
    refine ⟨by simpa [am_u, r_sf] using g1, by simp [am_u, g2], fun k hk => ?_⟩
    have hk : k < X 6 m 2 := by simpa [am_u] using hk
    have g := g3 k hk
    have c1 : 64 * m ≤ 64 * m + k ∧ 64 * m + k < 64 * m + (y 31 0 m + 1) := by omega
    simp only [am_u, r_sf] at g ⊢
    have g5 := g.2.2.2.2
    refine ⟨by simpa using g.1, by simpa using g.2.1, by simpa using g.2.2.1, ?_, by simpa using g5⟩
    simp [hk]
    omega
  · refine ⟨by simpa [am_u, r_sf, q] using g1, by simpa [am_u, r_sf, q] using g2, fun k hk => ?_⟩
    have hk : k < X 6 m 2 := by simpa [am_u, q] using hk
    have g := g3 k hk
    have hlen := e4 m hm
    have hln := hL n hn
    have ne : ¬ (64 * n ≤ 64 * m + k ∧ 64 * m + k < 64 * n + (y 31 0 n + 1)) := by omega
    simpa [am_u, r_sf, q, ne] using g
theorem RR_letGo {x y : am_N} {n t : Nat} (hn : n < 4) (ht : t < 10) (h : RR x y) : RR (c_letGo x n t) (r_letGo y n t) := by
  obtain ⟨h1, h2, h3, h4, h5, h6, h7, h8, h9, h10, h11⟩ := h
  refine ⟨h1, h2, h3, ?_, ⟨?_, ?_⟩, h6, h7, h8, h9, h10, h11⟩
  · intro m u hm hu
    have g := h4 m u hm hu
    by_cases q : m = n ∧ u = t
    · obtain ⟨rfl, rfl⟩ := q
      simp [c_letGo, r_letGo, am_u]
    · have ne : ¬ 4 * u + m = 4 * t + n := by omega
      simpa [c_letGo, r_letGo, am_u, r_lg, q, ne] using g
  · intro m u r hm hu hr
    have g := h5.1 m u r hm hu hr
    simp only [c_letGo, r_letGo, am_u, r_lg]
    by_cases q : m = n
    · subst q
      have c1 : 8 * m ≤ 8 * m + r ∧ 8 * m + r < 8 * m + 8 := by omega
      by_cases q2 : u = t
      · subst q2
        by_cases q3 : y 30 0 (8 * m + r) = u + 1
        · simp [q3, hr]
        · simp [q3]
      · by_cases q3 : y 30 0 (8 * m + r) = t + 1
        · have q4 : ¬ t = u := fun z => q2 z.symm
          rw [q3] at g
          simp [q3, hr, q2, g, q4]
        · simp [q3, q2, g]
    · have c1 : ¬ (8 * n ≤ 8 * m + r ∧ 8 * m + r < 8 * n + 8 ∧ y 30 0 (8 * m + r) = t + 1) := by omega
      simp [q, c1, g]
  · intro c hc
    have g := h5.2 c hc
    simp only [r_letGo, am_u, r_lg]
    simp
    split <;> omega
theorem RR_forget {x y : am_N} {t : Nat} (ht : t < 10) (h : RR x y) : RR (c_forget x t) (r_forget y t) := by
  obtain ⟨h1, h2, h3, h4, h5, h6, h7, h8, h9, h10, h11⟩ := h
  have key : ∀ (c d : Nat), (c = 2 ∧ d = 25) ∨ (c = 3 ∧ d = 26) ∨ (c = 4 ∧ d = 27) ∨ (c = 5 ∧ d = 28) → R8 c d x y → R8 c d (c_forget x t) (r_forget y t) := by
    intro c d hcd h8 u n hu hn
    have g := h8 u n hu hn
    by_cases q : u = t
    · subst q
      have c1 : 25 ≤ d ∧ d ≤ 28 ∧ 4 * u ≤ 4 * u + n ∧ 4 * u + n < 4 * u + 4 := by omega
      rcases hcd with ⟨rfl, rfl⟩ | ⟨rfl, rfl⟩ | ⟨rfl, rfl⟩ | ⟨rfl, rfl⟩ <;> simp [c_forget, r_forget, r_fg, am_u, hn]
    · have c1 : ¬ (4 * t ≤ 4 * u + n ∧ 4 * u + n < 4 * t + 4) := by omega
      rcases hcd with ⟨rfl, rfl⟩ | ⟨rfl, rfl⟩ | ⟨rfl, rfl⟩ | ⟨rfl, rfl⟩ <;> simpa [c_forget, r_forget, r_fg, am_u, q, c1] using g
  refine ⟨h1, h2, h3, h4, h5, h6, ?_, key 2 25 (by omega) h8, key 3 26 (by omega) h9, key 4 27 (by omega) h10, key 5 28 (by omega) h11⟩
  intro u hu
  have g := h7 u hu
  by_cases q : u = t
  · subst q
    simpa [c_forget, r_forget, r_fg, am_u] using g.1
  · simpa [c_forget, r_forget, r_fg, am_u, q] using g
