/-! what holds of the class's memory between calls -/
/-- node n's row has a record with this label -/
def hr (x : am_N) (n L : Nat) : Prop := ∃ k, k < x 6 n 2 ∧ x 7 n k = L
def V1 (x : am_N) : Prop := x 0 0 3 ≤ 10 ∧ x 1 0 1 ≤ 40
def V2 (x : am_N) : Prop := ∀ t, t < 10 → x 9 t 0 < 4 ∧ x 9 t 1 < 4 ∧ x 9 t 2 < 16 ∧ x 9 t 3 < 16 ∧ x 9 t 4 < 16 ∧ x 9 t 5 < 16
def V3 (x : am_N) : Prop := ∀ n, n < 4 → x 3 n 0 < 2
def V4 (x : am_N) : Prop := ∀ n t, n < 4 → t < 10 → x 4 n t < 4 ∧ x 5 n t < 256
def V6 (x : am_N) : Prop := ∀ t, t < 10 → x 0 0 3 ≤ t → x 9 t 2 = 0 ∧ ∀ n, n < 4 → x 4 n t = 0 ∧ x 5 n t = 0
def V7 (x : am_N) : Prop := ∀ k, k < x 1 0 1 → 1 ≤ x 2 0 k ∧ x 2 0 k ≤ 8 ∧ x 2 1 k < 4 ∧ x 2 2 k < 4 ∧ x 2 3 k < x 0 0 3 ∧ (x 2 0 k = 1 → x 9 (x 2 3 k) 1 ≠ 1)
def V8 (x : am_N) : Prop := ∀ n, n < 4 → x 6 n 2 ≤ 60 ∧ x 6 n 3 ≤ x 6 n 2 ∧ ∀ k, k < x 6 n 2 → x 7 n k / 10 < x 0 0 3 ∧ 1 ≤ x 7 n k % 10 ∧ x 7 n k % 10 ≤ 6 ∧ (x 7 n k % 10 = 1 → x 8 n k < 256) ∧ (x 7 n k % 10 = 4 → x 8 n k < 16)
def V9 (x : am_N) : Prop := ∀ n, n < 4 → ∀ i j, i < j → j < x 6 n 2 → x 7 n i ≠ x 7 n j
def V10 (x : am_N) : Prop := ∀ n t, n < 4 → t < 10 → (x 4 n t = 1 ∨ x 4 n t = 2 → ¬ hr x n (10 * t + 1) ∧ ¬ hr x n (10 * t + 2) ∧ ¬ hr x n (10 * t + 3)) ∧ (x 4 n t = 3 → ¬ hr x n (10 * t + 2) ∧ ¬ hr x n (10 * t + 3))
/-- but for e -/
def V11 (e : Nat) (x : am_N) : Prop := ∀ t, t < 10 → t ≠ e → (x 9 t 1 = 1 ∨ x 9 t 1 = 2 → ¬ hr x (x 9 t 0) (10 * t + 4) ∧ ¬ hr x (x 9 t 0) (10 * t + 5) ∧ ¬ hr x (x 9 t 0) (10 * t + 6)) ∧ (x 9 t 1 = 3 → ¬ hr x (x 9 t 0) (10 * t + 6))
def V12 (x : am_N) : Prop := ∀ t, t < 10 → x 9 t 1 = 1 → ∀ n, n < 4 → ¬ hr x n (10 * t + 1) ∧ x 4 n t ≠ 3 ∧ ((x 9 t 2).testBit n = false → ¬ hr x n (10 * t + 2) ∧ ¬ hr x n (10 * t + 3) ∧ x 4 n t = 0)
def V13 (x : am_N) : Prop := ∀ n, n < 4 → ∀ i j t t', i < j → j < x 6 n 2 → x 7 n i = 10 * t + 1 → x 7 n j = 10 * t' + 1 → x 8 n i &&& x 8 n j ≠ 0 → ∃ k, k < j ∧ (x 7 n k = 10 * t + 2 ∨ x 7 n k = 10 * t + 3)
def V14 (x : am_N) : Prop := ∀ n, n < 4 → (x 3 n 0 = 1 → ∀ i t, i < x 6 n 2 → x 7 n i = 10 * t + 1 → ¬ hr x n (10 * t + 2) → ¬ hr x n (10 * t + 3) → x 4 n t = 3 ∧ x 8 n i = x 5 n t) ∧ (x 3 n 0 = 0 → ∀ t, t < 10 → x 5 n t = 0)
def VW (e : Nat) (x : am_N) : Prop := V1 x ∧ V2 x ∧ V3 x ∧ V4 x ∧ V6 x ∧ V7 x ∧ V8 x ∧ V9 x ∧ V10 x ∧ V11 e x ∧ V12 x ∧ V13 x ∧ V14 x
abbrev VV (x : am_N) : Prop := VW 10 x
/-- a row of different labels, each of 60, has at most 60 -/
theorem v_php : ∀ (m n : Nat) (f : Nat → Nat), (∀ i, i < n → f i < m) → (∀ i j, i < j → j < n → f i ≠ f j) → n ≤ m := by
  intro m
  induction m with
  | zero =>
    intro n f h1 _
    cases n with
    | zero => exact Nat.le_refl _
    | succ n => exact absurd (h1 0 (by omega)) (by omega)
  | succ m ih =>
    intro n f h1 h2
    cases n with
    | zero => exact Nat.zero_le _
    | succ n =>
      -- the last value goes; who had the greatest value takes its place
      refine Nat.succ_le_succ (ih n (fun i => if f i = m then f n else f i) (fun i hi => ?_) (fun i j hij hj => ?_))
      · have a := h1 i (by omega)
        have b := h1 n (by omega)
        have d := h2 i n hi (by omega)
        show (if f i = m then f n else f i) < m
        split <;> omega
      · have d := h2 i j hij (by omega)
        have d1 := h2 i n (by omega) (by omega)
        have d2 := h2 j n (by omega) (by omega)
        show (if f i = m then f n else f i) ≠ (if f j = m then f n else f j)
        split <;> split <;> omega
def JJ (M : am_M) : Prop := VV M.1 ∧ RR M.1 M.2
theorem JJ_mk {x y : am_N} (h1 : VV x) (h2 : RR x y) : JJ (x, y) := ⟨h1, h2⟩
theorem pr_cs (a : Int32) {B : Nat} (hB : B < 2 ^ 31) : (a < 0 ∨ nI B ≤ a) ∨ ∃ n, n < B ∧ a = nI n := by
  rcases pk_ix a hB with h | h | h
  · exact Or.inl (Or.inl h)
  · exact Or.inl (Or.inr h)
  · exact Or.inr h
theorem pr_ne {a : Int32} {B k : Nat} (h : a < 0 ∨ nI B ≤ a) (hk : k < B) (hB : B < 2 ^ 31) : ¬ a = nI k := by
  rintro rfl
  rcases h with h | h
  · exact nI_pos (by omega) h
  · exact nI_ge hk hB h
theorem RR_mask {x y : am_N} {c d t : Nat} (h8 : R8 c d x y) (ht : t < 10) (hx : x 9 t c < 16) : x 9 t c = r_bm (r_pd y d t) 4 := by
  apply Nat.eq_of_testBit_eq
  intro i
  rw [r_bm_bit]
  by_cases hi : i < 4
  · rw [(h8 t i ht hi).1]
    simp [hi, r_pd]
  · have h0 : (x 9 t c).testBit i = false := Nat.testBit_lt_two_pow (Nat.lt_of_lt_of_le hx (Nat.pow_le_pow_right (n := 2) (by decide) (show 4 ≤ i by omega)))
    rw [h0]
    simp [hi]
theorem RR_own {x y : am_N} {n t : Nat} (h5 : R5 x y) (hn : n < 4) (ht : t < 10) (hx : x 5 n t < 256) : x 5 n t = r_hm y n t 8 := by
  apply Nat.eq_of_testBit_eq
  intro i
  rw [r_hm_bit]
  by_cases hi : i < 8
  · rw [h5.1 n t i hn ht hi]
    simp [hi]
  · have h0 : (x 5 n t).testBit i = false := Nat.testBit_lt_two_pow (Nat.lt_of_lt_of_le hx (Nat.pow_le_pow_right (n := 2) (by decide) (show 8 ≤ i by omega)))
    rw [h0]
    simp [hi]
