/-! the reference: what its small methods do to its memory -/
theorem sR_noNode_t {M : am_M} {Q : Int32 → am_M → Prop} {n : Nat} (hn : n < 4) (h : Q (nI 0) M) : w_X5_noNode M (nI n) Q :=
  w_X5_noNode_i ⟨fun q => absurd q (nI_pos (by omega)), fun _ => ⟨fun _ => h, fun q => absurd (nI_le (by omega) (by decide)) q⟩⟩
theorem sR_noNode_f {M : am_M} {Q : Int32 → am_M → Prop} {x : Int32} (hx : x < 0 ∨ nI 4 ≤ x) (h : Q (nI 1) M) : w_X5_noNode M x Q :=
  w_X5_noNode_i ⟨fun _ => h, fun q => ⟨fun q2 => hx.elim (fun a => absurd a q) (fun a => absurd (pr_le3.mp q2) (pr_ge a)), fun _ => h⟩⟩
theorem sR_noWork_t {M : am_M} {Q : Int32 → am_M → Prop} {t : Nat} (ht : t < M.2 20 0 2) (hB : M.2 20 0 2 ≤ 10) (h : Q (nI 0) M) : w_X5_noWork M (nI t) Q := pr_lt ht (by omega) h
theorem sR_noWork_f {M : am_M} {Q : Int32 → am_M → Prop} {x : Int32} (hx : x < 0 ∨ nI (M.2 20 0 2) ≤ x) (h : Q (nI 1) M) : w_X5_noWork M x Q := pr_lf hx h
def r_send (y : am_N) (k s r t : Nat) : am_N := if y 20 0 16 < 40 then am_u (am_u (am_u (am_u (am_u y 36 0 (y 20 0 16) k) 37 0 (y 20 0 16) s) 38 0 (y 20 0 16) r) 39 0 (y 20 0 16) t) 20 0 16 (y 20 0 16 + 1) else y
theorem sR_send {x y : am_N} {Q : am_M → Prop} {k s r t : Nat} (hc : y 20 0 16 ≤ 40) (h : Q (x, r_send y k s r t)) : w_X5_send (x, y) (nI k) (nI s) (nI r) (nI t) Q := by
  apply w_X5_send_i
  constructor
  · intro h1
    have h2 : ¬ y 20 0 16 < 40 := fun q => nI_ge q (by decide) h1
    rw [r_send, if_neg h2] at h
    exact h
  · intro h1
    have h2 : y 20 0 16 < 40 := by
      by_cases q : y 20 0 16 < 40
      · exact q
      · exact absurd (nI_le (show 40 ≤ y 20 0 16 by omega) (show y 20 0 16 < 2 ^ 31 by omega)) h1
    rw [r_send, if_pos h2] at h
    exact ⟨y 20 0 16, k, h2, rfl, rfl, y 20 0 16, s, h2, rfl, rfl, y 20 0 16, r, h2, rfl, rfl, y 20 0 16, t, h2, rfl, rfl, y 20 0 16 + 1, nI_add _ _, h⟩
theorem r_send_cnt {y : am_N} {k s r t : Nat} (h : y 20 0 16 ≤ 40) : (r_send y k s r t) 20 0 16 ≤ 40 := by
  unfold r_send
  split
  · show y 20 0 16 + 1 ≤ 40
    omega
  · exact h
/-- a send touches kinds 36 to 39 and the count alone -/
theorem r_send_o {y : am_N} {k s r t a : Nat} (ha : a < 36) (ha2 : a ≠ 20) : (r_send y k s r t) a = y a := by
  funext b c
  unfold r_send
  split
  · simp only [am_u]
    rw [if_neg (by omega), if_neg (by omega), if_neg (by omega), if_neg (by omega), if_neg (by omega)]
  · rfl
theorem r_send_2 {y : am_N} {k s r t : Nat} : (r_send y k s r t) 20 0 2 = y 20 0 2 := by
  unfold r_send
  split <;> rfl
def r_e (k s t : Nat) (p : Nat → Bool) (y : am_N) (n : Nat) : am_N := if p n = true then r_send y k s n t else y
def r_each (y : am_N) (k s t : Nat) (p : Nat → Bool) : am_N := r_e k s t p (r_e k s t p (r_e k s t p (r_e k s t p y 0) 1) 2) 3
theorem r_e_cnt {y : am_N} {k s t n : Nat} {p : Nat → Bool} (h : y 20 0 16 ≤ 40) : (r_e k s t p y n) 20 0 16 ≤ 40 := by
  unfold r_e
  split
  · exact r_send_cnt h
  · exact h
theorem r_e_o {y : am_N} {k s t n a : Nat} {p : Nat → Bool} (ha : a < 36) (ha2 : a ≠ 20) : (r_e k s t p y n) a = y a := by
  unfold r_e
  split
  · exact r_send_o ha ha2
  · rfl
/-- the row of messages with the k-th taken out, as far as place i -/
def r_tk (y : am_N) (k i : Nat) : am_N := fun a b c => if 36 ≤ a ∧ a ≤ 39 ∧ b = 0 ∧ k ≤ c ∧ c < i then y a 0 (c + 1) else y a b c
theorem r_tk_s {y : am_N} {k i : Nat} (hk : k ≤ i) : am_u (am_u (am_u (am_u (r_tk y k i) 36 0 i (y 36 0 (i + 1))) 37 0 i (y 37 0 (i + 1))) 38 0 i (y 38 0 (i + 1))) 39 0 i (y 39 0 (i + 1)) = r_tk y k (i + 1) := by
  funext a b c
  unfold am_u r_tk
  by_cases h : 36 ≤ a ∧ a ≤ 39 ∧ b = 0 ∧ c = i
  · obtain ⟨h1, h2, rfl, rfl⟩ := h
    have h3 : a = 36 ∨ a = 37 ∨ a = 38 ∨ a = 39 := by omega
    rcases h3 with rfl | rfl | rfl | rfl <;> simp [hk]
  · rw [if_neg (by omega), if_neg (by omega), if_neg (by omega), if_neg (by omega)]
    by_cases h2 : 36 ≤ a ∧ a ≤ 39 ∧ b = 0 ∧ k ≤ c ∧ c < i
    · rw [if_pos h2, if_pos (by omega)]
    · rw [if_neg h2, if_neg (by omega)]
theorem r_tk_0 {y : am_N} {k : Nat} : r_tk y k k = y := by
  funext a b c
  unfold r_tk
  exact if_neg (by omega)
theorem r_tk_at {y : am_N} {k i a c : Nat} (hc : i ≤ c) : r_tk y k i a 0 c = y a 0 c := by
  unfold r_tk
  exact if_neg (by omega)
theorem sR_take_L {x y : am_N} {k m : Nat} {Q : am_M → Prop} {K : am_M → Int32 → Prop} (hm : y 20 0 16 = m) (hm2 : m < 40) (hK : K (x, r_tk y k m) (nI m)) : ∀ (d i : Nat), i + d = m → k ≤ i → w_X5_take_L12 (nI k) Q K (d + 1) (x, r_tk y k i) (nI i) := by
  intro d
  induction d with
  | zero =>
    intro i hi hki
    apply w_X5_take_L12_i
    have e : i = m := by omega
    subst e
    refine ⟨fun _ => hK, fun q => absurd ?_ q⟩
    show nI (y 20 0 16) ≤ nI i
    rw [hm]
    exact nI_le (Nat.le_refl _) (by omega)
  | succ d ih =>
    intro i hi hki
    apply w_X5_take_L12_i
    refine ⟨fun q => ?_, fun _ => ⟨i + 1, by omega, nI_add _ _, i, y 36 0 (i + 1), by omega, rfl, ?_, i + 1, by omega, nI_add _ _, i, y 37 0 (i + 1), by omega, rfl, ?_, i + 1, by omega, nI_add _ _, i, y 38 0 (i + 1), by omega, rfl, ?_, i + 1, by omega, nI_add _ _, i, y 39 0 (i + 1), by omega, rfl, ?_, ?_⟩⟩
    · have q : nI (y 20 0 16) ≤ nI i := q
      rw [hm] at q
      exact absurd q (nI_ge (by omega) (by omega))
    · show nI (r_tk y k i 36 0 (i + 1)) = _
      rw [r_tk_at (by omega)]
    · show nI (r_tk y k i 37 0 (i + 1)) = _
      rw [r_tk_at (by omega)]
    · show nI (r_tk y k i 38 0 (i + 1)) = _
      rw [r_tk_at (by omega)]
    · show nI (r_tk y k i 39 0 (i + 1)) = _
      rw [r_tk_at (by omega)]
    · show w_X5_take_L12 _ _ _ _ (x, am_u (am_u (am_u (am_u (r_tk y k i) 36 0 i (y 36 0 (i + 1))) 37 0 i (y 37 0 (i + 1))) 38 0 i (y 38 0 (i + 1))) 39 0 i (y 39 0 (i + 1))) (nI i + nI 1)
      rw [r_tk_s hki, nI_add]
      exact ih (i + 1) (by omega) (by omega)
def r_take (y : am_N) (k : Nat) : am_N := r_tk (am_u y 20 0 16 (y 20 0 16 - 1)) k (y 20 0 16 - 1)
theorem sR_take {x y : am_N} {k : Nat} {Q : am_M → Prop} (hk : k < y 20 0 16) (hc : y 20 0 16 ≤ 40) (h : Q (x, r_take y k)) : w_X5_take (x, y) (nI k) Q := by
  apply w_X5_take_i
  refine ⟨y 20 0 16 - 1, pk_sub (show 1 ≤ y 20 0 16 by omega), y 20 0 16 - 1 - k + 1, ?_⟩
  show w_X5_take_L12 (nI k) Q _ _ (x, am_u y 20 0 16 (y 20 0 16 - 1)) (nI k)
  have hm : (am_u y 20 0 16 (y 20 0 16 - 1)) 20 0 16 = y 20 0 16 - 1 := rfl
  have e0 := r_tk_0 (y := am_u y 20 0 16 (y 20 0 16 - 1)) (k := k)
  rw [← e0]
  exact sR_take_L hm (by omega) h (y 20 0 16 - 1 - k) k (by omega) (Nat.le_refl _)
def r_write (y : am_N) (n t kd w : Nat) : am_N := am_u (am_u (am_u (am_u (am_u y 32 0 (64 * n + y 31 0 n) t) 33 0 (64 * n + y 31 0 n) kd) 34 0 (64 * n + y 31 0 n) w) 35 0 (64 * n + y 31 0 n) 0) 31 0 n (y 31 0 n + 1)
theorem sR_write {x y : am_N} {n t kd w : Nat} {Q : am_M → Prop} (hn : n < 4) (hl : y 31 0 n < 64) (h : Q (x, r_write y n t kd w)) : w_X5_write (x, y) (nI n) (nI t) (nI kd) (nI w) Q := by
  apply w_X5_write_i
  have e : nI 64 * nI n + nI (y 31 0 n) = nI (64 * n + y 31 0 n) := by rw [pk_mul, nI_add]
  refine ⟨n, hn, rfl, 64 * n + y 31 0 n, t, by omega, e, rfl, 64 * n + y 31 0 n, kd, by omega, e, rfl, 64 * n + y 31 0 n, w, by omega, e, rfl, 64 * n + y 31 0 n, 0, by omega, e, rfl, by decide, n, hn, rfl, n, y 31 0 n + 1, hn, rfl, nI_add _ _, h⟩
/-- all records of node n up to place i are safe -/
def r_sf (y : am_N) (n i : Nat) : am_N := fun a b c => if a = 35 ∧ b = 0 ∧ 64 * n ≤ c ∧ c < 64 * n + i then 1 else y a b c
theorem r_sf_s {y : am_N} {n i : Nat} : am_u (r_sf y n i) 35 0 (64 * n + i) 1 = r_sf y n (i + 1) := by
  funext a b c
  unfold am_u r_sf
  by_cases h : a = 35 ∧ b = 0 ∧ c = 64 * n + i
  · rw [if_pos h, if_pos (by omega)]
  · rw [if_neg h]
    by_cases h2 : a = 35 ∧ b = 0 ∧ 64 * n ≤ c ∧ c < 64 * n + i
    · rw [if_pos h2, if_pos (by omega)]
    · rw [if_neg h2, if_neg (by omega)]
theorem r_sf_0 {y : am_N} {n : Nat} : r_sf y n 0 = y := by
  funext a b c
  unfold r_sf
  exact if_neg (by omega)
theorem sR_force_L {x y : am_N} {n m : Nat} {t kd w : Int32} {Q : am_M → Prop} {K : am_M → Int32 → Prop} (hn : n < 4) (hm : y 31 0 n = m) (hm2 : m ≤ 64) (hK : K (x, r_sf y n m) (nI m)) : ∀ (d i : Nat), i + d = m → w_X5_force_L12 (nI n) t kd w Q K (d + 1) (x, r_sf y n i) (nI i) := by
  intro d
  induction d with
  | zero =>
    intro i hi
    apply w_X5_force_L12_i
    have e : i = m := by omega
    subst e
    refine ⟨n, hn, rfl, fun _ => hK, fun q => absurd ?_ q⟩
    show nI (y 31 0 n) ≤ nI i
    rw [hm]
    exact nI_le (Nat.le_refl _) (by omega)
  | succ d ih =>
    intro i hi
    apply w_X5_force_L12_i
    refine ⟨n, hn, rfl, fun q => ?_, fun _ => ⟨64 * n + i, 1, by omega, by rw [pk_mul, nI_add], rfl, by decide, ?_⟩⟩
    · have q : nI (y 31 0 n) ≤ nI i := q
      rw [hm] at q
      exact absurd q (nI_ge (by omega) (by omega))
    · show w_X5_force_L12 _ _ _ _ _ _ _ (x, am_u (r_sf y n i) 35 0 (64 * n + i) 1) (nI i + nI 1)
      rw [r_sf_s, nI_add]
      exact ih (i + 1) (by omega)
def r_force (y : am_N) (n t kd w : Nat) : am_N := am_u (r_sf (r_write y n t kd w) n (y 31 0 n + 1)) 22 0 n (y 22 0 n + 1)
theorem sR_force {x y : am_N} {n t kd w : Nat} {Q : am_M → Prop} (hn : n < 4) (hl : y 31 0 n < 64) (h : Q (x, r_force y n t kd w)) : w_X5_force (x, y) (nI n) (nI t) (nI kd) (nI w) Q := by
  apply w_X5_force_i
  refine sR_write hn hl ?_
  have hm : (r_write y n t kd w) 31 0 n = y 31 0 n + 1 := by simp [r_write, am_u]
  have e0 := r_sf_0 (y := r_write y n t kd w) (n := n)
  refine ⟨y 31 0 n + 1 + 1, ?_⟩
  show w_X5_force_L12 _ _ _ _ _ _ _ (x, r_write y n t kd w) (nI 0)
  rw [← e0]
  refine sR_force_L hn hm (by omega) ?_ (y 31 0 n + 1) 0 (by omega)
  exact ⟨n, hn, rfl, n, y 22 0 n + 1, hn, rfl, nI_add _ _, h⟩
theorem sR_logged_L {x y : am_N} {n t kd : Nat} {Q : Int32 → am_M → Prop} {K : am_M → Int32 → Prop} (hn : n < 4) (ht : t < 1000) (hkd : kd < 1000) (hlen : y 31 0 n ≤ 64) (hb : ∀ k, k < y 31 0 n → y 32 0 (64 * n + k) < 1000 ∧ y 33 0 (64 * n + k) < 1000)
    (hQ : ∀ k, k < y 31 0 n → y 32 0 (64 * n + k) = t → y 33 0 (64 * n + k) = kd → (∀ j, j < k → ¬ (y 32 0 (64 * n + j) = t ∧ y 33 0 (64 * n + j) = kd)) → Q (nI (64 * n + k)) (x, y)) (hK : (∀ j, j < y 31 0 n → ¬ (y 32 0 (64 * n + j) = t ∧ y 33 0 (64 * n + j) = kd)) → K (x, y) (nI (y 31 0 n))) : ∀ (d k : Nat), k + d = y 31 0 n → (∀ j, j < k → ¬ (y 32 0 (64 * n + j) = t ∧ y 33 0 (64 * n + j) = kd)) → w_X5_logged_L3 (nI n) (nI t) (nI kd) Q K (d + 1) (x, y) (nI k) := by
  intro d
  induction d with
  | zero =>
    intro k hk hno
    apply w_X5_logged_L3_i
    have e : k = y 31 0 n := by omega
    refine ⟨n, hn, rfl, fun _ => ?_, fun q => absurd (nI_le (Nat.le_of_eq e.symm) (by omega)) q⟩
    rw [e]
    rw [e] at hno
    exact hK hno
  | succ d ih =>
    intro k hk hno
    have hk2 : k < y 31 0 n := by omega
    have e : nI 64 * nI n + nI k = nI (64 * n + k) := by rw [pk_mul, nI_add]
    have step : ¬ (y 32 0 (64 * n + k) = t ∧ y 33 0 (64 * n + k) = kd) → w_X5_logged_L3 (nI n) (nI t) (nI kd) Q K (d + 1) (x, y) (nI k + nI 1) := by
      intro hne
      rw [nI_add]
      refine ih (k + 1) (by omega) (fun j hj => ?_)
      by_cases q : j = k
      · subst q; exact hne
      · exact hno j (by omega)
    apply w_X5_logged_L3_i
    refine ⟨n, hn, rfl, fun q => absurd q (nI_ge (show k < y 31 0 n by omega) (show y 31 0 n < 2 ^ 31 by omega)), fun _ => ⟨64 * n + k, by omega, e, fun h1 => ?_, fun h1 => ⟨64 * n + k, by omega, e, fun h2 => ?_, fun h2 => ?_⟩⟩⟩
    · exact step (fun q => h1 (by show nI (y 32 0 (64 * n + k)) = nI t; rw [q.1]))
    · exact step (fun q => h2 (by show nI (y 33 0 (64 * n + k)) = nI kd; rw [q.2]))
    · have g1 := (pr_eq (hb k hk2).1 ht).mp h1
      have g2 := (pr_eq (hb k hk2).2 hkd).mp h2
      have g3 := hQ k hk2 g1 g2 hno
      rw [← e] at g3
      exact g3
theorem sR_logged {x y : am_N} {n t kd : Nat} {Q : Int32 → am_M → Prop} (hn : n < 4) (ht : t < 1000) (hkd : kd < 1000) (hlen : y 31 0 n ≤ 64) (hb : ∀ k, k < y 31 0 n → y 32 0 (64 * n + k) < 1000 ∧ y 33 0 (64 * n + k) < 1000)
    (hQ : ∀ k, k < y 31 0 n → y 32 0 (64 * n + k) = t → y 33 0 (64 * n + k) = kd → (∀ j, j < k → ¬ (y 32 0 (64 * n + j) = t ∧ y 33 0 (64 * n + j) = kd)) → Q (nI (64 * n + k)) (x, y)) (hN : (∀ j, j < y 31 0 n → ¬ (y 32 0 (64 * n + j) = t ∧ y 33 0 (64 * n + j) = kd)) → Q (-1) (x, y)) : w_X5_logged (x, y) (nI n) (nI t) (nI kd) Q :=
  w_X5_logged_i ⟨y 31 0 n + 1, sR_logged_L hn ht hkd hlen hb hQ hN (y 31 0 n) 0 (by omega) (fun j hj => by omega)⟩
/-- the set of what t owns at n, of the resources below k -/
def r_hm (y : am_N) (n t : Nat) : Nat → Nat
  | 0 => 0
  | k + 1 => if y 30 0 (8 * n + k) = t + 1 then r_hm y n t k ||| 2 ^ k else r_hm y n t k
theorem r_hm_lt (y : am_N) (n t : Nat) : ∀ k, r_hm y n t k < 2 ^ k
  | 0 => by simp [r_hm]
  | k + 1 => by
    have h := r_hm_lt y n t k
    have h2 : 2 ^ (k + 1) = 2 ^ k + 2 ^ k := by rw [Nat.pow_succ]; omega
    unfold r_hm
    split
    · exact Nat.or_lt_two_pow (by omega) (by omega)
    · omega
theorem r_hm_bit (y : am_N) (n t r : Nat) : ∀ k, (r_hm y n t k).testBit r = (decide (r < k) && decide (y 30 0 (8 * n + r) = t + 1))
  | 0 => by simp [r_hm]
  | k + 1 => by
    have h := r_hm_bit y n t r k
    unfold r_hm
    by_cases hk : r = k
    · subst hk
      have hl : (r_hm y n t r).testBit r = false := by rw [h]; simp
      split
      · rename_i hc
        rw [Nat.testBit_or, hl, Nat.testBit_two_pow]
        simp [hc]
      · rename_i hc
        rw [hl]
        simp [hc]
    · split
      · rw [Nat.testBit_or, h, Nat.testBit_two_pow]
        have h1 : decide (r < k + 1) = decide (r < k) := by
          by_cases q : r < k
          · simp [q]; omega
          · simp [q]; omega
        have h2 : decide (k = r) = false := by simp; omega
        rw [h1, h2]
        simp
      · rw [h]
        have h1 : decide (r < k + 1) = decide (r < k) := by
          by_cases q : r < k
          · simp [q]; omega
          · simp [q]; omega
        rw [h1]
theorem sR_holding_L {x y : am_N} {n t : Nat} {Q : Int32 → am_M → Prop} {K : am_M → Int32 → Int32 → Prop} (hn : n < 4) (ht : t < 10) (hb : ∀ c, c < 32 → y 30 0 c < 1000) (hK : K (x, y) (nI (r_hm y n t 8)) (nI 8)) : ∀ (d k : Nat), k + d = 8 → w_X5_holding_L5 (nI n) (nI t) Q K (d + 1) (x, y) (nI (r_hm y n t k)) (nI k) := by
  intro d
  induction d with
  | zero =>
    intro k hk
    apply w_X5_holding_L5_i
    have e : k = 8 := by omega
    subst e
    exact ⟨fun _ => hK, fun q => absurd (by decide) q⟩
  | succ d ih =>
    intro k hk
    have hk8 : k < 8 := by omega
    have e : nI 8 * nI n + nI k = nI (8 * n + k) := by rw [pk_mul, nI_add]
    have hm : r_hm y n t k < 256 := Nat.lt_of_lt_of_le (r_hm_lt y n t k) (Nat.pow_le_pow_right (by decide) (show k ≤ 8 by omega))
    have e2 : ∀ c : Nat, c < 32 → (nI (y 30 0 c) = nI t + nI 1 ↔ y 30 0 c = t + 1) := fun c hc => by
      rw [nI_add]
      exact pr_eq (hb c hc) (by omega)
    have s := ih (k + 1) (by omega)
    apply w_X5_holding_L5_i
    refine ⟨fun q => absurd q (nI_ge (by omega) (by omega)), fun _ => ⟨8 * n + k, by omega, e, fun h1 => ?_, fun h1 => ?_⟩⟩
    · have h2 : ¬ y 30 0 (8 * n + k) = t + 1 := fun q => h1 ((e2 _ (by omega)).mpr q)
      rw [r_hm, if_neg h2] at s
      show w_X5_holding_L5 _ _ _ _ _ _ _ (nI k + nI 1)
      rw [nI_add]
      exact s
    · have h2 : y 30 0 (8 * n + k) = t + 1 := (e2 _ (by omega)).mp h1
      rw [r_hm, if_pos h2] at s
      show w_X5_holding_L5 _ _ _ _ _ _ (nI (r_hm y n t k) ||| (nI 1 <<< (nI k &&& 31))) (nI k + nI 1)
      rw [nI_add, pr_or _ hm _ hk8]
      exact s
theorem sR_holding {x y : am_N} {n t : Nat} {Q : Int32 → am_M → Prop} (hn : n < 4) (ht : t < 10) (hb : ∀ c, c < 32 → y 30 0 c < 1000) (h : Q (nI (r_hm y n t 8)) (x, y)) : w_X5_holding (x, y) (nI n) (nI t) Q :=
  w_X5_holding_i ⟨9, sR_holding_L hn ht hb h 8 0 (by omega)⟩
/-- the owners of node n without t, of the resources below i -/
def r_lg (y : am_N) (n t i : Nat) : am_N := fun a b c => if a = 30 ∧ b = 0 ∧ 8 * n ≤ c ∧ c < 8 * n + i ∧ y 30 0 c = t + 1 then 0 else y a b c
theorem r_lg_s1 {y : am_N} {n t i : Nat} (h : y 30 0 (8 * n + i) = t + 1) : am_u (r_lg y n t i) 30 0 (8 * n + i) 0 = r_lg y n t (i + 1) := by
  funext a b c
  unfold am_u r_lg
  by_cases h1 : a = 30 ∧ b = 0 ∧ c = 8 * n + i
  · obtain ⟨rfl, rfl, rfl⟩ := h1
    rw [if_pos ⟨rfl, rfl, rfl⟩, if_pos ⟨rfl, rfl, by omega, by omega, h⟩]
  · rw [if_neg h1]
    by_cases h2 : a = 30 ∧ b = 0 ∧ 8 * n ≤ c ∧ c < 8 * n + i ∧ y 30 0 c = t + 1
    · rw [if_pos h2, if_pos ⟨h2.1, h2.2.1, h2.2.2.1, by omega, h2.2.2.2.2⟩]
    · rw [if_neg h2, if_neg (fun q => h2 ⟨q.1, q.2.1, q.2.2.1, by omega, q.2.2.2.2⟩)]
theorem r_lg_s2 {y : am_N} {n t i : Nat} (h : ¬ y 30 0 (8 * n + i) = t + 1) : am_u (r_lg y n t i) 30 0 (8 * n + i) (y 30 0 (8 * n + i)) = r_lg y n t (i + 1) := by
  funext a b c
  unfold am_u r_lg
  by_cases h1 : a = 30 ∧ b = 0 ∧ c = 8 * n + i
  · obtain ⟨rfl, rfl, rfl⟩ := h1
    rw [if_pos ⟨rfl, rfl, rfl⟩, if_neg (fun q => h q.2.2.2.2)]
  · rw [if_neg h1]
    by_cases h2 : a = 30 ∧ b = 0 ∧ 8 * n ≤ c ∧ c < 8 * n + i ∧ y 30 0 c = t + 1
    · rw [if_pos h2, if_pos ⟨h2.1, h2.2.1, h2.2.2.1, by omega, h2.2.2.2.2⟩]
    · rw [if_neg h2, if_neg (fun q => h2 ⟨q.1, q.2.1, q.2.2.1, by omega, q.2.2.2.2⟩)]
theorem r_lg_0 {y : am_N} {n t : Nat} : r_lg y n t 0 = y := by
  funext a b c
  unfold r_lg
  exact if_neg (by omega)
theorem r_lg_at {y : am_N} {n t i : Nat} : r_lg y n t i 30 0 (8 * n + i) = y 30 0 (8 * n + i) := by
  unfold r_lg
  exact if_neg (by omega)
theorem sR_letGo_L {x y : am_N} {n t : Nat} {Q : am_M → Prop} {K : am_M → Int32 → Prop} (hn : n < 4) (ht : t < 10) (hb : ∀ c, c < 32 → y 30 0 c < 1000) (hK : K (x, r_lg y n t 8) (nI 8)) : ∀ (d k : Nat), k + d = 8 → w_X5_letGo_L2 (nI n) (nI t) Q K (d + 1) (x, r_lg y n t k) (nI k) := by
  intro d
  induction d with
  | zero =>
    intro k hk
    apply w_X5_letGo_L2_i
    have e : k = 8 := by omega
    subst e
    exact ⟨fun _ => hK, fun q => absurd (by decide) q⟩
  | succ d ih =>
    intro k hk
    have e : nI 8 * nI n + nI k = nI (8 * n + k) := by rw [pk_mul, nI_add]
    have e2 : nI (y 30 0 (8 * n + k)) = nI t + nI 1 ↔ y 30 0 (8 * n + k) = t + 1 := by
      rw [nI_add]
      exact pr_eq (hb _ (by omega)) (by omega)
    have s := ih (k + 1) (by omega)
    apply w_X5_letGo_L2_i
    refine ⟨fun q => absurd q (nI_ge (by omega) (by omega)), fun _ => ⟨8 * n + k, by omega, e, fun h1 => ?_, fun h1 => ?_⟩⟩
    · have h1 : ¬ nI (r_lg y n t k 30 0 (8 * n + k)) = nI t + nI 1 := h1
      rw [r_lg_at, e2] at h1
      refine ⟨8 * n + k, by omega, e, 8 * n + k, y 30 0 (8 * n + k), by omega, e, ?_, ?_⟩
      · show nI (r_lg y n t k 30 0 (8 * n + k)) = _
        rw [r_lg_at]
      · show w_X5_letGo_L2 _ _ _ _ _ (x, am_u (r_lg y n t k) 30 0 (8 * n + k) (y 30 0 (8 * n + k))) (nI k + nI 1)
        rw [r_lg_s2 h1, nI_add]
        exact s
    · have h1 : nI (r_lg y n t k 30 0 (8 * n + k)) = nI t + nI 1 := h1
      rw [r_lg_at, e2] at h1
      refine ⟨8 * n + k, 0, by omega, e, rfl, ?_⟩
      show w_X5_letGo_L2 _ _ _ _ _ (x, am_u (r_lg y n t k) 30 0 (8 * n + k) 0) (nI k + nI 1)
      rw [r_lg_s1 h1, nI_add]
      exact s
def r_letGo (y : am_N) (n t : Nat) : am_N := am_u (r_lg y n t 8) 29 0 (4 * t + n) 0
theorem sR_letGo {x y : am_N} {n t : Nat} {Q : am_M → Prop} (hn : n < 4) (ht : t < 10) (hb : ∀ c, c < 32 → y 30 0 c < 1000) (h : Q (x, r_letGo y n t)) : w_X5_letGo (x, y) (nI n) (nI t) Q := by
  apply w_X5_letGo_i
  refine ⟨9, ?_⟩
  have e0 := r_lg_0 (y := y) (n := n) (t := t)
  show w_X5_letGo_L2 _ _ _ _ _ (x, y) (nI 0)
  have s := sR_letGo_L (x := x) (Q := Q) (K := fun M10 _ => am_sa (am_c2 M10 29 0) 40 (nI 4 * nI t + nI n) (nI 0) (fun M12 => Q M12)) hn ht hb ⟨4 * t + n, 0, by omega, by rw [pk_mul, nI_add], rfl, h⟩ 8 0 (by omega)
  rw [e0] at s
  exact s
theorem sR_giveUp {x y : am_N} {n t : Nat} {Q : am_M → Prop} (hn : n < 4) (ht : t < 10) (hl : y 31 0 n < 64) (hb : ∀ c, c < 32 → y 30 0 c < 1000) (h : Q (x, r_letGo (r_write y n t 3 0) n t)) : w_X5_giveUp (x, y) (nI n) (nI t) Q :=
  w_X5_giveUp_i (sR_write hn hl (sR_letGo hn ht hb h))
/-- the four sets of t emptied, of the nodes below i -/
def r_fg (y : am_N) (t i : Nat) : am_N := fun a b c => if 25 ≤ a ∧ a ≤ 28 ∧ b = 0 ∧ 4 * t ≤ c ∧ c < 4 * t + i then 0 else y a b c
theorem r_fg_s {y : am_N} {t i : Nat} : am_u (am_u (am_u (am_u (r_fg y t i) 25 0 (4 * t + i) 0) 26 0 (4 * t + i) 0) 27 0 (4 * t + i) 0) 28 0 (4 * t + i) 0 = r_fg y t (i + 1) := by
  funext a b c
  unfold am_u r_fg
  by_cases h : 25 ≤ a ∧ a ≤ 28 ∧ b = 0 ∧ c = 4 * t + i
  · have h3 : a = 25 ∨ a = 26 ∨ a = 27 ∨ a = 28 := by omega
    obtain ⟨h1, h2, rfl, rfl⟩ := h
    rcases h3 with rfl | rfl | rfl | rfl <;> simp
  · rw [if_neg (by omega), if_neg (by omega), if_neg (by omega), if_neg (by omega)]
    by_cases h2 : 25 ≤ a ∧ a ≤ 28 ∧ b = 0 ∧ 4 * t ≤ c ∧ c < 4 * t + i
    · rw [if_pos h2, if_pos (by omega)]
    · rw [if_neg h2, if_neg (by omega)]
theorem r_fg_0 {y : am_N} {t : Nat} : r_fg y t 0 = y := by
  funext a b c
  unfold r_fg
  exact if_neg (by omega)
theorem sR_forget_s {x y : am_N} {t i f : Nat} {Q : am_M → Prop} {K : am_M → Int32 → Prop} (ht : t < 10) (hi : i < 4) (h : w_X5_forget_L9 (nI t) Q K f (x, r_fg y t (i + 1)) (nI (i + 1))) : w_X5_forget_L9 (nI t) Q K (f + 1) (x, r_fg y t i) (nI i) := by
  have e : nI 4 * nI t + nI i = nI (4 * t + i) := by rw [pk_mul, nI_add]
  apply w_X5_forget_L9_i
  refine ⟨fun q => absurd q (nI_ge (by omega) (by omega)), fun _ => ⟨4 * t + i, 0, by omega, e, rfl, by decide, 4 * t + i, 0, by omega, e, rfl, by decide, 4 * t + i, 0, by omega, e, rfl, by decide, 4 * t + i, 0, by omega, e, rfl, by decide, ?_⟩⟩
  show w_X5_forget_L9 _ _ _ _ (x, am_u (am_u (am_u (am_u (r_fg y t i) 25 0 (4 * t + i) 0) 26 0 (4 * t + i) 0) 27 0 (4 * t + i) 0) 28 0 (4 * t + i) 0) (nI i + nI 1)
  rw [r_fg_s, nI_add]
  exact h
def r_forget (y : am_N) (t : Nat) : am_N := r_fg (am_u y 24 0 t 0) t 4
theorem sR_forget {x y : am_N} {t : Nat} {Q : am_M → Prop} (ht : t < 10) (h : Q (x, r_forget y t)) : w_X5_forget (x, y) (nI t) Q := by
  apply w_X5_forget_i
  refine ⟨t, 0, ht, rfl, rfl, 5, ?_⟩
  show w_X5_forget_L9 _ _ _ _ (x, am_u y 24 0 t 0) (nI 0)
  have e0 := r_fg_0 (y := am_u y 24 0 t 0) (t := t)
  rw [← e0]
  refine sR_forget_s (i := 0) ht (by decide) ?_
  refine sR_forget_s (i := 1) ht (by decide) ?_
  refine sR_forget_s (i := 2) ht (by decide) ?_
  refine sR_forget_s (i := 3) ht (by decide) ?_
  apply w_X5_forget_L9_i
  exact ⟨fun _ => h, fun q => absurd (by decide) q⟩
/-- how many of the numbers below k -/
def r_ct (p : Nat → Bool) : Nat → Nat
  | 0 => 0
  | k + 1 => if p k = true then r_ct p k + 1 else r_ct p k
theorem sR_due_s {x y : am_N} {t n s f : Nat} {p : Nat → Bool} {Q : am_M → Prop} {K : am_M → Int32 → Prop} (ht : t < 10) (hn : n < 4) (hc : y 20 0 16 ≤ 40) (hp : p n = decide (y 28 0 (4 * t + n) ≠ 0)) (hb : y 28 0 (4 * t + n) < 1000) (hs : y 23 0 t = s) (h : w_X5_sendDue_L2 (nI t) Q K f (x, r_e 5 s t p y n) (nI (n + 1))) : w_X5_sendDue_L2 (nI t) Q K (f + 1) (x, y) (nI n) := by
  have e : nI 4 * nI t + nI n = nI (4 * t + n) := by rw [pk_mul, nI_add]
  apply w_X5_sendDue_L2_i
  refine ⟨fun q => absurd q (nI_ge (by omega) (by omega)), fun _ => ⟨4 * t + n, by omega, e, fun h1 => ?_, fun h1 => ⟨t, ht, rfl, ?_⟩⟩⟩
  · have h2 : y 28 0 (4 * t + n) = 0 := (pr_eq0 hb).mp h1
    rw [r_e, if_neg (by rw [hp, h2]; decide)] at h
    show w_X5_sendDue_L2 _ _ _ _ _ (nI n + nI 1)
    rw [nI_add]
    exact h
  · have h2 : ¬ y 28 0 (4 * t + n) = 0 := fun q => h1 ((pr_eq0 hb).mpr q)
    rw [r_e, if_pos (by rw [hp]; simp [h2]), ← hs] at h
    refine sR_send hc ?_
    show w_X5_sendDue_L2 _ _ _ _ _ (nI n + nI 1)
    rw [nI_add]
    exact h
abbrev r_pd (y : am_N) (a t n : Nat) : Bool := decide (y a 0 (4 * t + n) ≠ 0)
theorem sR_due {x y : am_N} {t : Nat} {Q : am_M → Prop} (ht : t < 10) (hc : y 20 0 16 ≤ 40) (hb : ∀ n, n < 4 → y 28 0 (4 * t + n) < 1000) (h : Q (x, r_each y 5 (y 23 0 t) t (r_pd y 28 t))) : w_X5_sendDue (x, y) (nI t) Q := by
  apply w_X5_sendDue_i
  refine ⟨5, ?_⟩
  have o28 : ∀ (z : am_N) (n : Nat), (r_e 5 (y 23 0 t) t (r_pd y 28 t) z n) 28 = z 28 := fun z n => r_e_o (by decide) (by decide)
  have o23 : ∀ (z : am_N) (n : Nat), (r_e 5 (y 23 0 t) t (r_pd y 28 t) z n) 23 = z 23 := fun z n => r_e_o (by decide) (by decide)
  refine sR_due_s (n := 0) (p := r_pd y 28 t) ht (by decide) hc rfl (hb 0 (by decide)) rfl ?_
  refine sR_due_s (n := 1) (p := r_pd y 28 t) (s := y 23 0 t) ht (by decide) (r_e_cnt hc) (by rw [o28]) (by rw [o28]; exact hb 1 (by decide)) (by rw [o23]) ?_
  refine sR_due_s (n := 2) (p := r_pd y 28 t) (s := y 23 0 t) ht (by decide) (r_e_cnt (r_e_cnt hc)) (by rw [o28, o28]) (by rw [o28, o28]; exact hb 2 (by decide)) (by rw [o23, o23]) ?_
  refine sR_due_s (n := 3) (p := r_pd y 28 t) (s := y 23 0 t) ht (by decide) (r_e_cnt (r_e_cnt (r_e_cnt hc))) (by rw [o28, o28, o28]) (by rw [o28, o28, o28]; exact hb 3 (by decide)) (by rw [o23, o23, o23]) ?_
  apply w_X5_sendDue_L2_i
  exact ⟨fun _ => h, fun q => absurd (by decide) q⟩
abbrev r_pp (y : am_N) (t : Nat) (bt : Int32) (n : Nat) : Bool := decide (y 25 0 (4 * t + n) ≠ 0) && (decide (y 27 0 (4 * t + n) = 0) && decide (¬ nI n = bt))
theorem sR_pull_s {x y : am_N} {t n s f : Nat} {bt : Int32} {p : Nat → Bool} {Q : Int32 → am_M → Prop} {K : am_M → Int32 → Int32 → Prop} (ht : t < 10) (hn : n < 4) (hc : y 20 0 16 ≤ 40) (hp : p n = r_pp y t bt n) (hb : y 25 0 (4 * t + n) < 1000) (hb2 : y 27 0 (4 * t + n) < 1000) (hs : y 23 0 t = s) (h : w_X5_pullBack_L18 (nI t) bt Q K f (x, r_e 6 s t p y n) (nI (r_ct p (n + 1))) (nI (n + 1))) : w_X5_pullBack_L18 (nI t) bt Q K (f + 1) (x, y) (nI (r_ct p n)) (nI n) := by
  have e : nI 4 * nI t + nI n = nI (4 * t + n) := by rw [pk_mul, nI_add]
  have no : p n = false → w_X5_pullBack_L18 (nI t) bt Q K f (x, y) (nI (r_ct p n)) (nI n + nI 1) := by
    intro q
    rw [r_e, if_neg (by rw [q]; decide), r_ct, if_neg (by rw [q]; decide)] at h
    rw [nI_add]
    exact h
  apply w_X5_pullBack_L18_i
  refine ⟨fun q => absurd q (nI_ge (by omega) (by omega)), fun _ => ⟨4 * t + n, by omega, e, fun h1 => ?_, fun h1 => ⟨4 * t + n, by omega, e, fun h2 => ?_, fun h2 => ⟨fun h3 => ?_, fun h3 => ⟨t, ht, rfl, ?_⟩⟩⟩⟩⟩
  · have g1 : y 25 0 (4 * t + n) = 0 := (pr_eq0 hb).mp h1
    exact no (by rw [hp, r_pp, g1]; rfl)
  · have g2 : ¬ y 27 0 (4 * t + n) = 0 := fun q => h2 ((pr_eq0 hb2).mpr q)
    exact no (by rw [hp]; simp [g2])
  · exact no (by rw [hp]; simp [h3])
  · have g1 : ¬ y 25 0 (4 * t + n) = 0 := fun q => h1 ((pr_eq0 hb).mpr q)
    have g2 : y 27 0 (4 * t + n) = 0 := (pr_eq0 hb2).mp h2
    have g3 : p n = true := by rw [hp]; simp [g1, g2, h3]
    rw [r_e, if_pos g3, r_ct, if_pos g3, ← hs] at h
    refine sR_send hc ?_
    show w_X5_pullBack_L18 _ _ _ _ _ _ (nI (r_ct p n) + nI 1) (nI n + nI 1)
    rw [nI_add, nI_add]
    exact h
theorem sR_pull {x y : am_N} {t : Nat} {bt : Int32} {Q : Int32 → am_M → Prop} (ht : t < 10) (hch : y 23 0 t < 4) (hl : y 31 0 (y 23 0 t) < 64) (hc : y 20 0 16 ≤ 40) (hb : ∀ n, n < 4 → y 25 0 (4 * t + n) < 1000) (hb2 : ∀ n, n < 4 → y 27 0 (4 * t + n) < 1000) (h : Q (nI (r_ct (r_pp y t bt) 4)) (x, r_forget (r_each (r_write y (y 23 0 t) t 5 0) 6 (y 23 0 t) t (r_pp y t bt)) t)) : w_X5_pullBack (x, y) (nI t) bt Q := by
  apply w_X5_pullBack_i
  refine ⟨t, ht, rfl, ?_⟩
  refine sR_write hch hl ?_
  refine ⟨5, ?_⟩
  have o : ∀ (a : Nat), a < 30 → a ≠ 20 → ∀ (z : am_N) (n : Nat), (r_e 6 (y 23 0 t) t (r_pp y t bt) z n) a = z a := fun a h1 h2 z n => r_e_o (by omega) h2
  have o25 := o 25 (by decide) (by decide)
  have o27 := o 27 (by decide) (by decide)
  have o23 := o 23 (by decide) (by decide)
  refine sR_pull_s (n := 0) (s := y 23 0 t) (p := r_pp y t bt) ht (by decide) hc rfl (hb 0 (by decide)) (hb2 0 (by decide)) rfl ?_
  refine sR_pull_s (n := 1) (s := y 23 0 t) (p := r_pp y t bt) ht (by decide) (r_e_cnt hc) (by unfold r_pp; rw [o25, o27]; rfl) (by rw [o25]; exact hb 1 (by decide)) (by rw [o27]; exact hb2 1 (by decide)) (by rw [o23]; rfl) ?_
  refine sR_pull_s (n := 2) (s := y 23 0 t) (p := r_pp y t bt) ht (by decide) (r_e_cnt (r_e_cnt hc)) (by unfold r_pp; rw [o25, o27, o25, o27]; rfl) (by rw [o25, o25]; exact hb 2 (by decide)) (by rw [o27, o27]; exact hb2 2 (by decide)) (by rw [o23, o23]; rfl) ?_
  refine sR_pull_s (n := 3) (s := y 23 0 t) (p := r_pp y t bt) ht (by decide) (r_e_cnt (r_e_cnt (r_e_cnt hc))) (by unfold r_pp; rw [o25, o27, o25, o27, o25, o27]; rfl) (by rw [o25, o25, o25]; exact hb 3 (by decide)) (by rw [o27, o27, o27]; exact hb2 3 (by decide)) (by rw [o23, o23, o23]; rfl) ?_
  apply w_X5_pullBack_L18_i
  exact ⟨fun _ => sR_forget ht h, fun q => absurd (by decide) q⟩
theorem sR_commit_s {x y : am_N} {t n s f : Nat} {p : Nat → Bool} {Q : Int32 → am_M → Prop} {K : am_M → Int32 → Int32 → Prop} (ht : t < 10) (hn : n < 4) (hc : y 20 0 16 ≤ 40) (hp : p n = r_pd y 25 t n) (hb : y 25 0 (4 * t + n) < 1000) (hs : y 23 0 t = s) (h : w_X5_commit_L52 (nI t) Q K f (x, r_e 1 s t p y n) (nI (r_ct p (n + 1))) (nI (n + 1))) : w_X5_commit_L52 (nI t) Q K (f + 1) (x, y) (nI (r_ct p n)) (nI n) := by
  have e : nI 4 * nI t + nI n = nI (4 * t + n) := by rw [pk_mul, nI_add]
  apply w_X5_commit_L52_i
  refine ⟨fun q => absurd q (nI_ge (by omega) (by omega)), fun _ => ⟨4 * t + n, by omega, e, fun h1 => ?_, fun h1 => ⟨t, ht, rfl, ?_⟩⟩⟩
  · have g1 : y 25 0 (4 * t + n) = 0 := (pr_eq0 hb).mp h1
    have g3 : ¬ p n = true := by rw [hp]; simp [g1]
    rw [r_e, if_neg g3, r_ct, if_neg g3] at h
    show w_X5_commit_L52 _ _ _ _ _ _ (nI n + nI 1)
    rw [nI_add]
    exact h
  · have g1 : ¬ y 25 0 (4 * t + n) = 0 := fun q => h1 ((pr_eq0 hb).mpr q)
    have g3 : p n = true := by rw [hp]; simp [g1]
    rw [r_e, if_pos g3, r_ct, if_pos g3, ← hs] at h
    refine sR_send hc ?_
    show w_X5_commit_L52 _ _ _ _ _ (nI (r_ct p n) + nI 1) (nI n + nI 1)
    rw [nI_add, nI_add]
    exact h
theorem sR_commitL {x y : am_N} {t : Nat} {Q : Int32 → am_M → Prop} {K : am_M → Int32 → Int32 → Prop} (ht : t < 10) (hc : y 20 0 16 ≤ 40) (hb : ∀ n, n < 4 → y 25 0 (4 * t + n) < 1000) (h : K (x, r_each y 1 (y 23 0 t) t (r_pd y 25 t)) (nI (r_ct (r_pd y 25 t) 4)) (nI 4)) : w_X5_commit_L52 (nI t) Q K 5 (x, y) (nI 0) (nI 0) := by
  have o : ∀ (a : Nat), a < 30 → a ≠ 20 → ∀ (z : am_N) (n : Nat), (r_e 1 (y 23 0 t) t (r_pd y 25 t) z n) a = z a := fun a h1 h2 z n => r_e_o (by omega) h2
  have o25 := o 25 (by decide) (by decide)
  have o23 := o 23 (by decide) (by decide)
  refine sR_commit_s (n := 0) (s := y 23 0 t) (p := r_pd y 25 t) ht (by decide) hc rfl (hb 0 (by decide)) rfl ?_
  refine sR_commit_s (n := 1) (s := y 23 0 t) (p := r_pd y 25 t) ht (by decide) (r_e_cnt hc) (by unfold r_pd; rw [o25]) (by rw [o25]; exact hb 1 (by decide)) (by rw [o23]) ?_
  refine sR_commit_s (n := 2) (s := y 23 0 t) (p := r_pd y 25 t) ht (by decide) (r_e_cnt (r_e_cnt hc)) (by unfold r_pd; rw [o25, o25]) (by rw [o25, o25]; exact hb 2 (by decide)) (by rw [o23, o23]) ?_
  refine sR_commit_s (n := 3) (s := y 23 0 t) (p := r_pd y 25 t) ht (by decide) (r_e_cnt (r_e_cnt (r_e_cnt hc))) (by unfold r_pd; rw [o25, o25, o25]) (by rw [o25, o25, o25]; exact hb 3 (by decide)) (by rw [o23, o23, o23]) ?_
  apply w_X5_commit_L52_i
  exact ⟨fun _ => h, fun q => absurd (by decide) q⟩
/-- a set of nodes as a number, of the nodes below k -/
def r_bm (p : Nat → Bool) : Nat → Nat
  | 0 => 0
  | k + 1 => if p k = true then r_bm p k ||| 2 ^ k else r_bm p k
theorem r_bm_lt (p : Nat → Bool) : ∀ k, r_bm p k < 2 ^ k
  | 0 => by simp [r_bm]
  | k + 1 => by
    have h := r_bm_lt p k
    have h2 : 2 ^ (k + 1) = 2 ^ k + 2 ^ k := by rw [Nat.pow_succ]; omega
    unfold r_bm
    split
    · exact Nat.or_lt_two_pow (by omega) (by omega)
    · omega
theorem r_bm_bit (p : Nat → Bool) (r : Nat) : ∀ k, (r_bm p k).testBit r = (decide (r < k) && p r)
  | 0 => by simp [r_bm]
  | k + 1 => by
    have h := r_bm_bit p r k
    unfold r_bm
    by_cases hk : r = k
    · subst hk
      have hl : (r_bm p r).testBit r = false := by rw [h]; simp
      split
      · rename_i hc
        rw [Nat.testBit_or, hl, Nat.testBit_two_pow]
        simp [hc]
      · rename_i hc
        rw [hl]
        simp [hc]
    · have h1 : decide (r < k + 1) = decide (r < k) := by
        by_cases q : r < k
        · simp [q]; omega
        · simp [q]; omega
      split
      · rw [Nat.testBit_or, h, Nat.testBit_two_pow]
        have h2 : decide (k = r) = false := by simp; omega
        rw [h1, h2]
        simp
      · rw [h, h1]
theorem sR_bits_s {x y : am_N} {t k a wh : Nat} {f : Nat} {Q : Int32 → am_M → Prop} {K : am_M → Int32 → Int32 → Prop} (ht : t < 10) (hk : k < 4) (hw : wh < 4) (ha : a = 25 + wh) (hb : y a 0 (4 * t + k) < 1000) (h : w_X5_bits_L5 (nI t) (nI wh) Q K f (x, y) (nI (r_bm (r_pd y a t) (k + 1))) (nI (k + 1))) : w_X5_bits_L5 (nI t) (nI wh) Q K (f + 1) (x, y) (nI (r_bm (r_pd y a t) k)) (nI k) := by
  have e : nI 4 * nI t + nI k = nI (4 * t + k) := by rw [pk_mul, nI_add]
  have hm : r_bm (r_pd y a t) k < 256 := Nat.lt_of_lt_of_le (r_bm_lt _ k) (Nat.le_trans (Nat.pow_le_pow_right (by decide) (show k ≤ 4 by omega)) (by decide))
  have key : am_ix (nI 4 * nI t + nI k) 40 (fun k7 => am_let (nI (y a 0 k7)) (fun y8 => ((y8 = 0 → am_let (nI (r_bm (r_pd y a t) k)) (fun y9 => am_let (nI k + nI 1) (fun y10 => w_X5_bits_L5 (nI t) (nI wh) Q K f (x, y) y9 y10))) ∧ (¬ y8 = 0 → am_let (nI (r_bm (r_pd y a t) k) ||| (nI 1 <<< (nI k &&& 31))) (fun y11 => am_let (nI k + nI 1) (fun y12 => w_X5_bits_L5 (nI t) (nI wh) Q K f (x, y) y11 y12)))))) := by
    refine ⟨4 * t + k, by omega, e, fun h1 => ?_, fun h1 => ?_⟩
    · have g1 : y a 0 (4 * t + k) = 0 := (pr_eq0 hb).mp h1
      have g3 : ¬ r_pd y a t k = true := by simp [g1]
      rw [r_bm, if_neg g3] at h
      show w_X5_bits_L5 _ _ _ _ _ _ _ (nI k + nI 1)
      rw [nI_add]
      exact h
    · have g1 : ¬ y a 0 (4 * t + k) = 0 := fun q => h1 ((pr_eq0 hb).mpr q)
      have g3 : r_pd y a t k = true := by simp [g1]
      rw [r_bm, if_pos g3] at h
      show w_X5_bits_L5 _ _ _ _ _ _ (nI (r_bm (r_pd y a t) k) ||| (nI 1 <<< (nI k &&& 31))) (nI k + nI 1)
      rw [nI_add, pr_or _ hm _ (by omega)]
      exact h
  apply w_X5_bits_L5_i
  refine ⟨fun q => absurd q (nI_ge (by omega) (by omega)), fun _ => ?_⟩
  have h4 : wh = 0 ∨ wh = 1 ∨ wh = 2 ∨ wh = 3 := by omega
  rcases h4 with rfl | rfl | rfl | rfl
  · subst ha
    exact pr_t (by decide) key
  · subst ha
    exact pr_f (by decide) (pr_t rfl key)
  · subst ha
    exact pr_f (by decide) (pr_f (by decide) (pr_t rfl key))
  · subst ha
    exact pr_f (by decide) (pr_f (by decide) (pr_f (by decide) key))
theorem sR_bits {x y : am_N} {t wh a : Nat} {Q : Int32 → am_M → Prop} (ht : t < 10) (hw : wh < 4) (ha : a = 25 + wh) (hb : ∀ n, n < 4 → y a 0 (4 * t + n) < 1000) (h : Q (nI (r_bm (r_pd y a t) 4)) (x, y)) : w_X5_bits (x, y) (nI t) (nI wh) Q := by
  apply w_X5_bits_i
  refine ⟨5, ?_⟩
  refine sR_bits_s (k := 0) (a := a) ht (by decide) hw ha (hb 0 (by decide)) ?_
  refine sR_bits_s (k := 1) (a := a) ht (by decide) hw ha (hb 1 (by decide)) ?_
  refine sR_bits_s (k := 2) (a := a) ht (by decide) hw ha (hb 2 (by decide)) ?_
  refine sR_bits_s (k := 3) (a := a) ht (by decide) hw ha (hb 3 (by decide)) ?_
  apply w_X5_bits_L5_i
  exact ⟨fun _ => h, fun q => absurd (by decide) q⟩
