/-! numbers and branches -/
theorem pr_t {c A B : Prop} (h : c) (b : B) : (¬ c → A) ∧ (c → B) := ⟨fun q => absurd h q, fun _ => b⟩
theorem pr_f {c A B : Prop} (h : ¬ c) (a : A) : (¬ c → A) ∧ (c → B) := ⟨fun _ => a, fun q => absurd q h⟩
abbrev pr_rng (x : Int32) (B : Nat) (A T : Prop) : Prop := ((x < 0 → A) ∧ (¬ x < 0 → ((nI B ≤ x → A) ∧ (¬ nI B ≤ x → T))))
theorem pr_rt {j B : Nat} {A T : Prop} (hj : j < B) (hB : B < 2 ^ 31) (h : T) : pr_rng (nI j) B A T :=
  ⟨fun q => absurd q (nI_pos (by omega)), fun _ => ⟨fun q => absurd q (nI_ge hj hB), fun _ => h⟩⟩
theorem pr_rf {x : Int32} {B : Nat} {A T : Prop} (hx : x < 0 ∨ nI B ≤ x) (h : A) : pr_rng x B A T :=
  ⟨fun _ => h, fun q => ⟨fun _ => h, fun q2 => hx.elim (fun a => absurd a q) (fun a => absurd a q2)⟩⟩
/-- the reference's forms: 1 says no -/
abbrev pr_rnl (x : Int32) (B : Nat) (A T : Prop) : Prop := ((x < 0 → A) ∧ (¬ x < 0 → ((x < nI B → T) ∧ (¬ x < nI B → A))))
theorem pr_lt {j B : Nat} {A T : Prop} (hj : j < B) (hB : B < 2 ^ 31) (h : T) : pr_rnl (nI j) B A T :=
  ⟨fun q => absurd q (nI_pos (by omega)), fun _ => ⟨fun _ => h, fun q => absurd (nI_lt hj hB) q⟩⟩
theorem pr_ge {x : Int32} {B : Nat} (h : nI B ≤ x) : ¬ x < nI B := by
  rw [Int32.le_iff_toInt_le] at h
  rw [Int32.lt_iff_toInt_lt]
  omega
theorem pr_lf {x : Int32} {B : Nat} {A T : Prop} (hx : x < 0 ∨ nI B ≤ x) (h : A) : pr_rnl x B A T :=
  ⟨fun _ => h, fun q => ⟨fun q2 => hx.elim (fun a => absurd a q) (fun a => absurd q2 (pr_ge a)), fun _ => h⟩⟩
theorem pr_le3 {x : Int32} : x ≤ nI 3 ↔ x < nI 4 := by
  rw [Int32.le_iff_toInt_le, Int32.lt_iff_toInt_lt, nI_toInt (by decide), nI_toInt (by decide)]
  omega
theorem pr_le7 {x : Int32} : x ≤ nI 7 ↔ x < nI 8 := by
  rw [Int32.le_iff_toInt_le, Int32.lt_iff_toInt_lt, nI_toInt (by decide), nI_toInt (by decide)]
  omega
theorem pr_eq {a b : Nat} (ha : a < 1000) (hb : b < 1000) : nI a = nI b ↔ a = b := nI_eq (by omega) (by omega)
theorem pr_eq0 {a : Nat} (ha : a < 1000) : nI a = 0 ↔ a = 0 := by
  rw [← nI_0]
  exact pr_eq ha (by omega)
set_option maxRecDepth 100000 in
theorem pr_bit : ∀ m, m < 256 → ∀ n, n < 8 → ((nI m &&& (nI 1 <<< (nI n &&& 31)) = 0) ↔ m.testBit n = false) := by decide +kernel
set_option maxRecDepth 100000 in
theorem pr_or : ∀ m, m < 256 → ∀ n, n < 8 → nI m ||| (nI 1 <<< (nI n &&& 31)) = nI (m ||| 2 ^ n) := by decide +kernel
theorem pr_or16 : ∀ m, m < 16 → ∀ n, n < 4 → m ||| 2 ^ n < 16 := by decide +kernel
set_option maxRecDepth 100000 in
theorem pr_or256 : ∀ m, m < 256 → ∀ n, n < 8 → m ||| 2 ^ n < 256 := by decide +kernel
set_option maxRecDepth 100000 in
theorem pr_sh : ∀ n, n < 8 → nI 1 <<< (nI n &&& 31) = nI (2 ^ n) := by decide +kernel
/-! the class: what its small methods do to its memory -/
theorem sC_isNode_t {M : am_M} {Q : Int32 → am_M → Prop} {n : Nat} (hn : n < 4) (h : Q (nI 1) M) : w_X0_isNode M (nI n) Q := pr_rt hn (by decide) h
theorem sC_isNode_f {M : am_M} {Q : Int32 → am_M → Prop} {x : Int32} (hx : x < 0 ∨ nI 4 ≤ x) (h : Q (nI 0) M) : w_X0_isNode M x Q := pr_rf hx h
theorem sC_isRes_t {M : am_M} {Q : Int32 → am_M → Prop} {n : Nat} (hn : n < 8) (h : Q (nI 1) M) : w_X0_isResource M (nI n) Q := pr_rt hn (by decide) h
theorem sC_isRes_f {M : am_M} {Q : Int32 → am_M → Prop} {x : Int32} (hx : x < 0 ∨ nI 8 ≤ x) (h : Q (nI 0) M) : w_X0_isResource M x Q := pr_rf hx h
theorem sC_isTx_t {M : am_M} {Q : Int32 → am_M → Prop} {t : Nat} (ht : t < M.1 0 0 3) (hB : M.1 0 0 3 ≤ 10) (h : Q (nI 1) M) : w_X0_isTransaction M (nI t) Q := pr_rt ht (by omega) h
theorem sC_isTx_f {M : am_M} {Q : Int32 → am_M → Prop} {x : Int32} (hx : x < 0 ∨ nI (M.1 0 0 3) ≤ x) (h : Q (nI 0) M) : w_X0_isTransaction M x Q := pr_rf hx h
theorem sC_has_t {M : am_M} {Q : Int32 → am_M → Prop} {t : Nat} (ht : t < M.1 1 0 1) (hB : M.1 1 0 1 ≤ 40) (h : Q (nI 1) M) : w_X2_has M (nI t) Q := pr_rt ht (by omega) h
theorem sC_has_f {M : am_M} {Q : Int32 → am_M → Prop} {x : Int32} (hx : x < 0 ∨ nI (M.1 1 0 1) ≤ x) (h : Q (nI 0) M) : w_X2_has M x Q := pr_rf hx h
theorem sC_lhas_t {M : am_M} {n : Nat} {Q : Int32 → am_M → Prop} {t : Nat} (ht : t < M.1 6 n 2) (hB : M.1 6 n 2 ≤ 60) (h : Q (nI 1) M) : w_X1_has M n (nI t) Q := pr_rt ht (by omega) h
theorem sC_lhas_f {M : am_M} {n : Nat} {Q : Int32 → am_M → Prop} {x : Int32} (hx : x < 0 ∨ nI (M.1 6 n 2) ≤ x) (h : Q (nI 0) M) : w_X1_has M n x Q := pr_rf hx h
theorem sC_isIn_t {M : am_M} {Q : Int32 → am_M → Prop} {m n : Nat} (hm : m < 256) (hn : n < 8) (hb : m.testBit n = true) (h : Q (nI 1) M) : w_X0_isIn M (nI m) (nI n) Q :=
  ⟨fun q => (by rw [pr_bit m hm n hn, hb] at q; cases q), fun _ => h⟩
theorem sC_isIn_f {M : am_M} {Q : Int32 → am_M → Prop} {m n : Nat} (hm : m < 256) (hn : n < 8) (hb : m.testBit n = false) (h : Q (nI 0) M) : w_X0_isIn M (nI m) (nI n) Q :=
  ⟨fun _ => h, fun q => absurd ((pr_bit m hm n hn).mpr hb) q⟩
def c_send (x : am_N) (k s r t : Nat) : am_N := if x 1 0 1 < 40 then am_u (am_u (am_u (am_u (am_u x 2 0 (x 1 0 1) k) 2 1 (x 1 0 1) s) 2 2 (x 1 0 1) r) 2 3 (x 1 0 1) t) 1 0 1 (x 1 0 1 + 1) else x
theorem sC_send {x y : am_N} {Q : am_M → Prop} {k s r t : Nat} (hc : x 1 0 1 ≤ 40) (h : Q (c_send x k s r t, y)) : w_X2_send (x, y) (nI k) (nI s) (nI r) (nI t) Q := by
  apply w_X2_send_i
  constructor
  · intro h1
    have h2 : x 1 0 1 < 40 := (nI_ltI (by omega) (by omega)).mp h1
    rw [c_send, if_pos h2] at h
    exact ⟨0, by decide, rfl, x 1 0 1, k, h2, rfl, rfl, 1, by decide, rfl, x 1 0 1, s, h2, rfl, rfl, 2, by decide, rfl, x 1 0 1, r, h2, rfl, rfl, 3, by decide, rfl, x 1 0 1, t, h2, rfl, rfl, x 1 0 1 + 1, nI_add _ _, h⟩
  · intro h1
    have h2 : ¬ x 1 0 1 < 40 := fun q => h1 (nI_lt q (by decide))
    rw [c_send, if_neg h2] at h
    exact h
theorem c_send_cnt {x : am_N} {k s r t : Nat} (h : x 1 0 1 ≤ 40) : (c_send x k s r t) 1 0 1 ≤ 40 := by
  unfold c_send
  split
  · show x 1 0 1 + 1 ≤ 40
    omega
  · exact h
def c_e (k s t : Nat) (p : Nat → Bool) (x : am_N) (n : Nat) : am_N := if p n = true then c_send x k s n t else x
def c_each (x : am_N) (k s t : Nat) (p : Nat → Bool) : am_N := c_e k s t p (c_e k s t p (c_e k s t p (c_e k s t p x 0) 1) 2) 3
theorem c_e_cnt {x : am_N} {k s t n : Nat} {p : Nat → Bool} (h : x 1 0 1 ≤ 40) : (c_e k s t p x n) 1 0 1 ≤ 40 := by
  unfold c_e
  split
  · exact c_send_cnt h
  · exact h
theorem sC_each_s {x y : am_N} {m k s t n f : Nat} {Q : am_M → Prop} {K : am_M → Int32 → Prop} (hn : n < 4) (hm : m < 16) (hc : x 1 0 1 ≤ 40) (h : w_X2_sendToEach_L3 (nI k) (nI s) (nI m) (nI t) Q K f (c_e k s t m.testBit x n, y) (nI (n + 1))) : w_X2_sendToEach_L3 (nI k) (nI s) (nI m) (nI t) Q K (f + 1) (x, y) (nI n) := by
  apply w_X2_sendToEach_L3_i
  refine ⟨fun q => absurd q (nI_ge hn (by decide)), fun _ => ?_⟩
  by_cases hb : m.testBit n = true
  · rw [c_e, if_pos hb] at h
    refine sC_isIn_t (by omega) (by omega) hb ?_
    refine br_f (by decide) ?_
    refine sC_send hc ?_
    show w_X2_sendToEach_L3 _ _ _ _ _ _ _ _ (nI n + nI 1)
    rw [nI_add]
    exact h
  · rw [c_e, if_neg hb] at h
    refine sC_isIn_f (by omega) (by omega) (by simpa using hb) ?_
    refine br_t (by decide) ?_
    show w_X2_sendToEach_L3 _ _ _ _ _ _ _ _ (nI n + nI 1)
    rw [nI_add]
    exact h
theorem sC_each {x y : am_N} {m k s t : Nat} {Q : am_M → Prop} (hm : m < 16) (hc : x 1 0 1 ≤ 40) (h : Q (c_each x k s t m.testBit, y)) : w_X2_sendToEach (x, y) (nI k) (nI s) (nI m) (nI t) Q := by
  apply w_X2_sendToEach_i
  refine ⟨5, ?_⟩
  refine sC_each_s (n := 0) (by decide) hm hc ?_
  refine sC_each_s (n := 1) (by decide) hm (c_e_cnt hc) ?_
  refine sC_each_s (n := 2) (by decide) hm (c_e_cnt (c_e_cnt hc)) ?_
  refine sC_each_s (n := 3) (by decide) hm (c_e_cnt (c_e_cnt (c_e_cnt hc))) ?_
  apply w_X2_sendToEach_L3_i
  exact ⟨fun _ => h, fun q => absurd (by decide) q⟩
def c_write (x : am_N) (n t kd w : Nat) : am_N := if x 6 n 2 < 60 then am_u (am_u (am_u x 7 n (x 6 n 2) (10 * t + kd)) 8 n (x 6 n 2) w) 6 n 2 (x 6 n 2 + 1) else x
theorem sC_write {x y : am_N} {n t kd w : Nat} {Q : am_M → Prop} (hc : x 6 n 2 ≤ 60) (h : Q (c_write x n t kd w, y)) : w_X1_write (x, y) n (nI t) (nI kd) (nI w) Q := by
  apply w_X1_write_i
  constructor
  · intro h1
    have h2 : x 6 n 2 < 60 := (nI_ltI (by omega) (by omega)).mp h1
    rw [c_write, if_pos h2] at h
    refine w_X1_labelOf_i ⟨x 6 n 2, 10 * t + kd, h2, rfl, by rw [pk_mul, nI_add], x 6 n 2, w, h2, ?_, rfl, x 6 n 2 + 1, ?_, ?_⟩
    · simp [am_u]
    · simp [am_u, nI_add]
    · exact h
  · intro h1
    have h2 : ¬ x 6 n 2 < 60 := fun q => h1 (nI_lt q (by decide))
    rw [c_write, if_neg h2] at h
    exact h
def c_force (x : am_N) (n t kd w : Nat) : am_N := am_u (am_u (c_write x n t kd w) 6 n 3 ((c_write x n t kd w) 6 n 2)) 6 n 4 ((c_write x n t kd w) 6 n 4 + 1)
theorem sC_force {x y : am_N} {n t kd w : Nat} {Q : am_M → Prop} (hc : x 6 n 2 ≤ 60) (h : Q (c_force x n t kd w, y)) : w_X1_force (x, y) n (nI t) (nI kd) (nI w) Q := by
  apply w_X1_force_i
  refine sC_write hc ?_
  refine ⟨_, rfl, (c_write x n t kd w) 6 n 4 + 1, ?_, h⟩
  simp [am_u, nI_add]
def c_letGo (x : am_N) (n t : Nat) : am_N := am_u (am_u x 5 n t 0) 4 n t 0
theorem sC_letGo {x y : am_N} {n t : Nat} {Q : am_M → Prop} (ht : t < 10) (h : Q (c_letGo x n t, y)) : w_X3_letGo (x, y) n (nI t) Q :=
  w_X3_letGo_i ⟨t, 0, ht, rfl, rfl, t, 0, ht, rfl, rfl, h⟩
def c_forget (x : am_N) (t : Nat) : am_N := am_u (am_u (am_u (am_u (am_u x 9 t 1 0) 9 t 2 0) 9 t 3 0) 9 t 4 0) 9 t 5 0
theorem sC_forget {x y : am_N} {t : Nat} {Q : am_M → Prop} (h : Q (c_forget x t, y)) : w_X4_forget (x, y) t Q :=
  w_X4_forget_i ⟨0, rfl, 0, rfl, 0, rfl, 0, rfl, 0, rfl, h⟩
theorem sC_find_L {x y : am_N} {n L : Nat} {t1 t2 : Int32} {Q : Int32 → am_M → Prop} {K : am_M → Int32 → Prop} (hlen : x 6 n 2 ≤ 60) (hL : L < 1000) (hlab : ∀ k, k < x 6 n 2 → x 7 n k < 1000) (hQ : ∀ k, k < x 6 n 2 → x 7 n k = L → (∀ j, j < k → x 7 n j ≠ L) → Q (nI k) (x, y)) (hK : (∀ j, j < x 6 n 2 → x 7 n j ≠ L) → K (x, y) (nI (x 6 n 2))) : ∀ (d k : Nat), k + d = x 6 n 2 → (∀ j, j < k → x 7 n j ≠ L) → w_X1_find_L9 (nI L) n t1 t2 Q K (d + 1) (x, y) (nI k) := by
  intro d
  induction d with
  | zero =>
    intro k hk hno
    apply w_X1_find_L9_i
    have e : k = x 6 n 2 := by omega
    refine ⟨fun _ => ?_, fun q => absurd (nI_le (Nat.le_of_eq e.symm) (by omega)) q⟩
    rw [e]
    rw [e] at hno
    exact hK hno
  | succ d ih =>
    intro k hk hno
    apply w_X1_find_L9_i
    refine ⟨fun q => absurd q (nI_ge (show k < x 6 n 2 by omega) (show x 6 n 2 < 2 ^ 31 by omega)), fun _ => ⟨k, by omega, rfl, fun hne => ?_, fun he => ?_⟩⟩
    · show w_X1_find_L9 _ _ _ _ _ _ _ _ (nI k + nI 1)
      rw [nI_add]
      refine ih (k + 1) (by omega) (fun j hj e => ?_)
      by_cases q : j = k
      · subst q
        exact hne (by show nI (x 7 n j) = nI L; rw [e])
      · exact hno j (by omega) e
    · exact hQ k (by omega) ((pr_eq (hlab k (by omega)) hL).mp he) hno
theorem sC_find {x y : am_N} {n t kd : Nat} {Q : Int32 → am_M → Prop} (hlen : x 6 n 2 ≤ 60) (hL : 10 * t + kd < 1000) (hlab : ∀ k, k < x 6 n 2 → x 7 n k < 1000) (hQ : ∀ k, k < x 6 n 2 → x 7 n k = 10 * t + kd → (∀ j, j < k → x 7 n j ≠ 10 * t + kd) → Q (nI k) (x, y)) (hN : (∀ j, j < x 6 n 2 → x 7 n j ≠ 10 * t + kd) → Q (-1) (x, y)) : w_X1_find (x, y) n (nI t) (nI kd) Q := by
  apply w_X1_find_i
  refine w_X1_labelOf_i ?_
  show ∃ f9 : Nat, w_X1_find_L9 (nI 10 * nI t + nI kd) n (nI t) (nI kd) Q _ f9 (x, y) (nI 0)
  rw [pk_mul, nI_add]
  exact ⟨x 6 n 2 + 1, sC_find_L hlen hL hlab hQ hN (x 6 n 2) 0 (by omega) (fun j hj => by omega)⟩
theorem sC_owner_L {x y : am_N} {n r : Nat} {Q : Int32 → am_M → Prop} {K : am_M → Int32 → Prop} (hr : r < 8) (hh : ∀ t, t < 10 → x 5 n t < 256) (hQ : ∀ t, t < 10 → (x 5 n t).testBit r = true → (∀ j, j < t → (x 5 n j).testBit r = false) → Q (nI t) (x, y)) (hK : (∀ j, j < 10 → (x 5 n j).testBit r = false) → K (x, y) (nI 10)) : ∀ (d k : Nat), k + d = 10 → (∀ j, j < k → (x 5 n j).testBit r = false) → w_X3_findOwner_L2 n (nI r) Q K (d + 1) (x, y) (nI k) := by
  intro d
  induction d with
  | zero =>
    intro k hk hno
    apply w_X3_findOwner_L2_i
    have e : k = 10 := by omega
    subst e
    exact ⟨fun _ => hK hno, fun q => absurd (by decide) q⟩
  | succ d ih =>
    intro k hk hno
    apply w_X3_findOwner_L2_i
    refine ⟨fun q => absurd q (nI_ge (by omega) (by omega)), fun _ => ⟨k, by omega, rfl, ?_⟩⟩
    by_cases hb : (x 5 n k).testBit r = true
    · exact sC_isIn_t (hh k (by omega)) hr hb (br_f (by decide) (hQ k (by omega) hb hno))
    · have hb : (x 5 n k).testBit r = false := by simpa using hb
      refine sC_isIn_f (hh k (by omega)) hr hb (br_t (by decide) ?_)
      show w_X3_findOwner_L2 _ _ _ _ _ _ (nI k + nI 1)
      rw [nI_add]
      refine ih (k + 1) (by omega) (fun j hj => ?_)
      by_cases q : j = k
      · subst q; exact hb
      · exact hno j (by omega)
theorem sC_owner {x y : am_N} {n r : Nat} {Q : Int32 → am_M → Prop} (hr : r < 8) (hh : ∀ t, t < 10 → x 5 n t < 256) (hQ : ∀ t, t < 10 → (x 5 n t).testBit r = true → (∀ j, j < t → (x 5 n j).testBit r = false) → Q (nI t) (x, y)) (hN : (∀ j, j < 10 → (x 5 n j).testBit r = false) → Q (-1) (x, y)) : w_X3_findOwner (x, y) n (nI r) Q :=
  w_X3_findOwner_i ⟨11, sC_owner_L hr hh hQ hN 10 0 (by omega) (fun j hj => by omega)⟩
/-- the row of messages with the k-th taken out: so far the parts below p, and of part p the places below i -/
def c_tk (x : am_N) (k m p i : Nat) : am_N := fun a b c => if a = 2 ∧ k ≤ c ∧ ((b < p ∧ c < m) ∨ (b = p ∧ c < i)) then x 2 b (c + 1) else x a b c
theorem c_tk_s {x : am_N} {k m p i : Nat} (hk : k ≤ i) : am_u (c_tk x k m p i) 2 p i (x 2 p (i + 1)) = c_tk x k m p (i + 1) := by
  funext a b c
  unfold am_u c_tk
  by_cases h1 : a = 2 ∧ b = p ∧ c = i
  · obtain ⟨rfl, rfl, rfl⟩ := h1
    rw [if_pos ⟨rfl, rfl, rfl⟩, if_pos ⟨rfl, hk, Or.inr ⟨rfl, by omega⟩⟩]
  · rw [if_neg h1]
    by_cases h2 : a = 2 ∧ k ≤ c ∧ ((b < p ∧ c < m) ∨ (b = p ∧ c < i))
    · rw [if_pos h2, if_pos ⟨h2.1, h2.2.1, by omega⟩]
    · rw [if_neg h2, if_neg (fun q => h2 ⟨q.1, q.2.1, by omega⟩)]
theorem c_tk_n {x : am_N} {k m p : Nat} : c_tk x k m p m = c_tk x k m (p + 1) k := by
  funext a b c
  unfold c_tk
  by_cases h2 : a = 2 ∧ k ≤ c ∧ ((b < p ∧ c < m) ∨ (b = p ∧ c < m))
  · rw [if_pos h2, if_pos ⟨h2.1, h2.2.1, by omega⟩]
  · rw [if_neg h2, if_neg (fun q => h2 ⟨q.1, q.2.1, by omega⟩)]
theorem c_tk_0 {x : am_N} {k m : Nat} : c_tk x k m 0 k = x := by
  funext a b c
  unfold c_tk
  exact if_neg (by omega)
theorem sC_take_L {x y : am_N} {k m p : Nat} {Q : am_M → Prop} {K : am_M → Int32 → Prop} (hp : p < 4) (hm : x 1 0 1 = m) (hm2 : m < 40) (hK : K (c_tk x k m p m, y) (nI m)) : ∀ (d i : Nat), i + d = m → k ≤ i → w_X2_takeOut_L19 (nI p) (nI k) Q K (d + 1) (c_tk x k m p i, y) (nI i) := by
  intro d
  induction d with
  | zero =>
    intro i hi hki
    apply w_X2_takeOut_L19_i
    have e : i = m := by omega
    subst e
    refine ⟨fun _ => hK, fun q => absurd ?_ q⟩
    show nI (x 1 0 1) ≤ nI i
    rw [hm]
    exact nI_le (Nat.le_refl _) (by omega)
  | succ d ih =>
    intro i hi hki
    apply w_X2_takeOut_L19_i
    refine ⟨fun q => ?_, fun _ => ⟨p, hp, rfl, p, hp, rfl, i + 1, by omega, nI_add _ _, i, x 2 p (i + 1), by omega, rfl, ?_, ?_⟩⟩
    · have q : nI (x 1 0 1) ≤ nI i := q
      rw [hm] at q
      exact absurd q (nI_ge (by omega) (by omega))
    · show nI (c_tk x k m p i 2 p (i + 1)) = _
      unfold c_tk
      rw [if_neg (by omega)]
    · show w_X2_takeOut_L19 _ _ _ _ _ (am_u (c_tk x k m p i) 2 p i (x 2 p (i + 1)), y) (nI i + nI 1)
      rw [c_tk_s hki, nI_add]
      exact ih (i + 1) (by omega) (by omega)
theorem sC_take_s {x y : am_N} {k m p f : Nat} {Q : am_M → Prop} {K : am_M → Int32 → Prop} (hp : p < 4) (hm : x 1 0 1 = m) (hm2 : m < 40) (hk : k ≤ m) (h : w_X2_takeOut_L12 (nI k) Q K f (c_tk x k m (p + 1) k, y) (nI (p + 1))) : w_X2_takeOut_L12 (nI k) Q K (f + 1) (c_tk x k m p k, y) (nI p) := by
  apply w_X2_takeOut_L12_i
  refine ⟨fun q => absurd q (nI_ge hp (by decide)), fun _ => ⟨m - k + 1, ?_⟩⟩
  refine sC_take_L hp hm hm2 ?_ (m - k) k (by omega) (Nat.le_refl _)
  show w_X2_takeOut_L12 _ _ _ _ (c_tk x k m p m, y) (nI p + nI 1)
  rw [c_tk_n, nI_add]
  exact h
def c_take (x : am_N) (k : Nat) : am_N := c_tk (am_u x 1 0 1 (x 1 0 1 - 1)) k (x 1 0 1 - 1) 4 k
theorem sC_take {x y : am_N} {k : Nat} {Q : am_M → Prop} (hk : k < x 1 0 1) (hc : x 1 0 1 ≤ 40) (h : Q (c_take x k, y)) : w_X2_takeOut (x, y) (nI k) Q := by
  apply w_X2_takeOut_i
  refine ⟨x 1 0 1 - 1, pk_sub (show 1 ≤ x 1 0 1 by omega), 5, ?_⟩
  show w_X2_takeOut_L12 (nI k) Q _ 5 (am_u x 1 0 1 (x 1 0 1 - 1), y) (nI 0)
  have hm : (am_u x 1 0 1 (x 1 0 1 - 1)) 1 0 1 = x 1 0 1 - 1 := rfl
  have e0 := c_tk_0 (x := am_u x 1 0 1 (x 1 0 1 - 1)) (k := k) (m := x 1 0 1 - 1)
  rw [← e0]
  refine sC_take_s (p := 0) (by decide) hm (by omega) (by omega) ?_
  refine sC_take_s (p := 1) (by decide) hm (by omega) (by omega) ?_
  refine sC_take_s (p := 2) (by decide) hm (by omega) (by omega) ?_
  refine sC_take_s (p := 3) (by decide) hm (by omega) (by omega) ?_
  apply w_X2_takeOut_L12_i
  exact ⟨fun _ => h, fun q => absurd (by decide) q⟩
