/-! coming back: its steps -/
set_option maxRecDepth 100000 in
theorem pr_shr : ∀ m, m < 256 → ∀ n, n < 8 → (((nI m >>> (nI n &&& 31)) &&& nI 1 = nI 1) ↔ m.testBit n = true) := by decide +kernel
theorem fnd {x y : am_N} {n t kd : Nat} (hn : n < 4) (ht : t < 10) (hkd : kd < 10) (hB : x 0 0 3 ≤ 10) (v8 : V8 x) (v9 : V9 x) (r6 : R6 x y) :
    (∃ k, k < x 6 n 2 ∧ x 7 n k = 10 * t + kd ∧ (∀ (yy : am_N) (Q : Int32 → am_M → Prop), Q (nI k) (x, yy) → w_X1_find (x, yy) n (nI t) (nI kd) Q) ∧ (∀ (xx : am_N) (Q : Int32 → am_M → Prop), Q (nI (64 * n + k)) (xx, y) → w_X5_logged (xx, y) (nI n) (nI t) (nI kd) Q)) ∨
    (¬ hr x n (10 * t + kd) ∧ (∀ (yy : am_N) (Q : Int32 → am_M → Prop), Q (-1) (x, yy) → w_X1_find (x, yy) n (nI t) (nI kd) Q) ∧ (∀ (xx : am_N) (Q : Int32 → am_M → Prop), Q (-1) (xx, y) → w_X5_logged (xx, y) (nI n) (nI t) (nI kd) Q)) := by
  obtain ⟨g1, g2, g3⟩ := v8 n hn
  obtain ⟨s1, s2, s3⟩ := r6 n hn
  have lab : ∀ k, k < x 6 n 2 → x 7 n k < 1000 := fun k hk => by have := (g3 k hk).1; omega
  have lb : ∀ k, k < y 31 0 n → y 32 0 (64 * n + k) < 1000 ∧ y 33 0 (64 * n + k) < 1000 := fun k hk => by
    have a := s3 k (by omega)
    have b := (g3 k (by omega)).1
    omega
  have iff : ∀ k, k < x 6 n 2 → (x 7 n k = 10 * t + kd ↔ (y 32 0 (64 * n + k) = t ∧ y 33 0 (64 * n + k) = kd)) := fun k hk => by
    have a := s3 k hk
    omega
  by_cases q : hr x n (10 * t + kd)
  · obtain ⟨k, hk, e⟩ := q
    have un : ∀ j, j < x 6 n 2 → x 7 n j = 10 * t + kd → j = k := fun j hj ej => by
      by_cases l : j < k
      · exact absurd (ej.trans e.symm) (v9 n hn j k l hk)
      · by_cases l2 : k < j
        · exact absurd (e.trans ej.symm) (v9 n hn k j l2 hj)
        · omega
    refine Or.inl ⟨k, hk, e, fun yy Q hQ => ?_, fun xx Q hQ => ?_⟩
    · refine sC_find g1 (by omega) lab (fun j hj ej _ => ?_) (fun no => absurd e (no k hk))
      rw [un j hj ej]
      exact hQ
    · refine sR_logged hn (by omega) (by omega) (by omega) lb (fun j hj e1 e2 _ => ?_) (fun no => absurd ((iff k hk).mp e) (no k (by omega)))
      rw [un j (by omega) ((iff j (by omega)).mpr ⟨e1, e2⟩)]
      exact hQ
  · refine Or.inr ⟨q, fun yy Q hQ => ?_, fun xx Q hQ => ?_⟩
    · exact sC_find g1 (by omega) lab (fun j hj ej _ => absurd ⟨j, hj, ej⟩ q) (fun _ => hQ)
    · exact sR_logged hn (by omega) (by omega) (by omega) lb (fun j hj e1 e2 _ => absurd ⟨j, by omega, (iff j (by omega)).mpr ⟨e1, e2⟩⟩ q) (fun _ => hQ)
/-- the reference's owners, the first i of n's resources taken for t -/
def r_rh (y : am_N) (n t w i : Nat) : am_N := fun a b c => if a = 30 ∧ b = 0 ∧ 8 * n ≤ c ∧ c < 8 * n + i ∧ w.testBit (c - 8 * n) = true then t + 1 else y a b c
theorem r_rh_s1 {y : am_N} {n t w i : Nat} (h : w.testBit i = true) : am_u (r_rh y n t w i) 30 0 (8 * n + i) (t + 1) = r_rh y n t w (i + 1) := by
  funext a b c
  unfold r_rh am_u
  by_cases q : a = 30 ∧ b = 0 ∧ c = 8 * n + i
  · obtain ⟨rfl, rfl, rfl⟩ := q
    have e : 8 * n + i - 8 * n = i := by omega
    rw [if_pos ⟨rfl, rfl, rfl⟩, if_pos ⟨rfl, rfl, by omega, by omega, by rw [e]; exact h⟩]
  · rw [if_neg q]
    have e : (a = 30 ∧ b = 0 ∧ 8 * n ≤ c ∧ c < 8 * n + i ∧ w.testBit (c - 8 * n) = true) ↔ (a = 30 ∧ b = 0 ∧ 8 * n ≤ c ∧ c < 8 * n + (i + 1) ∧ w.testBit (c - 8 * n) = true) := by
      constructor
      · rintro ⟨h1, h2, h3, h4, h5⟩; exact ⟨h1, h2, h3, by omega, h5⟩
      · rintro ⟨h1, h2, h3, h4, h5⟩; exact ⟨h1, h2, h3, by omega, h5⟩
    simp only [e]
theorem r_rh_s2 {y : am_N} {n t w i : Nat} (h : w.testBit i = false) : am_u (r_rh y n t w i) 30 0 (8 * n + i) (y 30 0 (8 * n + i)) = r_rh y n t w (i + 1) := by
  funext a b c
  unfold r_rh am_u
  by_cases q : a = 30 ∧ b = 0 ∧ c = 8 * n + i
  · obtain ⟨rfl, rfl, rfl⟩ := q
    have e : 8 * n + i - 8 * n = i := by omega
    rw [if_pos ⟨rfl, rfl, rfl⟩, if_neg (fun z => by have z5 := z.2.2.2.2; rw [e, h] at z5; exact absurd z5 (by decide))]
  · rw [if_neg q]
    have e : (a = 30 ∧ b = 0 ∧ 8 * n ≤ c ∧ c < 8 * n + i ∧ w.testBit (c - 8 * n) = true) ↔ (a = 30 ∧ b = 0 ∧ 8 * n ≤ c ∧ c < 8 * n + (i + 1) ∧ w.testBit (c - 8 * n) = true) := by
      constructor
      · rintro ⟨h1, h2, h3, h4, h5⟩; exact ⟨h1, h2, h3, by omega, h5⟩
      · rintro ⟨h1, h2, h3, h4, h5⟩; exact ⟨h1, h2, h3, by omega, h5⟩
    simp only [e]
theorem r_rh_0 {y : am_N} {n t w : Nat} : r_rh y n t w 0 = y := by
  funext a b c
  exact if_neg (by omega)
theorem r_rh_at {y : am_N} {n t w i : Nat} : r_rh y n t w i 30 0 (8 * n + i) = y 30 0 (8 * n + i) := if_neg (by omega)
theorem sR_rh_L {x y : am_N} {n t w p : Nat} {Q : Int32 → am_M → Prop} {K : am_M → Int32 → Prop} (hn : n < 4) (ht : t < 10) (hp : p < 256) (hw : w < 256) (e34 : y 34 0 p = w) (hK : K (x, r_rh y n t w 8) (nI 8)) : ∀ (d k : Nat), k + d = 8 → w_X5_recoverMember_L48 (nI p) (nI n) (nI t) Q K (d + 1) (x, r_rh y n t w k) (nI k) := by
  intro d
  induction d with
  | zero =>
    intro k hk
    apply w_X5_recoverMember_L48_i
    have e : k = 8 := by omega
    subst e
    exact ⟨fun _ => hK, fun q => absurd (by decide) q⟩
  | succ d ih =>
    intro k hk
    have e : nI 8 * nI n + nI k = nI (8 * n + k) := by rw [pk_mul, nI_add]
    have e2 := pr_shr w hw k (by omega)
    have s := ih (k + 1) (by omega)
    apply w_X5_recoverMember_L48_i
    refine ⟨fun q => absurd q (nI_ge (by omega) (by omega)), fun _ => ⟨p, hp, rfl, fun h1 => ?_, fun h1 => ?_⟩⟩
    · have h1 : ¬ ((nI (y 34 0 p) >>> (nI k &&& 31)) &&& nI 1) = nI 1 := h1
      rw [e34, e2, Bool.not_eq_true] at h1
      refine ⟨8 * n + k, by omega, e, 8 * n + k, y 30 0 (8 * n + k), by omega, e, ?_, ?_⟩
      · show nI (r_rh y n t w k 30 0 (8 * n + k)) = _
        rw [r_rh_at]
      · show w_X5_recoverMember_L48 _ _ _ _ _ _ (x, am_u (r_rh y n t w k) 30 0 (8 * n + k) (y 30 0 (8 * n + k))) (nI k + nI 1)
        rw [r_rh_s2 h1, nI_add]
        exact s
    · have h1 : ((nI (y 34 0 p) >>> (nI k &&& 31)) &&& nI 1) = nI 1 := h1
      rw [e34, e2] at h1
      refine ⟨8 * n + k, t + 1, by omega, e, nI_add _ _, ?_⟩
      show w_X5_recoverMember_L48 _ _ _ _ _ _ (x, am_u (r_rh y n t w k) 30 0 (8 * n + k) (t + 1)) (nI k + nI 1)
      rw [r_rh_s1 h1, nI_add]
      exact s
theorem sR_rh {x y : am_N} {n t w p : Nat} {Q : Int32 → am_M → Prop} {K : am_M → Int32 → Prop} (hn : n < 4) (ht : t < 10) (hp : p < 256) (hw : w < 256) (e34 : y 34 0 p = w) (hK : K (x, r_rh y n t w 8) (nI 8)) : w_X5_recoverMember_L48 (nI p) (nI n) (nI t) Q K 9 (x, y) (nI 0) := by
  have s := sR_rh_L (Q := Q) hn ht hp hw e34 hK 8 0 (by omega)
  rw [r_rh_0] at s
  exact s
/-- members, yes and due of t, the first i set to w's -/
def r_rq (y : am_N) (t w i : Nat) : am_N := fun a b c => if (a = 25 ∨ a = 26 ∨ a = 28) ∧ b = 0 ∧ 4 * t ≤ c ∧ c < 4 * t + i then (if w.testBit (c - 4 * t) = true then 1 else 0) else y a b c
theorem r_rq_s {y : am_N} {t w i v : Nat} (hv : v = if w.testBit i = true then 1 else 0) : am_u (am_u (am_u (r_rq y t w i) 25 0 (4 * t + i) v) 26 0 (4 * t + i) v) 28 0 (4 * t + i) v = r_rq y t w (i + 1) := by
  funext a b c
  unfold r_rq am_u
  by_cases q : (a = 25 ∨ a = 26 ∨ a = 28) ∧ b = 0 ∧ c = 4 * t + i
  · obtain ⟨q1, rfl, rfl⟩ := q
    have e : 4 * t + i - 4 * t = i := by omega
    rw [if_pos (c := (a = 25 ∨ a = 26 ∨ a = 28) ∧ 0 = 0 ∧ 4 * t ≤ 4 * t + i ∧ 4 * t + i < 4 * t + (i + 1)) ⟨q1, rfl, by omega, by omega⟩, e, ← hv]
    rcases q1 with rfl | rfl | rfl <;> simp
  · rw [if_neg (by omega), if_neg (by omega), if_neg (by omega)]
    have e : ((a = 25 ∨ a = 26 ∨ a = 28) ∧ b = 0 ∧ 4 * t ≤ c ∧ c < 4 * t + i) ↔ ((a = 25 ∨ a = 26 ∨ a = 28) ∧ b = 0 ∧ 4 * t ≤ c ∧ c < 4 * t + (i + 1)) := by omega
    simp only [e]
theorem r_rq_0 {y : am_N} {t w : Nat} : r_rq y t w 0 = y := by
  funext a b c
  exact if_neg (by omega)
theorem sR_rc_s {x y : am_N} {n t w p i f : Nat} {Q : Int32 → am_M → Prop} {K : am_M → Int32 → Prop} (ht : t < 10) (hp : p < 256) (hw : w < 16) (hi : i < 4) (e34 : y 34 0 p = w) (h : w_X5_recoverChief_L35 (nI p) (nI n) (nI t) Q K f (x, r_rq y t w (i + 1)) (nI (i + 1))) : w_X5_recoverChief_L35 (nI p) (nI n) (nI t) Q K (f + 1) (x, r_rq y t w i) (nI i) := by
  have e : nI 4 * nI t + nI i = nI (4 * t + i) := by rw [pk_mul, nI_add]
  have e2 := pr_shr w (by omega) i (by omega)
  apply w_X5_recoverChief_L35_i
  refine ⟨fun q => absurd q (nI_ge (by omega) (by omega)), fun _ => ⟨p, hp, rfl, fun h1 => ?_, fun h1 => ?_⟩⟩
  · have h1 : ¬ ((nI (y 34 0 p) >>> (nI i &&& 31)) &&& nI 1) = nI 1 := h1
    rw [e34, e2] at h1
    refine ⟨4 * t + i, 0, by omega, e, rfl, by decide, 4 * t + i, 0, by omega, e, rfl, by decide, 4 * t + i, 0, by omega, e, rfl, by decide, ?_⟩
    show w_X5_recoverChief_L35 _ _ _ _ _ _ (x, am_u (am_u (am_u (r_rq y t w i) 25 0 (4 * t + i) 0) 26 0 (4 * t + i) 0) 28 0 (4 * t + i) 0) (nI i + nI 1)
    rw [r_rq_s (by rw [if_neg h1]), nI_add]
    exact h
  · have h1 : ((nI (y 34 0 p) >>> (nI i &&& 31)) &&& nI 1) = nI 1 := h1
    rw [e34, e2] at h1
    refine ⟨4 * t + i, 1, by omega, e, rfl, by decide, 4 * t + i, 1, by omega, e, rfl, by decide, 4 * t + i, 1, by omega, e, rfl, by decide, ?_⟩
    show w_X5_recoverChief_L35 _ _ _ _ _ _ (x, am_u (am_u (am_u (r_rq y t w i) 25 0 (4 * t + i) 1) 26 0 (4 * t + i) 1) 28 0 (4 * t + i) 1) (nI i + nI 1)
    rw [r_rq_s (by rw [if_pos h1]), nI_add]
    exact h
theorem sR_rc {x y : am_N} {n t w p : Nat} {Q : Int32 → am_M → Prop} {K : am_M → Int32 → Prop} (ht : t < 10) (hp : p < 256) (hw : w < 16) (e34 : y 34 0 p = w) (hK : K (x, r_rq y t w 4) (nI 4)) : w_X5_recoverChief_L35 (nI p) (nI n) (nI t) Q K 5 (x, y) (nI 0) := by
  have e0 := r_rq_0 (y := y) (t := t) (w := w)
  rw [← e0]
  refine sR_rc_s ht hp hw (by decide) e34 ?_
  refine sR_rc_s ht hp hw (by decide) e34 ?_
  refine sR_rc_s ht hp hw (by decide) e34 ?_
  refine sR_rc_s ht hp hw (by decide) e34 ?_
  apply w_X5_recoverChief_L35_i
  exact ⟨fun _ => hK, fun q => absurd (by decide) q⟩
theorem VV_mem {e : Nat} {x : am_N} {t v : Nat} (hv : v < 16) (hs : x 9 t 1 ≠ 1) (ht : t < x 0 0 3) (h : VW e x) : VW e (am_u x 9 t 2 v) := by
  obtain ⟨v1, v2, v3, v4, v6, v7, v8, v9, v10, v11, v12, v13, v14⟩ := h
  have s0 : ∀ u, (am_u x 9 t 2 v) 9 u 0 = x 9 u 0 := fun u => by unfold am_u; exact if_neg (by omega)
  have s1 : ∀ u, (am_u x 9 t 2 v) 9 u 1 = x 9 u 1 := fun u => by unfold am_u; exact if_neg (by omega)
  have s2 : ∀ u, u ≠ t → (am_u x 9 t 2 v) 9 u 2 = x 9 u 2 := fun u hu => by unfold am_u; exact if_neg (by omega)
  refine ⟨v1, ?_, v3, v4, ?_, ?_, v8, v9, v10, ?_, ?_, v13, v14⟩
  · intro u hu
    have g := v2 u hu
    by_cases q : u = t
    · subst q; simp [am_u]; exact ⟨g.1, g.2.1, hv, g.2.2.2⟩
    · simpa [am_u, q] using g
  · intro u hu hle
    have hle : x 0 0 3 ≤ u := hle
    rw [s2 u (by omega)]
    exact v6 u hu hle
  · intro k hk
    obtain ⟨g1, g2, g3, g4, g5, g6⟩ := v7 k hk
    refine ⟨g1, g2, g3, g4, g5, fun z => ?_⟩
    show (am_u x 9 t 2 v) 9 (x 2 3 k) 1 ≠ 1
    rw [s1]
    exact g6 z
  · intro u hu hue
    rw [s0, s1]
    exact v11 u hu hue
  · intro u hu hs2 m hm
    rw [s1] at hs2
    rw [s2 u (fun z => by subst z; exact hs hs2)]
    exact v12 u hu hs2 m hm
/-- the committing stage of t as DECIDED of w has it -/
def c_rc (x : am_N) (t w : Nat) : am_N := am_u (am_u (am_u (am_u x 9 t 1 3) 9 t 2 w) 9 t 3 w) 9 t 5 w
theorem VV_rc {x : am_N} {t w : Nat} (hw : w < 16) (ht : t < x 0 0 3) (hno : ¬ hr x (x 9 t 0) (10 * t + 6)) (h : VV x) : VV (c_rc x t w) := by
  have h0 : VW t x := by
    obtain ⟨v1, v2, v3, v4, v6, v7, v8, v9, v10, v11, v12, v13, v14⟩ := (show VV x from h)
    have := v1.1
    exact ⟨v1, v2, v3, v4, v6, v7, v8, v9, v10, fun u hu _ => v11 u hu (by omega), v12, v13, v14⟩
  refine VV_tx (by omega) hw (VV_tx (by omega) hw (VV_mem hw ?_ ht (VV_stage3 hno h0)))
  simp [am_u]
theorem RR_rc {x y : am_N} {t w : Nat} (h : RR x y) : RR (c_rc x t w) (r_rq (am_u y 24 0 t 3) t w 4) := by
  obtain ⟨r1, r2, r3, r4, r5, r6, r7, r8, r9, r10, r11⟩ := h
  have key : ∀ (c d : Nat), (c = 2 ∧ d = 25) ∨ (c = 3 ∧ d = 26) ∨ (c = 5 ∧ d = 28) → R8 c d x y → R8 c d (c_rc x t w) (r_rq (am_u y 24 0 t 3) t w 4) := by
    intro c d hcd h8 u n hu hn
    have g := h8 u n hu hn
    by_cases q : u = t
    · subst q
      have e : 4 * u + n - 4 * u = n := by omega
      rcases hcd with ⟨rfl, rfl⟩ | ⟨rfl, rfl⟩ | ⟨rfl, rfl⟩ <;> simp [c_rc, r_rq, am_u, hn] <;> cases w.testBit n <;> simp
    · have c1 : ¬ (4 * t ≤ 4 * u + n ∧ 4 * u + n < 4 * t + 4) := by omega
      rcases hcd with ⟨rfl, rfl⟩ | ⟨rfl, rfl⟩ | ⟨rfl, rfl⟩ <;> simpa [c_rc, r_rq, am_u, q, c1] using g
  refine ⟨r1, r2, r3, r4, r5, r6, ?_, key 2 25 (by omega) r8, key 3 26 (by omega) r9, ?_, key 5 28 (by omega) r11⟩
  · intro u hu
    have g := r7 u hu
    by_cases q : u = t
    · subst q; simpa [c_rc, r_rq, am_u] using g.1
    · simpa [c_rc, r_rq, am_u, q] using g
  · intro u n hu hn
    have g := r10 u n hu hn
    simpa [c_rc, r_rq, am_u] using g
