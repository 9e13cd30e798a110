/-! a crash -/
theorem am_uu {x : am_N} {a b k v w : Nat} : am_u (am_u x a b k v) a b k w = am_u x a b k w := by
  funext p q r
  unfold am_u
  split <;> rfl
theorem am_ui {x : am_N} {a b k : Nat} : am_u x a b k (x a b k) = x := by
  funext p q r
  unfold am_u
  split
  · rename_i z
    obtain ⟨rfl, rfl, rfl⟩ := z
    rfl
  · rfl
theorem c_lf {x : am_N} {n t u : Nat} : c_letGo (c_forget x u) n t = c_forget (c_letGo x n t) u := by
  unfold c_letGo c_forget
  rw [am_uc (a := 9) (a2 := 5) (by decide), am_uc (a := 9) (a2 := 5) (by decide), am_uc (a := 9) (a2 := 5) (by decide), am_uc (a := 9) (a2 := 5) (by decide), am_uc (a := 9) (a2 := 5) (by decide)]
  rw [am_uc (a := 9) (a2 := 4) (by decide), am_uc (a := 9) (a2 := 4) (by decide), am_uc (a := 9) (a2 := 4) (by decide), am_uc (a := 9) (a2 := 4) (by decide), am_uc (a := 9) (a2 := 4) (by decide)]
/-- the first k let go at n -/
def c_L (n : Nat) (x : am_N) : Nat → am_N
  | 0 => x
  | k + 1 => c_letGo (c_L n x k) n k
/-- of the first k, those forgotten that n coordinates -/
def c_F (n : Nat) (x : am_N) : Nat → am_N
  | 0 => x
  | k + 1 => if x 9 k 0 = n then c_forget (c_F n x k) k else c_F n x k
theorem c_L9 {n : Nat} {x : am_N} : ∀ k, (c_L n x k) 9 = x 9
  | 0 => rfl
  | k + 1 => by
    show (c_letGo (c_L n x k) n k) 9 = x 9
    rw [← c_L9 (n := n) (x := x) k]
    rfl
theorem c_F_l {n t : Nat} {x : am_N} : ∀ k, c_letGo (c_F n x k) n t = c_F n (c_letGo x n t) k
  | 0 => rfl
  | k + 1 => by
    have e : (c_letGo x n t) 9 k 0 = x 9 k 0 := rfl
    unfold c_F
    rw [e, ← c_F_l k]
    split
    · exact c_lf
    · rfl
theorem c_F_o {n a : Nat} {x : am_N} (ha : a ≠ 9) : ∀ k, (c_F n x k) a = x a
  | 0 => rfl
  | k + 1 => by
    unfold c_F
    split
    · rw [← c_F_o (n := n) (x := x) ha k]
      funext b c
      unfold c_forget am_u
      rw [if_neg (fun z => ha z.1), if_neg (fun z => ha z.1), if_neg (fun z => ha z.1), if_neg (fun z => ha z.1), if_neg (fun z => ha z.1)]
    · exact c_F_o ha k
theorem c_F_0 {n t : Nat} {x : am_N} : ∀ k, (c_F n x k) 9 t 0 = x 9 t 0
  | 0 => rfl
  | k + 1 => by
    unfold c_F
    split
    · rw [← c_F_0 (n := n) (t := t) (x := x) k]
      simp [c_forget, am_u]
    · exact c_F_0 k
theorem c_L_o {n a : Nat} {x : am_N} (h4 : a ≠ 4) (h5 : a ≠ 5) : ∀ k, (c_L n x k) a = x a
  | 0 => rfl
  | k + 1 => by
    show (c_letGo (c_L n x k) n k) a = x a
    rw [← c_L_o (n := n) (x := x) h4 h5 k]
    funext b c
    unfold c_letGo am_u
    rw [if_neg (fun z => h4 z.1), if_neg (fun z => h5 z.1)]
theorem c_L_4 {n m t : Nat} {x : am_N} : ∀ k, (c_L n x k) 4 m t = (if m = n ∧ t < k then 0 else x 4 m t) ∧ (c_L n x k) 5 m t = (if m = n ∧ t < k then 0 else x 5 m t)
  | 0 => by simp [c_L]
  | k + 1 => by
    have g := c_L_4 (n := n) (m := m) (t := t) (x := x) k
    show (c_letGo (c_L n x k) n k) 4 m t = _ ∧ (c_letGo (c_L n x k) n k) 5 m t = _
    unfold c_letGo
    by_cases q : m = n ∧ t = k
    · obtain ⟨rfl, rfl⟩ := q
      simp [am_u]
    · have e : (m = n ∧ t < k + 1) ↔ (m = n ∧ t < k) := by omega
      simp only [e]
      simpa [am_u, q] using g
/-- both in the program's order -/
def c_C (n : Nat) (x : am_N) : Nat → am_N
  | 0 => x
  | k + 1 => if (c_C n x k) 9 k 0 = n then c_forget (c_letGo (c_C n x k) n k) k else c_letGo (c_C n x k) n k
def r_C (n : Nat) (y : am_N) : Nat → am_N
  | 0 => y
  | k + 1 => if (r_C n y k) 23 0 k = n then r_forget (r_letGo (r_C n y k) n k) k else r_letGo (r_C n y k) n k
theorem c_C_F {n : Nat} {x : am_N} : ∀ k, c_C n x k = c_F n (c_L n x k) k
  | 0 => rfl
  | k + 1 => by
    unfold c_C
    rw [c_C_F k, c_F_0, c_F_l]
    show _ = c_F n (c_letGo (c_L n x k) n k) (k + 1)
    conv => rhs; unfold c_F
    rfl
theorem r_C_o {n a : Nat} {y : am_N} (ha : a < 24 ∨ 30 < a) : ∀ k, (r_C n y k) a = y a
  | 0 => rfl
  | k + 1 => by
    have e : (r_letGo (r_C n y k) n k) a = y a := by
      rw [← r_C_o (n := n) (y := y) ha k]
      funext b c
      unfold r_letGo r_lg am_u
      rw [if_neg (by omega)]
      exact if_neg (by omega)
    unfold r_C
    split
    · rw [← e]
      funext b c
      unfold r_forget r_fg
      rw [if_neg (by omega)]
      exact if_neg (by omega)
    · exact e
theorem RR_C {n : Nat} {x y : am_N} (hn : n < 4) (h : RR x y) : ∀ k, k ≤ 10 → RR (c_C n x k) (r_C n y k)
  | 0, _ => h
  | k + 1, hk => by
    have g := RR_C hn h k (by omega)
    have e := (g.2.2.2.2.2.2.1 k (by omega)).1
    have g2 := RR_letGo hn (show k < 10 by omega) g
    unfold c_C r_C
    rw [← e]
    split
    · exact RR_forget (by omega) g2
    · exact g2
theorem VV_F {n : Nat} {x : am_N} (h : VV x) : ∀ k, VV (c_F n x k)
  | 0 => h
  | k + 1 => by
    unfold c_F
    split
    · exact VV_forget (Or.inr rfl) (VV_F h k)
    · exact VV_F h k
theorem VV_L {n : Nat} {x : am_N} (h : VV x) : VV (c_L n (am_u x 3 n 0 0) (x 0 0 3)) := by
  obtain ⟨v1, v2, v3, v4, v6, v7, v8, v9, v10, v11, v12, v13, v14⟩ := (show VV x from h)
  have s4 : ∀ m t, (c_L n (am_u x 3 n 0 0) (x 0 0 3)) 4 m t = if m = n ∧ t < x 0 0 3 then 0 else x 4 m t := fun m t => (c_L_4 (n := n) (m := m) (t := t) (x := am_u x 3 n 0 0) (x 0 0 3)).1
  have s5 : ∀ m t, (c_L n (am_u x 3 n 0 0) (x 0 0 3)) 5 m t = if m = n ∧ t < x 0 0 3 then 0 else x 5 m t := fun m t => (c_L_4 (n := n) (m := m) (t := t) (x := am_u x 3 n 0 0) (x 0 0 3)).2
  have so : ∀ a, a ≠ 4 → a ≠ 5 → (c_L n (am_u x 3 n 0 0) (x 0 0 3)) a = (am_u x 3 n 0 0) a := fun a h4 h5 => c_L_o h4 h5 _
  have s0 := so 0 (by decide) (by decide)
  have s1 := so 1 (by decide) (by decide)
  have s2 := so 2 (by decide) (by decide)
  have s3 := so 3 (by decide) (by decide)
  have s6 := so 6 (by decide) (by decide)
  have s7 := so 7 (by decide) (by decide)
  have s8 := so 8 (by decide) (by decide)
  have s9 := so 9 (by decide) (by decide)
  have u3 : ∀ m, (am_u x 3 n 0 0) 3 m 0 = if m = n then 0 else x 3 m 0 := fun m => by simp [am_u]
  generalize c_L n (am_u x 3 n 0 0) (x 0 0 3) = X at *
  have t0 : X 0 = x 0 := s0
  have t1 : X 1 = x 1 := s1
  have t2 : X 2 = x 2 := s2
  have t6 : X 6 = x 6 := s6
  have t7 : X 7 = x 7 := s7
  have t8 : X 8 = x 8 := s8
  have t9 : X 9 = x 9 := s9
  have th : ∀ m L, hr X m L ↔ hr x m L := fun m L => by unfold hr; rw [t6, t7]
  refine ⟨?_, ?_, ?_, ?_, ?_, ?_, ?_, ?_, ?_, ?_, ?_, ?_, ?_⟩
  · unfold V1; rw [t0, t1]; exact v1
  · unfold V2; rw [t9]; exact v2
  · intro m hm
    rw [s3, u3]
    have := v3 m hm
    split <;> omega
  · intro m t hm ht
    have g := v4 m t hm ht
    rw [s4, s5]
    split <;> omega
  · intro t ht hle
    rw [t0] at hle
    obtain ⟨g1, g2⟩ := v6 t ht hle
    rw [t9]
    refine ⟨g1, fun m hm => ?_⟩
    have g := g2 m hm
    rw [s4, s5]
    split <;> omega
  · unfold V7; rw [t0, t1, t2, t9]; exact v7
  · unfold V8; rw [t0, t6, t7, t8]; exact v8
  · unfold V9; rw [t6, t7]; exact v9
  · intro m t hm ht
    have g := v10 m t hm ht
    rw [s4, th, th, th]
    split
    · exact ⟨fun z => by omega, fun z => by omega⟩
    · exact g
  · intro t ht hte
    rw [t9, th, th, th]
    exact v11 t ht hte
  · intro t ht hs m hm
    rw [t9] at hs
    obtain ⟨g1, g2, g3⟩ := v12 t ht hs m hm
    rw [th, th, th, s4, t9]
    split
    · exact ⟨g1, by omega, fun z => ⟨(g3 z).1, (g3 z).2.1, rfl⟩⟩
    · exact ⟨g1, g2, g3⟩
  · unfold V13; rw [t6, t7, t8]; exact v13
  · intro m hm
    obtain ⟨g1, g2⟩ := v14 m hm
    rw [s3, u3]
    by_cases q : m = n
    · rw [if_pos q]
      refine ⟨fun z => by omega, fun _ t ht => ?_⟩
      rw [s5]
      split
      · rfl
      · rename_i hne
        exact ((v6 t ht (by omega)).2 m hm).2
    · rw [if_neg q]
      refine ⟨fun hu i t hi e a2 a3 => ?_, fun hu t ht => ?_⟩
      · rw [t6] at hi
        rw [t7] at e
        rw [th] at a2 a3
        rw [s4, s5, t8, if_neg (fun z => q z.1), if_neg (fun z => q z.1)]
        exact g1 hu i t hi e a2 a3
      · rw [s5, if_neg (fun z => q z.1)]
        exact g2 hu t ht
/-- a row cut to what is safe, at a node that is down -/
theorem VV_cut {n : Nat} {x : am_N} (hn : n < 4) (hd : x 3 n 0 = 0) (h : VV x) : VV (am_u x 6 n 2 (x 6 n 3)) := by
  obtain ⟨v1, v2, v3, v4, v6, v7, v8, v9, v10, v11, v12, v13, v14⟩ := (show VV x from h)
  have hs := (v8 n hn).2.1
  have s62 : ∀ m, (am_u x 6 n 2 (x 6 n 3)) 6 m 2 = if m = n then x 6 n 3 else x 6 m 2 := fun m => by simp [am_u]
  have s63 : ∀ m, (am_u x 6 n 2 (x 6 n 3)) 6 m 3 = x 6 m 3 := fun m => by simp [am_u]
  have sl : ∀ m k, k < (am_u x 6 n 2 (x 6 n 3)) 6 m 2 → k < x 6 m 2 := fun m k hk => by
    rw [s62] at hk
    split at hk
    · rename_i q; subst q; omega
    · exact hk
  have th : ∀ m L, hr (am_u x 6 n 2 (x 6 n 3)) m L → hr x m L := fun m L ⟨k, hk, e⟩ => ⟨k, sl m k hk, e⟩
  refine ⟨v1, v2, v3, v4, v6, v7, ?_, ?_, ?_, ?_, ?_, ?_, ?_⟩
  · intro m hm
    obtain ⟨g1, g2, g3⟩ := v8 m hm
    refine ⟨?_, ?_, fun k hk => g3 k (sl m k hk)⟩
    · have := (v8 n hn).1
      rw [s62]; split <;> omega
    · rw [s62, s63]
      split
      · rename_i q; subst q; exact Nat.le_refl _
      · exact g2
  · intro m hm i j hij hj
    exact v9 m hm i j hij (sl m j hj)
  · intro m t hm ht
    obtain ⟨g1, g2⟩ := v10 m t hm ht
    exact ⟨fun z => ⟨fun w => (g1 z).1 (th _ _ w), fun w => (g1 z).2.1 (th _ _ w), fun w => (g1 z).2.2 (th _ _ w)⟩, fun z => ⟨fun w => (g2 z).1 (th _ _ w), fun w => (g2 z).2 (th _ _ w)⟩⟩
  · intro t ht hte
    obtain ⟨g1, g2⟩ := v11 t ht hte
    exact ⟨fun z => ⟨fun w => (g1 z).1 (th _ _ w), fun w => (g1 z).2.1 (th _ _ w), fun w => (g1 z).2.2 (th _ _ w)⟩, fun z w => g2 z (th _ _ w)⟩
  · intro t ht hst m hm
    obtain ⟨g1, g2, g3⟩ := v12 t ht hst m hm
    exact ⟨fun w => g1 (th _ _ w), g2, fun z => ⟨fun w => (g3 z).1 (th _ _ w), fun w => (g3 z).2.1 (th _ _ w), (g3 z).2.2⟩⟩
  · intro m hm i j t t' hij hj a b c
    exact v13 m hm i j t t' hij (sl m j hj) a b c
  · intro m hm
    obtain ⟨g1, g2⟩ := v14 m hm
    refine ⟨fun hu i t hi e a2 a3 => ?_, g2⟩
    have hu : x 3 m 0 = 1 := hu
    have q : ¬ m = n := fun z => by subst z; omega
    have e62 : (am_u x 6 n 2 (x 6 n 3)) 6 m 2 = x 6 m 2 := by rw [s62, if_neg q]
    refine g1 hu i t (sl m i hi) e (fun w => a2 ?_) (fun w => a3 ?_)
    · obtain ⟨k, hk, ek⟩ := w
      exact ⟨k, by rw [e62]; exact hk, ek⟩
    · obtain ⟨k, hk, ek⟩ := w
      exact ⟨k, by rw [e62]; exact hk, ek⟩
theorem RR_cut {n : Nat} {x y : am_N} (hs : x 6 n 3 ≤ x 6 n 2) (h : RR x y) : RR (am_u x 6 n 2 (x 6 n 3)) (am_u y 31 0 n (x 6 n 3)) := by
  obtain ⟨r1, r2, r3, r4, r5, r6, r7, r8, r9, r10, r11⟩ := h
  refine ⟨r1, r2, r3, r4, r5, ?_, r7, r8, r9, r10, r11⟩
  intro m hm
  obtain ⟨g1, g2, g3⟩ := r6 m hm
  by_cases q : m = n
  · subst q
    refine ⟨by simp [am_u], by simpa [am_u] using g2, fun k hk => ?_⟩
    have hk : k < x 6 m 3 := by simpa [am_u] using hk
    have g := g3 k (by omega)
    simpa [am_u] using g
  · refine ⟨by simpa [am_u, q] using g1, by simpa [am_u, q] using g2, fun k hk => ?_⟩
    have hk : k < x 6 m 2 := by simpa [am_u, q] using hk
    have g := g3 k hk
    simpa [am_u, q] using g
theorem RR_down {n : Nat} {x y : am_N} {v w : Nat} (hv : v + w = 1) (h : RR x y) : RR (am_u x 3 n 0 v) (am_u y 21 0 n w) := by
  obtain ⟨r1, r2, r3, r4, r5, r6, r7, r8, r9, r10, r11⟩ := h
  refine ⟨r1, r2, ?_, r4, r5, r6, r7, r8, r9, r10, r11⟩
  intro m hm
  have g := r3 m hm
  by_cases q : m = n
  · subst q; simpa [am_u] using hv
  · simpa [am_u, q] using g
theorem sC_crash_L {n B : Nat} {x y : am_N} {Q : Int32 → am_M → Prop} {K : am_M → Int32 → Prop} (hn : n < 4) (hB : x 0 0 3 = B) (hB2 : B ≤ 10) (hc : ∀ t, t < 10 → x 9 t 0 < 4) (hK : K (c_C n x B, y) (nI B)) : ∀ (d k : Nat), k + d = B → w_X0_crash_L34 n (nI n) Q K (d + 1) (c_C n x k, y) (nI k) := by
  have e0 : ∀ k, (c_C n x k) 0 0 3 = B := fun k => by rw [c_C_F, c_F_o (by decide), c_L_o (by decide) (by decide)]; exact hB
  have e9 : ∀ k t, (c_C n x k) 9 t 0 = x 9 t 0 := fun k t => by rw [c_C_F, c_F_0, c_L9]
  intro d
  induction d with
  | zero =>
    intro k hk
    have e : k = B := by omega
    subst e
    apply w_X0_crash_L34_i
    refine ⟨fun _ => hK, fun q => absurd ?_ q⟩
    show nI ((c_C n x k) 0 0 3) ≤ nI k
    rw [e0]
    exact nI_le (Nat.le_refl _) (by omega)
  | succ d ih =>
    intro k hk
    have s := ih (k + 1) (by omega)
    apply w_X0_crash_L34_i
    refine ⟨fun q => ?_, fun _ => sC_letGo (by omega) ⟨k, by omega, rfl, fun q => ?_, fun q => ⟨k, by omega, rfl, sC_forget ?_⟩⟩⟩
    · have q : nI ((c_C n x k) 0 0 3) ≤ nI k := q
      rw [e0] at q
      exact absurd q (nI_ge (by omega) (by omega))
    · have q : ¬ nI ((c_C n x k) 9 k 0) = nI n := q
      have hc1 := hc k (by omega)
      have e9k := e9 k k
      rw [pr_eq (by omega) (by omega)] at q
      show w_X0_crash_L34 _ _ _ _ _ (c_letGo (c_C n x k) n k, y) (nI k + nI 1)
      rw [nI_add]
      have es : c_C n x (k + 1) = c_letGo (c_C n x k) n k := by
        conv => lhs; unfold c_C
        rw [if_neg q]
      rw [es] at s
      exact s
    · have q : nI ((c_C n x k) 9 k 0) = nI n := q
      have hc1 := hc k (by omega)
      have e9k := e9 k k
      rw [pr_eq (by omega) (by omega)] at q
      show w_X0_crash_L34 _ _ _ _ _ (c_forget (c_letGo (c_C n x k) n k) k, y) (nI k + nI 1)
      rw [nI_add]
      have es : c_C n x (k + 1) = c_forget (c_letGo (c_C n x k) n k) k := by
        conv => lhs; unfold c_C
        rw [if_pos q]
      rw [es] at s
      exact s
theorem sR_crash_L {n B : Nat} {x y : am_N} {Q : Int32 → am_M → Prop} {K : am_M → Int32 → Prop} (hn : n < 4) (hB : y 20 0 2 = B) (hB2 : B ≤ 10) (hc : ∀ t, t < 10 → y 23 0 t < 4) (hb : ∀ k, k ≤ 10 → ∀ c, c < 32 → (r_C n y k) 30 0 c < 1000) (hK : K (x, r_C n y B) (nI B)) : ∀ (d k : Nat), k + d = B → w_X5_crash_L31 (nI n) Q K (d + 1) (x, r_C n y k) (nI k) := by
  have e0 : ∀ k, (r_C n y k) 20 0 2 = B := fun k => by rw [r_C_o (by omega)]; exact hB
  have e9 : ∀ k t, (r_C n y k) 23 0 t = y 23 0 t := fun k t => by rw [r_C_o (by omega)]
  intro d
  induction d with
  | zero =>
    intro k hk
    have e : k = B := by omega
    subst e
    apply w_X5_crash_L31_i
    refine ⟨fun _ => hK, fun q => absurd ?_ q⟩
    show nI ((r_C n y k) 20 0 2) ≤ nI k
    rw [e0]
    exact nI_le (Nat.le_refl _) (by omega)
  | succ d ih =>
    intro k hk
    have s := ih (k + 1) (by omega)
    apply w_X5_crash_L31_i
    refine ⟨fun q => ?_, fun _ => sR_letGo hn (by omega) (hb k (by omega)) ⟨k, by omega, rfl, fun q => ?_, fun q => sR_forget (by omega) ?_⟩⟩
    · have q : nI ((r_C n y k) 20 0 2) ≤ nI k := q
      rw [e0] at q
      exact absurd q (nI_ge (by omega) (by omega))
    · have q : ¬ nI ((r_C n y k) 23 0 k) = nI n := q
      have hc1 := hc k (by omega)
      have e9k := e9 k k
      rw [pr_eq (by omega) (by omega)] at q
      show w_X5_crash_L31 _ _ _ _ (x, r_letGo (r_C n y k) n k) (nI k + nI 1)
      rw [nI_add]
      have es : r_C n y (k + 1) = r_letGo (r_C n y k) n k := by
        conv => lhs; unfold r_C
        rw [if_neg q]
      rw [es] at s
      exact s
    · have q : nI ((r_C n y k) 23 0 k) = nI n := q
      have hc1 := hc k (by omega)
      have e9k := e9 k k
      rw [pr_eq (by omega) (by omega)] at q
      show w_X5_crash_L31 _ _ _ _ (x, r_forget (r_letGo (r_C n y k) n k) k) (nI k + nI 1)
      rw [nI_add]
      have es : r_C n y (k + 1) = r_forget (r_letGo (r_C n y k) n k) k := by
        conv => lhs; unfold r_C
        rw [if_pos q]
      rw [es] at s
      exact s
theorem sR_cut_L {n S : Nat} {x y : am_N} {Q : Int32 → am_M → Prop} {K : am_M → Int32 → Prop} (hn : n < 4) (hlen : y 31 0 n ≤ 60) (hS : S ≤ y 31 0 n) (hsafe : ∀ k, k < y 31 0 n → y 35 0 (64 * n + k) = if k < S then 1 else 0) (hK : K (x, am_u y 31 0 n S) (nI (y 31 0 n - S))) : ∀ (d j : Nat), S + d + j = y 31 0 n → w_X5_crash_L68 (nI n) Q K (d + 1) (x, am_u y 31 0 n (S + d)) (nI j) := by
  have eu : ∀ v, (am_u y 31 0 n v) 31 0 n = v := fun v => by simp [am_u]
  have ei : ∀ v, 1 ≤ v → nI 64 * nI n + nI v - nI 1 = nI (64 * n + (v - 1)) := fun v hv => by rw [pk_mul, nI_add, pk_sub (by omega)]; congr 1; omega
  intro d
  induction d with
  | zero =>
    intro j hj
    have e : j = y 31 0 n - S := by omega
    subst e
    apply w_X5_crash_L68_i
    refine ⟨n, hn, rfl, fun _ => hK, fun q => ⟨n, hn, rfl, 64 * n + (S - 1), by omega, ?_, fun _ => hK, fun q2 => ?_⟩⟩
    · show nI 64 * nI n + nI ((am_u y 31 0 n (S + 0)) 31 0 n) - nI 1 = _
      rw [eu]
      have : S ≠ 0 := fun z => q (by show nI ((am_u y 31 0 n (S + 0)) 31 0 n) ≤ 0; rw [eu, z]; decide)
      exact ei S (by omega)
    · have hS0 : S ≠ 0 := fun z => q (by show nI ((am_u y 31 0 n (S + 0)) 31 0 n) ≤ 0; rw [eu, z]; decide)
      have q2 : nI (y 35 0 (64 * n + (S - 1))) = 0 := q2
      rw [hsafe (S - 1) (by omega), if_pos (by omega)] at q2
      exact absurd q2 (by decide)
  | succ d ih =>
    intro j hj
    have s := ih (j + 1) (by omega)
    have nz : ¬ nI ((am_u y 31 0 n (S + (d + 1))) 31 0 n) ≤ 0 := by
      rw [eu]
      exact fun z => nI_ge (a := 0) (by omega) (by omega) z
    apply w_X5_crash_L68_i
    refine ⟨n, hn, rfl, fun q => absurd q nz, fun q => ⟨n, hn, rfl, 64 * n + (S + d), by omega, ?_, fun q2 => ?_, fun q2 => ⟨n, hn, rfl, n, S + d, hn, rfl, ?_, ?_⟩⟩⟩
    · show nI 64 * nI n + nI ((am_u y 31 0 n (S + (d + 1))) 31 0 n) - nI 1 = _
      rw [eu, ei _ (by omega)]
      rfl
    · exfalso
      apply q2
      show nI (y 35 0 (64 * n + (S + d))) = 0
      rw [hsafe (S + d) (by omega), if_neg (by omega)]
      rfl
    · show nI ((am_u y 31 0 n (S + (d + 1))) 31 0 n) - nI 1 = _
      rw [eu, pk_sub (by omega)]
      rfl
    · show w_X5_crash_L68 _ _ _ _ (x, am_u (am_u y 31 0 n (S + (d + 1))) 31 0 n (S + d)) (nI j + nI 1)
      rw [am_uu, nI_add]
      exact s
theorem op_crash {x y : am_N} (h : JJ (x, y)) (a : Int32) : w_X0_crash (x, y) a (fun r M1 => w_X5_crash M1 a (fun r2 M2 => r = r2 ∧ JJ M2)) := by
  obtain ⟨v1, v2, v3, v4, v6, v7, v8, v9, v10, v11, v12, v13, v14⟩ := (show VV x from h.1)
  obtain ⟨r1, r2, r3, r4, r5, r6, r7, r8, r9, r10, r11⟩ := (show RR x y from h.2)
  have hB := v1.1
  have e := r1.1
  rcases pr_cs a (B := 4) (by decide) with ha | ⟨n, hn, rfl⟩
  · refine w_X0_crash_i (sC_isNode_f ha (pr_t (by decide) ?_))
    exact w_X5_crash_i (sR_noNode_f ha (br_f (by decide) ⟨rfl, h⟩))
  · have g3 := r3 n hn
    have u3 := v3 n hn
    refine w_X0_crash_i (sC_isNode_t hn (pr_f (by decide) ⟨n, hn, rfl, fun q => ⟨0, rfl, by decide, x 0 0 3 + 1, ?_⟩, fun q => ?_⟩))
    · have up : x 3 n 0 = 1 := by
        have : ¬ x 3 n 0 = 0 := fun z => q (by show nI (x 3 n 0) = 0; rw [z]; rfl)
        omega
      have hV := VV_F (n := n) (VV_L (n := n) (show VV x from h.1)) (x 0 0 3)
      rw [← c_C_F] at hV
      have hR0 := RR_down (n := n) (v := 0) (w := 1) rfl (show RR x y from h.2)
      have hR := RR_C hn hR0 (x 0 0 3) hB
      have hd : (c_C n (am_u x 3 n 0 0) (x 0 0 3)) 3 n 0 = 0 := by
        rw [c_C_F, c_F_o (by decide), c_L_o (by decide) (by decide)]
        simp [am_u]
      have e6 : (c_C n (am_u x 3 n 0 0) (x 0 0 3)) 6 = x 6 := by
        rw [c_C_F, c_F_o (by decide), c_L_o (by decide) (by decide)]
        rfl
      have hs := (v8 n hn).2.1
      have hl := (v8 n hn).1
      obtain ⟨k1, k2, k3⟩ := r6 n hn
      have hJ := JJ_mk (VV_cut hn hd hV) (RR_cut (n := n) (by rw [e6]; exact hs) hR)
      show w_X0_crash_L34 n (nI n) _ _ _ (am_u x 3 n 0 0, y) (nI 0)
      refine sC_crash_L (n := n) (B := x 0 0 3) (x := am_u x 3 n 0 0) hn rfl hB (fun t ht => (v2 t ht).1) ?_ (x 0 0 3) 0 (by omega)
      refine w_X1_dropUnsafe_i ⟨x 6 n 3, ?_, ?_⟩
      · show nI ((c_C n (am_u x 3 n 0 0) (x 0 0 3)) 6 n 3) = _
        rw [e6]
      show w_X5_crash (am_u (c_C n (am_u x 3 n 0 0) (x 0 0 3)) 6 n 2 (x 6 n 3), y) (nI n) (fun r2 M2 => nI ((c_C n (am_u x 3 n 0 0) (x 0 0 3)) 6 n 2) - nI ((c_C n (am_u x 3 n 0 0) (x 0 0 3)) 6 n 3) = r2 ∧ JJ M2)
      rw [e6] at hJ ⊢
      rw [pk_sub hs]
      generalize am_u (c_C n (am_u x 3 n 0 0) (x 0 0 3)) 6 n 2 (x 6 n 3) = X at *
      refine w_X5_crash_i (sR_noNode_t hn (br_t (by decide) ⟨n, hn, rfl, fun _ => ⟨n, 1, hn, rfl, rfl, by decide, y 20 0 2 + 1, ?_⟩, fun z => ?_⟩))
      · show w_X5_crash_L31 (nI n) _ _ _ (X, am_u y 21 0 n 1) (nI 0)
        have o31 : (r_C n (am_u y 21 0 n 1) (y 20 0 2)) 31 0 n = y 31 0 n := by rw [r_C_o (by omega)]; rfl
        have o35 : ∀ c, (r_C n (am_u y 21 0 n 1) (y 20 0 2)) 35 0 c = y 35 0 c := fun c => by rw [r_C_o (by omega)]; rfl
        refine sR_crash_L (n := n) (B := y 20 0 2) (y := am_u y 21 0 n 1) hn rfl (by omega) (fun t ht => by have a1 := (v2 t ht).1; have a2 := (r7 t ht).1; show y 23 0 t < 4; omega) (fun k hk c hc => by have := (RR_C hn hR0 k hk).2.2.2.2.1.2 c hc; omega) ?_ (y 20 0 2) 0 (by omega)
        refine ⟨y 31 0 n - x 6 n 3 + 1, ?_⟩
        have s := sR_cut_L (n := n) (S := x 6 n 3) (x := X) (y := r_C n (am_u y 21 0 n 1) (y 20 0 2)) (Q := fun r2 M2 => nI (x 6 n 2 - x 6 n 3) = r2 ∧ JJ M2) (K := fun M24 z25 => nI (x 6 n 2 - x 6 n 3) = z25 ∧ JJ M24) hn (by rw [o31]; omega) (by rw [o31]; omega) (fun k hk => by rw [o35]; rw [o31] at hk; exact (k3 k (by omega)).2.2.2.1) ⟨by rw [o31, k1], by rw [← e]; exact hJ⟩ (y 31 0 n - x 6 n 3) 0 (by rw [o31]; omega)
        have es : am_u (r_C n (am_u y 21 0 n 1) (y 20 0 2)) 31 0 n (x 6 n 3 + (y 31 0 n - x 6 n 3)) = r_C n (am_u y 21 0 n 1) (y 20 0 2) := by
          have ev : x 6 n 3 + (y 31 0 n - x 6 n 3) = y 31 0 n := by omega
          rw [ev, ← o31]
          exact am_ui
        rw [es] at s
        exact s
      · exfalso
        apply z
        show nI (y 21 0 n) = 0
        rw [show y 21 0 n = 0 by omega]
        rfl
    · have q : nI (x 3 n 0) = 0 := q
      rw [pr_eq0 (by omega)] at q
      refine w_X5_crash_i (sR_noNode_t hn (br_t (by decide) ⟨n, hn, rfl, fun z => ?_, fun z => ⟨rfl, h⟩⟩))
      have z : nI (y 21 0 n) = 0 := z
      rw [pr_eq0 (by omega)] at z
      omega
