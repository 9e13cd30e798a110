/-! lose, begin, commit, withdraw -/
theorem JJ_take {x y : am_N} {k : Nat} (hk : k < x 1 0 1) (h : JJ (x, y)) : JJ (c_take x k, r_take y k) := ⟨VV_take hk (show VV x from h.1), RR_take hk (show RR x y from h.2)⟩
theorem op_lose {x y : am_N} (h : JJ (x, y)) (a : Int32) : w_X0_lose (x, y) a (fun r M1 => w_X5_lose M1 a (fun r2 M2 => r = r2 ∧ JJ M2)) := by
  obtain ⟨v1, -⟩ := (show VV x from h.1)
  obtain ⟨r1, r2, -⟩ := (show RR x y from h.2)
  have hB := v1.2
  have e := r1.2
  rcases pr_cs a (B := x 1 0 1) (by omega) with ha | ⟨k, hk, rfl⟩
  · refine w_X0_lose_i (sC_has_f ha (pr_t (by decide) ?_))
    refine w_X5_lose_i ⟨fun _ => ⟨rfl, h⟩, fun q => ⟨fun q2 => ?_, fun _ => ⟨rfl, h⟩⟩⟩
    exact ha.elim (fun z => absurd z q) (fun z => absurd q2 (pr_ge (show nI (y 20 0 16) ≤ a by rw [← e]; exact z)))
  · have hk40 : k < 40 := by omega
    refine w_X0_lose_i (sC_has_t hk hB (pr_f (by decide) ⟨0, by decide, rfl, k, hk40, rfl, ?_⟩))
    refine sC_take hk hB ?_
    refine w_X5_lose_i ⟨fun q => absurd q (nI_pos (by omega)), fun _ => br_t (nI_lt (show k < y 20 0 16 by omega) (show y 20 0 16 < 2 ^ 31 by omega)) ⟨k, hk40, rfl, ?_⟩⟩
    refine sR_take (by omega) (by omega) ⟨?_, JJ_take hk h⟩
    show nI (x 2 0 k) = nI (y 36 0 k)
    rw [(r2 k hk).1]
theorem hr_lab {x : am_N} {n L : Nat} (v8 : V8 x) (hn : n < 4) (h : hr x n L) : L / 10 < x 0 0 3 := by
  obtain ⟨k, hk, rfl⟩ := h
  exact ((v8 n hn).2.2 k hk).1
theorem JJ_begin {x y : am_N} {n : Nat} (hn : n < 4) (hB : x 0 0 3 < 10) (h : JJ (x, y)) : JJ (am_u (am_u (am_u x 0 0 3 (x 0 0 3 + 1)) 9 (x 0 0 3) 0 n) 9 (x 0 0 3) 1 1, am_u (am_u (am_u y 23 0 (y 20 0 2) n) 24 0 (y 20 0 2) 1) 20 0 2 (y 20 0 2 + 1)) := by
  obtain ⟨v1, v2, v3, v4, v6, v7, v8, v9, v10, v11, v12, v13, v14⟩ := (show VV x from h.1)
  obtain ⟨r1, r2, r3, r4, r5, r6, r7, r8, r9, r10, r11⟩ := (show RR x y from h.2)
  have e := r1.1
  rw [← e]
  obtain ⟨g6, g6n⟩ := v6 (x 0 0 3) hB (Nat.le_refl _)
  refine JJ_mk ⟨⟨?_, v1.2⟩, ?_, v3, v4, ?_, ?_, ?_, v9, v10, ?_, ?_, v13, v14⟩ ⟨⟨?_, r1.2⟩, r2, r3, r4, r5, ?_, ?_, ?_, ?_, ?_, ?_⟩
  · show x 0 0 3 + 1 ≤ 10
    omega
  · intro u hu
    have g := v2 u hu
    by_cases q : u = x 0 0 3
    · subst q; simp [am_u]; exact ⟨hn, g.2.2⟩
    · simpa [am_u, q] using g
  · intro u hu hle
    have hle : x 0 0 3 + 1 ≤ u := hle
    have q : ¬ u = x 0 0 3 := by omega
    have g := v6 u hu (by omega)
    simpa [am_u, q] using g
  · intro k hk
    obtain ⟨g1, g2, g3, g4, g5, g7⟩ := v7 k hk
    have q : ¬ x 2 3 k = x 0 0 3 := by omega
    refine ⟨g1, g2, g3, g4, ?_, fun z => ?_⟩
    · show x 2 3 k < x 0 0 3 + 1
      omega
    · simpa [am_u, q] using g7 z
  · intro m hm
    obtain ⟨g1, g2, g3⟩ := v8 m hm
    refine ⟨g1, g2, fun k hk => ?_⟩
    obtain ⟨a1, a2⟩ := g3 k hk
    refine ⟨?_, a2⟩
    show x 7 m k / 10 < x 0 0 3 + 1
    omega
  · intro u hu hue
    by_cases q : u = x 0 0 3
    · subst q
      refine ⟨fun _ => ?_, fun z => ?_⟩
      · have no : ∀ m L, m < 4 → L / 10 = x 0 0 3 → ¬ hr x m L := fun m L hm hL z => by
          have := hr_lab v8 hm z
          omega
        have s0 : (am_u (am_u (am_u x 0 0 3 (x 0 0 3 + 1)) 9 (x 0 0 3) 0 n) 9 (x 0 0 3) 1 1) 9 (x 0 0 3) 0 = n := by simp [am_u]
        rw [s0]
        exact ⟨no n _ hn (by omega), no n _ hn (by omega), no n _ hn (by omega)⟩
      · have s1 : (am_u (am_u (am_u x 0 0 3 (x 0 0 3 + 1)) 9 (x 0 0 3) 0 n) 9 (x 0 0 3) 1 1) 9 (x 0 0 3) 1 = 1 := by simp [am_u]
        rw [s1] at z
        omega
    · have g := v11 u hu hue
      have s0 : (am_u (am_u (am_u x 0 0 3 (x 0 0 3 + 1)) 9 (x 0 0 3) 0 n) 9 (x 0 0 3) 1 1) 9 u 0 = x 9 u 0 := by simp [am_u, q]
      have s1 : (am_u (am_u (am_u x 0 0 3 (x 0 0 3 + 1)) 9 (x 0 0 3) 0 n) 9 (x 0 0 3) 1 1) 9 u 1 = x 9 u 1 := by simp [am_u, q]
      rw [s0, s1]
      exact g
  · intro u hu hs m hm
    by_cases q : u = x 0 0 3
    · subst q
      have no : ∀ L, L / 10 = x 0 0 3 → ¬ hr x m L := fun L hL z => by
        have := hr_lab v8 hm z
        omega
      have g := g6n m hm
      refine ⟨no _ (by omega), ?_, fun _ => ⟨no _ (by omega), no _ (by omega), g.1⟩⟩
      show x 4 m (x 0 0 3) ≠ 3
      omega
    · have s1 : (am_u (am_u (am_u x 0 0 3 (x 0 0 3 + 1)) 9 (x 0 0 3) 0 n) 9 (x 0 0 3) 1 1) 9 u 1 = x 9 u 1 := by simp [am_u, q]
      have s2 : (am_u (am_u (am_u x 0 0 3 (x 0 0 3 + 1)) 9 (x 0 0 3) 0 n) 9 (x 0 0 3) 1 1) 9 u 2 = x 9 u 2 := by simp [am_u]
      rw [s1] at hs
      rw [s2]
      exact v12 u hu hs m hm
  · rfl
  · intro m hm
    obtain ⟨g1, g2, g3⟩ := r6 m hm
    refine ⟨g1, g2, fun k hk => ?_⟩
    obtain ⟨a1, a2, a3, a4, a5⟩ := g3 k hk
    refine ⟨a1, a2, a3, a4, fun z => ?_⟩
    have ne : ¬ x 7 m k / 10 = x 0 0 3 := by
      have := ((v8 m hm).2.2 k hk).1
      omega
    have b := a5 z
    simpa [am_u, ne] using b
  · intro u hu
    have g := r7 u hu
    by_cases q : u = x 0 0 3
    · subst q; simp [am_u]
    · simpa [am_u, q] using g
  · intro u m hu hm
    simpa [am_u] using r8 u m hu hm
  · intro u m hu hm
    simpa [am_u] using r9 u m hu hm
  · intro u m hu hm
    simpa [am_u] using r10 u m hu hm
  · intro u m hu hm
    simpa [am_u] using r11 u m hu hm
theorem op_begin {x y : am_N} (h : JJ (x, y)) (a : Int32) : w_X0_begin (x, y) a (fun r M1 => w_X5_begin M1 a (fun r2 M2 => r = r2 ∧ JJ M2)) := by
  obtain ⟨v1, v2, v3, -⟩ := (show VV x from h.1)
  obtain ⟨r1, r2, r3, -⟩ := (show RR x y from h.2)
  have hB := v1.1
  have e := r1.1
  rcases pr_cs a (B := 4) (by decide) with ha | ⟨n, hn, rfl⟩
  · refine w_X0_begin_i (sC_isNode_f ha (pr_t (by decide) ?_))
    exact w_X5_begin_i (sR_noNode_f ha (br_f (by decide) ⟨rfl, h⟩))
  · have g := r3 n hn
    refine w_X0_begin_i (sC_isNode_t hn (pr_f (by decide) ⟨n, hn, rfl, fun q => ?_, fun q => ?_⟩))
    · have q : ¬ x 3 n 0 = 0 := fun z => q (by show nI (x 3 n 0) = 0; rw [z]; rfl)
      have up : nI (y 21 0 n) = 0 := (pr_eq0 (by omega)).mpr (by omega)
      refine ⟨fun q2 => ?_, fun q2 => ?_⟩
      · have q2 : x 0 0 3 < 10 := (nI_ltI (by omega) (by omega)).mp q2
        refine ⟨x 0 0 3 + 1, nI_add _ _, x 0 0 3, q2, rfl, n, rfl, x 0 0 3, q2, rfl, 1, rfl, ?_⟩
        refine w_X5_begin_i (sR_noNode_t hn (br_t (by decide) ⟨n, hn, rfl, br_t up (pr_f (fun z => ?_) ⟨y 20 0 2, n, by omega, rfl, rfl, y 20 0 2, 1, by omega, rfl, rfl, y 20 0 2 + 1, nI_add _ _, ?_, JJ_begin hn q2 h⟩)⟩))
        · have := (pr_eq (show y 20 0 2 < 1000 by omega) (show 10 < 1000 by omega)).mp z
          omega
        · show nI (x 0 0 3) = nI (y 20 0 2 + 1) - nI 1
          rw [pk_sub (by omega), e]
          rfl
      · have q2 : ¬ x 0 0 3 < 10 := fun z => q2 (nI_lt z (by decide))
        refine w_X5_begin_i (sR_noNode_t hn (br_t (by decide) ⟨n, hn, rfl, br_t up (pr_t ?_ ⟨rfl, h⟩)⟩))
        show nI (y 20 0 2) = nI 10
        rw [show y 20 0 2 = 10 by omega]
    · have q : x 3 n 0 = 0 := (pr_eq0 (by have := v3 n hn; omega)).mp q
      refine w_X5_begin_i (sR_noNode_t hn (br_t (by decide) ⟨n, hn, rfl, br_f (fun z => ?_) ⟨rfl, h⟩⟩))
      have := (pr_eq0 (show y 21 0 n < 1000 by omega)).mp z
      omega
/-! giving up -/
def c_tl (m rd sp n : Nat) : Bool := m.testBit n && (!rd.testBit n && !sp.testBit n)
set_option maxRecDepth 100000 in
theorem pr_told : ∀ m, m < 16 → ∀ rd, rd < 16 → ∀ sp, sp < 16 → ((nI m &&& (nI rd ^^^ (-1))) &&& (nI sp ^^^ (-1))) = nI (r_bm (c_tl m rd sp) 4) := by decide +kernel
set_option maxRecDepth 100000 in
theorem pr_bc : ∀ m, m < 16 → w_J6_bitCount ((fun _ _ _ => 0), (fun _ _ _ => 0)) (nI m) (fun r _ => r = nI (r_ct m.testBit 4)) := by
  intro m hm
  have h : ∀ m, m < 16 → ((let y1 : Int32 := nI m - ((((nI m).toUInt32 >>> ((nI 1).toUInt32 &&& Int32.toUInt32 31)).toInt32) &&& (1431655765 : Int32)); let y2 : Int32 := (y1 &&& (858993459 : Int32)) + (((y1.toUInt32 >>> ((nI 2).toUInt32 &&& Int32.toUInt32 31)).toInt32) &&& (858993459 : Int32)); let y3 : Int32 := (y2 + (y2.toUInt32 >>> ((nI 4).toUInt32 &&& Int32.toUInt32 31)).toInt32) &&& (252645135 : Int32); let y4 : Int32 := y3 + (y3.toUInt32 >>> ((nI 8).toUInt32 &&& Int32.toUInt32 31)).toInt32; let y5 : Int32 := y4 + (y4.toUInt32 >>> ((nI 16).toUInt32 &&& Int32.toUInt32 31)).toInt32; y5 &&& nI 63) = nI (r_ct m.testBit 4)) := by decide +kernel
  exact h m hm
theorem sJ_bc {M : am_M} {m : Nat} {Q : Int32 → am_M → Prop} (hm : m < 16) (h : Q (nI (r_ct m.testBit 4)) M) : w_J6_bitCount M (nI m) Q := by
  have e := pr_bc m hm
  apply w_J6_bitCount_i
  have e2 := w_J6_bitCount_s e
  simp only [am_let] at e2 ⊢
  rw [e2]
  exact h
theorem sC_giveUp {x y : am_N} {t sp : Nat} {Q : Int32 → am_M → Prop} (ht : t < 10) (hc : x 9 t 0 < 4) (hm : x 9 t 2 < 16) (hrd : x 9 t 4 < 16) (hsp : sp < 16) (hl : x 6 (x 9 t 0) 2 ≤ 60) (hcnt : x 1 0 1 ≤ 40) (h : Q (nI (r_ct (r_bm (c_tl (x 9 t 2) (x 9 t 4) sp) 4).testBit 4)) (c_forget (c_each (c_write x (x 9 t 0) t 5 0) 6 (x 9 t 0) t (r_bm (c_tl (x 9 t 2) (x 9 t 4) sp) 4).testBit) t, y)) : w_X0_giveUp (x, y) (nI t) (nI sp) Q := by
  apply w_X0_giveUp_i
  have hT : r_bm (c_tl (x 9 t 2) (x 9 t 4) sp) 4 < 16 := r_bm_lt _ 4
  refine ⟨t, ht, rfl, ?_⟩
  show am_ix (nI (x 9 t 0)) 4 (fun k3 => w_X1_write (x, y) k3 (nI t) (nI 5) (nI 0) (fun M4 => w_X2_sendToEach M4 (nI 6) (nI (M4.1 9 t 0)) ((nI (x 9 t 2) &&& (nI (x 9 t 4) ^^^ (-1))) &&& (nI sp ^^^ (-1))) (nI t) (fun M5 => w_X4_forget M5 t (fun M6 => w_J6_bitCount M6 ((nI (x 9 t 2) &&& (nI (x 9 t 4) ^^^ (-1))) &&& (nI sp ^^^ (-1))) (fun y8 M7 => Q y8 M7)))))
  rw [pr_told _ hm _ hrd _ hsp]
  refine ⟨x 9 t 0, hc, rfl, ?_⟩
  refine sC_write hl ?_
  have o9 : (c_write x (x 9 t 0) t 5 0) 9 t 0 = x 9 t 0 := by rw [c_write_o (by omega)]
  have o1 : (c_write x (x 9 t 0) t 5 0) 1 0 1 = x 1 0 1 := by rw [c_write_o (by omega)]
  show w_X2_sendToEach (c_write x (x 9 t 0) t 5 0, y) (nI 6) (nI ((c_write x (x 9 t 0) t 5 0) 9 t 0)) _ _ _
  rw [o9]
  refine sC_each hT (by rw [o1]; exact hcnt) ?_
  refine sC_forget ?_
  exact sJ_bc hT h
theorem r_ct_c {p q : Nat → Bool} (h : ∀ n, n < 4 → p n = q n) : r_ct p 4 = r_ct q 4 := by
  simp [r_ct, h 0 (by decide), h 1 (by decide), h 2 (by decide), h 3 (by decide)]
theorem RR_told {x y : am_N} {t sp n : Nat} {bt : Int32} (h8 : R8 2 25 x y) (h10 : R8 4 27 x y) (ht : t < 10) (hn : n < 4) (hbt : sp.testBit n = true ↔ nI n = bt) : (r_bm (c_tl (x 9 t 2) (x 9 t 4) sp) 4).testBit n = r_pp y t bt n := by
  rw [r_bm_bit]
  have a := h8 t n ht hn
  have b := h10 t n ht hn
  unfold c_tl r_pp
  rw [a.1, b.1]
  have c : sp.testBit n = decide (nI n = bt) := by
    by_cases q : nI n = bt
    · simp [q, hbt.mpr q]
    · have : ¬ sp.testBit n = true := fun z => q (hbt.mp z)
      simp [q]
      simpa using this
  rw [c]
  by_cases q1 : y 25 0 (4 * t + n) = 0 <;> by_cases q2 : y 27 0 (4 * t + n) = 0 <;> by_cases q3 : nI n = bt <;> simp [hn, q1, q2, q3]
theorem JJ_give {x y : am_N} {t sp : Nat} {bt : Int32} (ht : t < x 0 0 3) (hst : x 9 t 1 = 1 ∨ x 9 t 1 = 2) (hbt : ∀ n, n < 4 → (sp.testBit n = true ↔ nI n = bt)) (h : JJ (x, y)) : r_ct (r_bm (c_tl (x 9 t 2) (x 9 t 4) sp) 4).testBit 4 = r_ct (r_pp y t bt) 4 ∧ JJ (c_forget (c_each (c_write x (x 9 t 0) t 5 0) 6 (x 9 t 0) t (r_bm (c_tl (x 9 t 2) (x 9 t 4) sp) 4).testBit) t, r_forget (r_each (r_write y (y 23 0 t) t 5 0) 6 (y 23 0 t) t (r_pp y t bt)) t) := by
  have hV : VV x := h.1
  have hR : RR x y := h.2
  obtain ⟨v1, v2, v3, v4, v6, v7, v8, v9, v10, v11, v12, v13, v14⟩ := hV
  obtain ⟨r1, r2, r3, r4, r5, r6, r7, r8, r9, r10, r11⟩ := hR
  have hB := v1.1
  have ht10 : t < 10 := by omega
  have hc := (v2 t ht10).1
  have hp : ∀ n, n < 4 → (r_bm (c_tl (x 9 t 2) (x 9 t 4) sp) 4).testBit n = r_pp y t bt n := fun n hn => RR_told r8 r10 ht10 hn (hbt n hn)
  refine ⟨r_ct_c hp, ?_⟩
  have hno := ((v11 t ht10 (by omega)).1 hst).2.1
  obtain ⟨hl, hw⟩ := VV_wr46 (kd := 5) (w := 0) hc ht (by omega) (by omega) hno (Or.inr rfl) h.1
  have o0 : (c_write x (x 9 t 0) t 5 0) 0 = x 0 := c_write_o (by omega)
  refine ⟨VV_forget (Or.inl rfl) (VV_each (by omega) hc (by rw [o0]; exact ht) (by omega) hw), ?_⟩
  rw [← (r7 t ht10).1]
  exact RR_forget ht10 (RR_each hp (RR_write hc hl (fun m hm => (v8 m hm).1) (v8 _ hc).2.1 (by decide) h.2))
theorem op_withdraw {x y : am_N} (h : JJ (x, y)) (a : Int32) : w_X0_withdraw (x, y) a (fun r M1 => w_X5_withdraw M1 a (fun r2 M2 => r = r2 ∧ JJ M2)) := by
  obtain ⟨v1, v2, v3, v4, v6, v7, v8, -⟩ := (show VV x from h.1)
  obtain ⟨r1, r2, r3, r4, r5, r6, r7, r8, r9, r10, r11⟩ := (show RR x y from h.2)
  have hB := v1.1
  have e := r1.1
  rcases pr_cs a (B := x 0 0 3) (by omega) with ha | ⟨t, ht, rfl⟩
  · refine w_X0_withdraw_i (sC_isTx_f ha (pr_t (by decide) ?_))
    exact w_X5_withdraw_i (sR_noWork_f (show a < 0 ∨ nI (y 20 0 2) ≤ a by rw [← e]; exact ha) (br_f (by decide) ⟨rfl, h⟩))
  · have ht10 : t < 10 := by omega
    have f1 : t < y 20 0 2 := by omega
    have f2 : y 20 0 2 ≤ 10 := by omega
    obtain ⟨w1, w2, w3, w4, w5, w6⟩ := v2 t ht10
    obtain ⟨c1, c2⟩ := r7 t ht10
    have g := r3 _ w1
    have u3 := v3 _ w1
    have es : ∀ k, k < 4 → (nI (y 24 0 t) = nI k ↔ x 9 t 1 = k) := fun k hk => by rw [← c2]; exact pr_eq (by omega) (by omega)
    refine w_X0_withdraw_i (sC_isTx_t ht hB (pr_f (by decide) ⟨t, ht10, rfl, x 9 t 0, w1, rfl, fun q => ?_, fun q => ?_⟩))
    · have q : ¬ x 3 (x 9 t 0) 0 = 0 := fun z => q (by show nI (x 3 (x 9 t 0) 0) = 0; rw [z]; rfl)
      have up : nI (y 21 0 (x 9 t 0)) = 0 := (pr_eq0 (by omega)).mpr (by omega)
      have go : (x 9 t 1 = 1 ∨ x 9 t 1 = 2) → w_X0_giveUp (x, y) (nI t) (nI 0) (fun r M1 => w_X5_withdraw M1 (nI t) (fun r2 M2 => r = r2 ∧ JJ M2)) := by
        intro hst
        obtain ⟨j1, j2⟩ := JJ_give (sp := 0) (bt := -1) ht hst (fun n hn => by
          have h4 : n = 0 ∨ n = 1 ∨ n = 2 ∨ n = 3 := by omega
          rcases h4 with rfl | rfl | rfl | rfl <;> decide) h
        refine sC_giveUp ht10 w1 w3 w5 (by decide) (v8 _ w1).1 v1.2 ?_
        have ref : w_X5_pullBack (c_forget (c_each (c_write x (x 9 t 0) t 5 0) 6 (x 9 t 0) t (r_bm (c_tl (x 9 t 2) (x 9 t 4) 0) 4).testBit) t, y) (nI t) (-1) (fun r2 M2 => nI (r_ct (r_bm (c_tl (x 9 t 2) (x 9 t 4) 0) 4).testBit 4) = r2 ∧ JJ M2) := by
          refine sR_pull ht10 (by omega) (by have a := (v8 _ w1).1; have b := (r6 _ w1).1; rw [← c1]; omega) (by have := v1.2; have := r1.2; omega) (fun n hn => by have := (r8 t n ht10 hn).2; omega) (fun n hn => by have := (r10 t n ht10 hn).2; omega) ⟨?_, j2⟩
          rw [j1]
        refine w_X5_withdraw_i (sR_noWork_t f1 f2 (br_t (by decide) ⟨t, ht10, rfl, x 9 t 0, w1, by show nI (y 23 0 t) = _; rw [c1], br_t up ⟨t, ht10, rfl, fun _ => ref, fun z => ⟨t, ht10, rfl, fun z2 => ?_, fun _ => ref⟩⟩⟩))
        rcases hst with hst | hst
        · exact absurd ((es 1 (by decide)).mpr hst) z
        · exact absurd ((es 2 (by decide)).mpr hst) z2
      have p1 : nI (x 9 t 1) = nI 1 ↔ x 9 t 1 = 1 := pr_eq (by omega) (by omega)
      have p2 : nI (x 9 t 1) = nI 2 ↔ x 9 t 1 = 2 := pr_eq (by omega) (by omega)
      refine ⟨fun z => go (Or.inl (p1.mp z)), fun z => ⟨fun z2 => go (Or.inr (p2.mp z2)), fun z2 => ?_⟩⟩
      refine w_X5_withdraw_i (sR_noWork_t f1 f2 (br_t (by decide) ⟨t, ht10, rfl, x 9 t 0, w1, by show nI (y 23 0 t) = _; rw [c1], br_t up ⟨t, ht10, rfl, br_f (fun z3 => z (p1.mpr ((es 1 (by decide)).mp z3))) ⟨t, ht10, rfl, pr_f (fun z3 => z2 (p2.mpr ((es 2 (by decide)).mp z3))) ⟨rfl, h⟩⟩⟩⟩))
    · have q : x 3 (x 9 t 0) 0 = 0 := (pr_eq0 (by omega)).mp q
      have dn : ¬ nI (y 21 0 (x 9 t 0)) = 0 := fun z => by
        have := (pr_eq0 (show y 21 0 (x 9 t 0) < 1000 by omega)).mp z
        omega
      exact w_X5_withdraw_i (sR_noWork_t f1 f2 (br_t (by decide) ⟨t, ht10, rfl, x 9 t 0, w1, by show nI (y 23 0 t) = _; rw [c1], br_f dn ⟨rfl, h⟩⟩))
