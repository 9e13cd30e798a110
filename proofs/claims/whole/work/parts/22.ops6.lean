/-- due is yes, of the nodes below i -/
def r_dy (y : am_N) (t i : Nat) : am_N := fun a b c => if a = 28 ∧ b = 0 ∧ 4 * t ≤ c ∧ c < 4 * t + i then y 26 0 c else y a b c
theorem r_dy_s {y : am_N} {t i : Nat} : am_u (r_dy y t i) 28 0 (4 * t + i) (y 26 0 (4 * t + i)) = r_dy y t (i + 1) := by
  funext a b c
  unfold am_u r_dy
  by_cases h : a = 28 ∧ b = 0 ∧ c = 4 * t + i
  · obtain ⟨rfl, rfl, rfl⟩ := h
    rw [if_pos ⟨rfl, rfl, rfl⟩, if_pos ⟨rfl, rfl, by omega, by omega⟩]
  · rw [if_neg h]
    by_cases h2 : a = 28 ∧ b = 0 ∧ 4 * t ≤ c ∧ c < 4 * t + i
    · rw [if_pos h2, if_pos (by omega)]
    · rw [if_neg h2, if_neg (by omega)]
theorem r_dy_0 {y : am_N} {t : Nat} : r_dy y t 0 = y := by
  funext a b c
  unfold r_dy
  exact if_neg (by omega)
theorem sR_dy_s {x y : am_N} {t i f : Nat} {z : Int32} {Q : am_M → Prop} {K : am_M → Int32 → Prop} (ht : t < 10) (hi : i < 4) (hb : y 26 0 (4 * t + i) < 2) (h : w_X5_decide_L42 z (nI t) Q K f (x, r_dy y t (i + 1)) (nI (i + 1))) : w_X5_decide_L42 z (nI t) Q K (f + 1) (x, r_dy y t i) (nI i) := by
  have e : nI 4 * nI t + nI i = nI (4 * t + i) := by rw [pk_mul, nI_add]
  apply w_X5_decide_L42_i
  refine ⟨fun q => absurd q (nI_ge (by omega) (by omega)), fun _ => ⟨4 * t + i, by omega, e, 4 * t + i, y 26 0 (4 * t + i), by omega, e, rfl, hb, ?_⟩⟩
  show w_X5_decide_L42 _ _ _ _ _ (x, am_u (r_dy y t i) 28 0 (4 * t + i) (y 26 0 (4 * t + i))) (nI i + nI 1)
  rw [r_dy_s, nI_add]
  exact h
theorem sR_dy {x y : am_N} {t : Nat} {z : Int32} {Q : am_M → Prop} {K : am_M → Int32 → Prop} (ht : t < 10) (hb : ∀ n, n < 4 → y 26 0 (4 * t + n) < 2) (h : K (x, r_dy y t 4) (nI 4)) : w_X5_decide_L42 z (nI t) Q K 5 (x, y) (nI 0) := by
  have e0 := r_dy_0 (y := y) (t := t)
  have g : w_X5_decide_L42 z (nI t) Q K 5 (x, r_dy y t 0) (nI 0) := by
    refine sR_dy_s (i := 0) ht (by decide) (hb 0 (by decide)) ?_
    refine sR_dy_s (i := 1) ht (by decide) (hb 1 (by decide)) ?_
    refine sR_dy_s (i := 2) ht (by decide) (hb 2 (by decide)) ?_
    refine sR_dy_s (i := 3) ht (by decide) (hb 3 (by decide)) ?_
    apply w_X5_decide_L42_i
    exact ⟨fun _ => h, fun q => absurd (by decide) q⟩
  rw [e0] at g
  exact g
theorem RR_dy {x y : am_N} {t : Nat} (h : RR x y) : RR (am_u x 9 t 5 (x 9 t 3)) (r_dy y t 4) := by
  obtain ⟨r1, r2, r3, r4, r5, r6, r7, r8, r9, r10, r11⟩ := h
  refine ⟨r1, r2, r3, r4, r5, r6, ?_, ?_, ?_, ?_, ?_⟩
  · intro u hu
    simpa [am_u, r_dy] using r7 u hu
  · intro u n hu hn
    simpa [am_u, r_dy] using r8 u n hu hn
  · intro u n hu hn
    simpa [am_u, r_dy] using r9 u n hu hn
  · intro u n hu hn
    simpa [am_u, r_dy] using r10 u n hu hn
  · intro u n hu hn
    by_cases q : u = t
    · subst q
      have g := r9 u n hu hn
      simp [am_u, r_dy, hn]
      simpa using g
    · have g := r11 u n hu hn
      have ne : ¬ (4 * t ≤ 4 * u + n ∧ 4 * u + n < 4 * t + 4) := by omega
      simpa [am_u, r_dy, q, ne] using g
theorem hr_fc {x : am_N} {n v m L : Nat} : hr (am_u (am_u x 6 n 3 (x 6 n 2)) 6 n 4 v) m L ↔ hr x m L := by
  have o6 : (am_u (am_u x 6 n 3 (x 6 n 2)) 6 n 4 v) 6 m 2 = x 6 m 2 := by simp [am_u]
  unfold hr
  rw [o6]
  exact Iff.rfl
theorem VV_stage3 {x : am_N} {t : Nat} (hno : ¬ hr x (x 9 t 0) (10 * t + 6)) (h : VW t x) : VV (am_u x 9 t 1 3) := by
  obtain ⟨v1, v2, v3, v4, v6, v7, v8, v9, v10, v11, v12, v13, v14⟩ := h
  refine ⟨v1, ?_, v3, v4, ?_, ?_, v8, v9, v10, ?_, ?_, v13, v14⟩
  · intro u hu
    have g := v2 u hu
    by_cases q : u = t
    · subst q; simp [am_u]; exact ⟨g.1, g.2.2⟩
    · simpa [am_u, q] using g
  · intro u hu hB
    simpa [am_u] using v6 u hu hB
  · intro k hk
    obtain ⟨g1, g2, g3, g4, g5, g6⟩ := v7 k hk
    refine ⟨g1, g2, g3, g4, g5, fun z => ?_⟩
    by_cases q : x 2 3 k = t
    · simp [am_u, q]
    · simpa [am_u, q] using g6 z
  · intro u hu hue
    have s0 : (am_u x 9 t 1 3) 9 u 0 = x 9 u 0 := by simp [am_u]
    rw [s0]
    by_cases q : u = t
    · subst q
      have s1 : (am_u x 9 u 1 3) 9 u 1 = 3 := by simp [am_u]
      rw [s1]
      exact ⟨fun z => by omega, fun _ => hno⟩
    · have s1 : (am_u x 9 t 1 3) 9 u 1 = x 9 u 1 := by simp [am_u, q]
      rw [s1]
      exact v11 u hu q
  · intro u hu hs2 m hm
    by_cases q : u = t
    · subst q
      have s1 : (am_u x 9 u 1 3) 9 u 1 = 3 := by simp [am_u]
      omega
    · have s1 : (am_u x 9 t 1 3) 9 u 1 = x 9 u 1 := by simp [am_u, q]
      have s2 : (am_u x 9 t 1 3) 9 u 2 = x 9 u 2 := by simp [am_u]
      rw [s1] at hs2
      rw [s2]
      exact v12 u hu hs2 m hm
set_option maxRecDepth 100000 in
theorem pr_all : ∀ m, m < 16 → ∀ ye, ye < 16 → ∀ rd, rd < 16 → ((nI m &&& ((nI ye ||| nI rd) ^^^ (-1)) = 0) ↔ ((nI m &&& (nI ye ^^^ (-1))) &&& (nI rd ^^^ (-1)) = 0)) := by decide +kernel
theorem sim_dec {x y : am_N} {t : Nat} (ht : t < x 0 0 3) (hs : x 9 t 1 = 2) (h : JJ (x, y)) :
    ∃ X Y : am_N, (∀ (yy : am_N) (z1 z2 : Int32) (Q : am_M → Prop), Q (X, yy) → w_X0_hearVote_J82 t (x, yy) z1 z2 (nI t) Q) ∧ (∀ (xx : am_N) (Q : am_M → Prop), Q (xx, Y) → w_X5_decide (xx, y) (nI t) (fun M5 => Q M5)) ∧ JJ (X, Y) := by
  obtain ⟨v1, v2, v3, v4, v6, v7, v8, v9, v10, v11, v12, v13, v14⟩ := (show VV x from h.1)
  obtain ⟨r1, r2, r3, r4, r5, r6, r7, r8, r9, r10, r11⟩ := (show RR x y from h.2)
  have hB := v1.1
  have ht10 : t < 10 := by omega
  obtain ⟨w1, w2, w3, w4, w5, w6⟩ := v2 t ht10
  obtain ⟨c1, c2⟩ := r7 t ht10
  have m0 : r_bm (r_pd y 25 t) 4 = x 9 t 2 := (RR_mask r8 ht10 w3).symm
  have m1 : r_bm (r_pd y 26 t) 4 = x 9 t 3 := (RR_mask r9 ht10 w4).symm
  have m2 : r_bm (r_pd y 27 t) 4 = x 9 t 4 := (RR_mask r10 ht10 w5).symm
  have b25 : ∀ n, n < 4 → y 25 0 (4 * t + n) < 1000 := fun n hn => by have := (r8 t n ht10 hn).2; omega
  have b26 : ∀ n, n < 4 → y 26 0 (4 * t + n) < 1000 := fun n hn => by have := (r9 t n ht10 hn).2; omega
  have b27 : ∀ n, n < 4 → y 27 0 (4 * t + n) < 1000 := fun n hn => by have := (r10 t n ht10 hn).2; omega
  have key := pr_all _ w3 _ w4 _ w5
  have p3 : nI (x 9 t 3) = 0 ↔ x 9 t 3 = 0 := pr_eq0 (by omega)
  -- the reference up to its three ends
  have ref : ∀ (xx : am_N) (Q : am_M → Prop), ((((nI (x 9 t 2) &&& (nI (x 9 t 3) ^^^ (-1))) &&& (nI (x 9 t 4) ^^^ (-1))) = 0 → ((¬ nI (x 9 t 3) = 0 → ∃ f42 : Nat, w_X5_decide_L42 (nI (x 9 t 3)) (nI t) Q (fun M14 _ => am_ix (nI t) 10 (fun k16 => w_X5_force M14 (nI (M14.2 23 0 k16)) (nI t) (nI 4) (nI (x 9 t 3)) (fun M17 => am_sa (am_c2 M17 24 0) 10 (nI t) (nI 3) (fun M18 => w_X5_sendDue M18 (nI t) (fun M19 => Q M19))))) f42 (xx, y) (nI 0)) ∧ (nI (x 9 t 3) = 0 → w_X5_forget (xx, y) (nI t) (fun M20 => Q M20)))) ∧ (¬ ((nI (x 9 t 2) &&& (nI (x 9 t 3) ^^^ (-1))) &&& (nI (x 9 t 4) ^^^ (-1))) = 0 → Q (xx, y))) → w_X5_decide (xx, y) (nI t) Q := by
    intro xx Q hQ
    apply w_X5_decide_i
    refine sR_bits (a := 26) ht10 (by decide) rfl b26 ?_
    refine sR_bits (a := 25) ht10 (by decide) rfl b25 ?_
    refine sR_bits (a := 27) ht10 (by decide) rfl b27 ?_
    rw [m0, m1, m2]
    exact hQ
  by_cases ha : ((nI (x 9 t 2) &&& (nI (x 9 t 3) ^^^ (-1))) &&& (nI (x 9 t 4) ^^^ (-1))) = 0
  · by_cases hy : x 9 t 3 = 0
    · refine ⟨c_forget x t, r_forget y t, fun yy z1 z2 Q hQ => ?_, fun xx Q hQ => ?_, JJ_mk (VV_forget (Or.inr rfl) h.1) (RR_forget ht10 h.2)⟩
      · exact w_X0_hearVote_J82_i (w_X4_hasAllVotes_i (pr_t (key.mpr ha) (br_f (by decide) (w_X0_decide_i ⟨t, ht10, rfl, pr_t (p3.mpr hy) (sC_forget hQ)⟩))))
      · exact ref xx _ (br_t ha (pr_t (p3.mpr hy) (sR_forget ht10 hQ)))
    · -- decided
      have nhr := (v11 t ht10 (by omega)).1 (Or.inr hs)
      have hv1 : VV (am_u x 9 t 5 (x 9 t 3)) := VV_tx (by omega) w4 h.1
      have hr1 : RR (am_u x 9 t 5 (x 9 t 3)) (r_dy y t 4) := RR_dy h.2
      have s0 : (am_u x 9 t 5 (x 9 t 3)) 9 t 0 = x 9 t 0 := by simp [am_u]
      have s5 : (am_u x 9 t 5 (x 9 t 3)) 9 t 5 = x 9 t 3 := by simp [am_u]
      obtain ⟨hl, hw⟩ := VV_wr46 (x := am_u x 9 t 5 (x 9 t 3)) (kd := 4) (w := x 9 t 3) w1 ht (by omega) (fun _ => w4) nhr.1 (Or.inr rfl) hv1
      have hl0 : x 6 (x 9 t 0) 2 < 60 := hl
      -- the memories behind the force
      have hf : VW t (c_force (am_u x 9 t 5 (x 9 t 3)) (x 9 t 0) t 4 (x 9 t 3)) := by
        unfold c_force
        exact VV_fc hw
      have hfr : RR (c_force (am_u x 9 t 5 (x 9 t 3)) (x 9 t 0) t 4 (x 9 t 3)) (r_force (r_dy y t 4) (x 9 t 0) t 4 (x 9 t 3)) := RR_force w1 hl (fun m hm => (v8 m hm).1) (v8 _ w1).2.1 (by decide) hr1 (fun _ => (r7 t (by omega)).1.symm)
      have f9 : (c_force (am_u x 9 t 5 (x 9 t 3)) (x 9 t 0) t 4 (x 9 t 3)) 9 = (am_u x 9 t 5 (x 9 t 3)) 9 := by
        unfold c_force
        show (c_write (am_u x 9 t 5 (x 9 t 3)) (x 9 t 0) t 4 (x 9 t 3)) 9 = _
        exact c_write_o (by omega)
      have f0 : (c_force (am_u x 9 t 5 (x 9 t 3)) (x 9 t 0) t 4 (x 9 t 3)) 0 0 3 = x 0 0 3 := by
        unfold c_force
        show (c_write (am_u x 9 t 5 (x 9 t 3)) (x 9 t 0) t 4 (x 9 t 3)) 0 0 3 = _
        rw [c_w03]
        rfl
      have f1 : (c_force (am_u x 9 t 5 (x 9 t 3)) (x 9 t 0) t 4 (x 9 t 3)) 1 0 1 = x 1 0 1 := by
        unfold c_force
        show (c_write (am_u x 9 t 5 (x 9 t 3)) (x 9 t 0) t 4 (x 9 t 3)) 1 0 1 = _
        rw [c_write_o (by omega)]
        rfl
      have n6 : ¬ hr (c_force (am_u x 9 t 5 (x 9 t 3)) (x 9 t 0) t 4 (x 9 t 3)) (x 9 t 0) (10 * t + 6) := by
        unfold c_force
        rw [hr_fc, hr_write hl]
        rintro (z | ⟨-, z⟩)
        · exact nhr.2.2 z
        · omega
      generalize hF : c_force (am_u x 9 t 5 (x 9 t 3)) (x 9 t 0) t 4 (x 9 t 3) = F at hf hfr f9 f0 f1 n6
      have g0 : F 9 t 0 = x 9 t 0 := by rw [f9]; exact s0
      have g5 : F 9 t 5 = x 9 t 3 := by rw [f9]; exact s5
      have hv3 : VV (am_u F 9 t 1 3) := VV_stage3 (by rw [g0]; exact n6) hf
      have hr3 : RR (am_u F 9 t 1 3) (am_u (r_force (r_dy y t 4) (x 9 t 0) t 4 (x 9 t 3)) 24 0 t 3) := RR_stage hfr
      generalize hG : am_u (r_force (r_dy y t 4) (x 9 t 0) t 4 (x 9 t 3)) 24 0 t 3 = G at hr3
      have k0 : (am_u F 9 t 1 3) 9 t 0 = x 9 t 0 := by rw [← g0]; simp [am_u]
      have k5 : (am_u F 9 t 1 3) 9 t 5 = x 9 t 3 := by rw [← g5]; simp [am_u]
      have G23 : G 23 0 t = x 9 t 0 := by rw [← (hr3.2.2.2.2.2.2.1 t ht10).1]; exact k0
      have G28 : ∀ n, n < 4 → (x 9 t 3).testBit n = r_pd G 28 t n ∧ G 28 0 (4 * t + n) < 2 := fun n hn => by
        have g := hr3.2.2.2.2.2.2.2.2.2.2 t n ht10 hn
        rw [k5] at g
        exact g
      have Gc : G 20 0 16 ≤ 40 := by
        have a := hr3.1.2
        have b : (am_u F 9 t 1 3) 1 0 1 = x 1 0 1 := f1
        have c := v1.2
        omega
      refine ⟨c_each (am_u F 9 t 1 3) 5 (x 9 t 0) t (x 9 t 3).testBit, r_each G 5 (x 9 t 0) t (r_pd G 28 t), fun yy z1 z2 Q hQ => ?_, fun xx Q hQ => ?_, JJ_mk (VV_each (by omega) w1 (by show t < F 0 0 3; rw [f0]; exact ht) (by omega) hv3) (RR_each (fun n hn => (G28 n hn).1) hr3)⟩
      · refine w_X0_hearVote_J82_i (w_X4_hasAllVotes_i (pr_t (key.mpr ha) (br_f (by decide) (w_X0_decide_i ⟨t, ht10, rfl, pr_f (fun z => hy (p3.mp z)) ⟨x 9 t 3, rfl, x 9 t 0, w1, by show nI ((am_u x 9 t 5 (x 9 t 3)) 9 t 0) = _; rw [s0], ?_⟩⟩))))
        show w_X1_force (am_u x 9 t 5 (x 9 t 3), yy) (x 9 t 0) (nI t) (nI 4) (nI ((am_u x 9 t 5 (x 9 t 3)) 9 t 5)) _
        rw [s5]
        refine sC_force (Nat.le_of_lt hl) ?_
        rw [hF]
        refine ⟨3, rfl, ?_⟩
        show w_X2_sendToEach (am_u F 9 t 1 3, yy) (nI 5) (nI ((am_u F 9 t 1 3) 9 t 0)) (nI ((am_u F 9 t 1 3) 9 t 5)) (nI t) _
        rw [k0, k5]
        exact sC_each w4 (by show F 1 0 1 ≤ 40; rw [f1]; exact v1.2) hQ
      · refine ref xx _ (br_t ha (pr_f (fun z => hy (p3.mp z)) ⟨5, sR_dy ht10 (fun n hn => (r9 t n ht10 hn).2) ⟨t, ht10, rfl, ?_⟩⟩))
        have d23 : (r_dy y t 4) 23 0 t = x 9 t 0 := c1.symm
        show w_X5_force (xx, r_dy y t 4) (nI ((r_dy y t 4) 23 0 t)) (nI t) (nI 4) (nI (x 9 t 3)) _
        rw [d23]
        have dl : (r_dy y t 4) 31 0 (x 9 t 0) = x 6 (x 9 t 0) 2 := (r6 _ w1).1.symm
        refine sR_force w1 (by omega) ⟨t, 3, ht10, rfl, rfl, ?_⟩
        show w_X5_sendDue (xx, am_u (r_force (r_dy y t 4) (x 9 t 0) t 4 (x 9 t 3)) 24 0 t 3) (nI t) _
        rw [hG]
        refine sR_due ht10 Gc (fun n hn => by have := (G28 n hn).2; omega) ?_
        rw [G23]
        exact hQ
  · refine ⟨x, y, fun yy z1 z2 Q hQ => ?_, fun xx Q hQ => ?_, h⟩
    · exact w_X0_hearVote_J82_i (w_X4_hasAllVotes_i (pr_f (fun z => ha (key.mp z)) (br_t (by decide) hQ)))
    · exact ref xx _ (br_f ha hQ)
theorem pw_bit : ∀ s, s < 4 → ∀ n, n < 4 → ((2 ^ s).testBit n = true ↔ nI n = nI s) := by decide +kernel
theorem pw_lt : ∀ s, s < 4 → 2 ^ s < 16 := by decide
theorem sim_vote {x y : am_N} {k s t : Nat} (hk : k = 2 ∨ k = 3 ∨ k = 4) (hs4 : s < 4) (ht : t < x 0 0 3) (h : JJ (x, y)) :
    ∃ X Y : am_N, (∀ (yy : am_N) (Q : am_M → Prop), Q (X, yy) → w_X0_hearVote (x, yy) (nI k) (nI s) (nI t) Q) ∧ (∀ (xx : am_N) (Q : am_M → Prop), Q (xx, Y) → w_X5_hearVote (xx, y) (nI k) (nI s) (nI t) Q) ∧ JJ (X, Y) := by
  obtain ⟨v1, v2, v3, v4, v6, v7, v8, v9, v10, v11, v12, v13, v14⟩ := (show VV x from h.1)
  obtain ⟨r1, r2, r3, r4, r5, r6, r7, r8, r9, r10, r11⟩ := (show RR x y from h.2)
  have hB := v1.1
  have ht10 : t < 10 := by omega
  obtain ⟨w1, w2, w3, w4, w5, w6⟩ := v2 t ht10
  obtain ⟨c1, c2⟩ := r7 t ht10
  have i40 : 4 * t + s < 40 := by omega
  have ei : nI 4 * nI t + nI s = nI (4 * t + s) := by rw [pk_mul, nI_add]
  have p2 : nI (x 9 t 1) = nI 2 ↔ x 9 t 1 = 2 := pr_eq (by omega) (by omega)
  have q2 : nI (y 24 0 t) = nI 2 ↔ x 9 t 1 = 2 := by rw [← c2]; exact p2
  by_cases st : x 9 t 1 = 2
  · have gb := r8 t s ht10 hs4
    have d4 : (nI (y 25 0 (4 * t + s)) = 0) ↔ (x 9 t 2).testBit s = false := by
      rw [gb.1, pr_eq0 (by have := gb.2; omega)]
      simp
    cases bt : (x 9 t 2).testBit s with
    | true =>
      have nz : ¬ nI (y 25 0 (4 * t + s)) = 0 := fun z => by rw [d4.mp z] at bt; cases bt
      have go : ∀ (yy : am_N) (Q : am_M → Prop), ((¬ nI k = (nI 4) → ((¬ nI k = (nI 2) → w_X0_only (x, yy) (nI s) (fun y5 M4 => am_sf (am_c1 M4 9 t 4) ((nI (x 9 t 4)) ||| y5) (fun M6 => w_X0_hearVote_J82 t M6 (nI k) (nI s) (nI t) Q))) ∧ (nI k = (nI 2) → w_X0_only (x, yy) (nI s) (fun y16 M15 => am_sf (am_c1 M15 9 t 3) ((nI (x 9 t 3)) ||| y16) (fun M17 => w_X0_hearVote_J82 t M17 (nI k) (nI s) (nI t) Q))))) ∧ (nI k = (nI 4) → w_X0_only (x, yy) (nI s) (fun y19 M18 => w_X0_giveUp M18 (nI t) y19 (fun _ M20 => Q M20)))) → w_X0_hearVote (x, yy) (nI k) (nI s) (nI t) Q := fun yy Q hQ =>
        w_X0_hearVote_i ⟨t, ht10, rfl, pr_t (p2.mpr st) (sC_isIn_t (show x 9 t 2 < 256 by omega) (by omega) bt (pr_f (by decide) hQ))⟩
      have gor : ∀ (xx : am_N) (Q : am_M → Prop), ((¬ nI k = (nI 4) → ((¬ nI k = (nI 2) → am_sz (am_c2 (xx, y) 27 0) 40 (nI (4 * t + s)) (nI 1) (fun M4 => w_X5_decide M4 (nI t) (fun M5 => Q M5))) ∧ (nI k = (nI 2) → am_sz (am_c2 (xx, y) 26 0) 40 (nI (4 * t + s)) (nI 1) (fun M6 => w_X5_decide M6 (nI t) (fun M7 => Q M7))))) ∧ (nI k = (nI 4) → w_X5_pullBack (xx, y) (nI t) (nI s) (fun _ M8 => Q M8))) → w_X5_hearVote (xx, y) (nI k) (nI s) (nI t) Q := by
        intro xx Q hQ
        apply w_X5_hearVote_i
        show am_ix (nI t) 10 _
        rw [ei]
        exact ⟨t, ht10, rfl, pr_t (q2.mpr st) ⟨4 * t + s, i40, rfl, pr_f nz hQ⟩⟩
      rcases hk with rfl | rfl | rfl
      · -- YES
        have hj := JJ_yes hs4 ht10 h
        obtain ⟨X, Y, hX, hY, hJ⟩ := sim_dec (x := am_u x 9 t 3 (x 9 t 3 ||| 2 ^ s)) ht (by simpa [am_u] using st) hj
        refine ⟨X, Y, fun yy Q hQ => go yy Q (pr_f (by decide) (pr_t rfl (w_X0_only_i ⟨x 9 t 3 ||| 2 ^ s, pr_or _ (by omega) _ (by omega), hX _ _ _ _ hQ⟩))), fun xx Q hQ => gor xx Q (pr_f (by decide) (pr_t rfl ⟨4 * t + s, 1, i40, rfl, rfl, by decide, hY _ _ hQ⟩)), hJ⟩
      · -- READ
        have hj := JJ_rd hs4 ht10 h
        obtain ⟨X, Y, hX, hY, hJ⟩ := sim_dec (x := am_u x 9 t 4 (x 9 t 4 ||| 2 ^ s)) ht (by simpa [am_u] using st) hj
        refine ⟨X, Y, fun yy Q hQ => go yy Q (pr_f (by decide) (pr_f (by decide) (w_X0_only_i ⟨x 9 t 4 ||| 2 ^ s, pr_or _ (by omega) _ (by omega), hX _ _ _ _ hQ⟩))), fun xx Q hQ => gor xx Q (pr_f (by decide) (pr_f (by decide) ⟨4 * t + s, 1, i40, rfl, rfl, by decide, hY _ _ hQ⟩)), hJ⟩
      · -- NO
        obtain ⟨j1, j2⟩ := JJ_give (sp := 2 ^ s) (bt := nI s) ht (Or.inr st) (fun n hn => pw_bit s hs4 n hn) h
        refine ⟨_, _, fun yy Q hQ => go yy Q (pr_t rfl (w_X0_only_i ?_)), fun xx Q hQ => gor xx Q (pr_t rfl (sR_pull ht10 (by omega) ?_ ?_ (fun n hn => by have := (r8 t n ht10 hn).2; omega) (fun n hn => by have := (r10 t n ht10 hn).2; omega) hQ)), j2⟩
        · rw [pr_sh s (by omega)]
          exact sC_giveUp ht10 w1 w3 w5 (pw_lt s hs4) (v8 _ w1).1 v1.2 hQ
        · have a := (v8 _ w1).1
          have b := (r6 _ w1).1
          rw [← c1]
          omega
        · have := v1.2
          have := r1.2
          omega
    | false =>
      refine ⟨x, y, fun yy Q hQ => ?_, fun xx Q hQ => ?_, h⟩
      · exact w_X0_hearVote_i ⟨t, ht10, rfl, pr_t (p2.mpr st) (sC_isIn_f (show x 9 t 2 < 256 by omega) (by omega) bt (pr_t (by decide) hQ))⟩
      · apply w_X5_hearVote_i
        show am_ix (nI t) 10 _
        rw [ei]
        exact ⟨t, ht10, rfl, pr_t (q2.mpr st) ⟨4 * t + s, i40, rfl, pr_t (d4.mpr bt) hQ⟩⟩
  · refine ⟨x, y, fun yy Q hQ => ?_, fun xx Q hQ => ?_, h⟩
    · exact w_X0_hearVote_i ⟨t, ht10, rfl, pr_f (fun z => st (p2.mp z)) hQ⟩
    · exact w_X5_hearVote_i ⟨t, ht10, rfl, pr_f (fun z => st (q2.mp z)) hQ⟩
set_option maxRecDepth 100000 in
theorem pr_off : ∀ d, d < 16 → ∀ s, s < 4 → (nI d &&& ((nI 1 <<< (nI s &&& 31)) ^^^ (-1))) = nI (r_bm (c_off d s) 4) := by decide +kernel
theorem sim_ack {x y : am_N} {s t : Nat} (hs4 : s < 4) (ht : t < x 0 0 3) (h : JJ (x, y)) :
    ∃ X Y : am_N, (∀ (yy : am_N) (Q : am_M → Prop), Q (X, yy) → w_X0_hearAck (x, yy) (nI s) (nI t) Q) ∧ (∀ (xx : am_N) (Q : am_M → Prop), Q (xx, Y) → w_X5_hearAck (xx, y) (nI s) (nI t) Q) ∧ JJ (X, Y) := by
  obtain ⟨v1, v2, v3, v4, v6, v7, v8, v9, v10, v11, v12, v13, v14⟩ := (show VV x from h.1)
  obtain ⟨r1, r2, r3, r4, r5, r6, r7, r8, r9, r10, r11⟩ := (show RR x y from h.2)
  have hB := v1.1
  have ht10 : t < 10 := by omega
  obtain ⟨w1, w2, w3, w4, w5, w6⟩ := v2 t ht10
  obtain ⟨c1, c2⟩ := r7 t ht10
  have i40 : 4 * t + s < 40 := by omega
  have ei : nI 4 * nI t + nI s = nI (4 * t + s) := by rw [pk_mul, nI_add]
  have p2 : nI (x 9 t 1) = nI 3 ↔ x 9 t 1 = 3 := pr_eq (by omega) (by omega)
  have q2 : nI (y 24 0 t) = nI 3 ↔ x 9 t 1 = 3 := by rw [← c2]; exact p2
  by_cases st : x 9 t 1 = 3
  · have hj := JJ_off (t := t) hs4 h
    have hd16 : r_bm (c_off (x 9 t 5) s) 4 < 16 := r_bm_lt _ 4
    generalize hD : r_bm (c_off (x 9 t 5) s) 4 = D at hj hd16
    have s5 : (am_u x 9 t 5 D) 9 t 5 = D := by simp [am_u]
    have s0 : (am_u x 9 t 5 D) 9 t 0 = x 9 t 0 := by simp [am_u]
    have s1 : (am_u x 9 t 5 D) 9 t 1 = 3 := by simpa [am_u] using st
    obtain ⟨j1, j2, j3, j4, j5, j6, j7, j8, j9, j10, j11⟩ := (show RR (am_u x 9 t 5 D) (am_u y 28 0 (4 * t + s) 0) from hj.2)
    have mk : r_bm (r_pd (am_u y 28 0 (4 * t + s) 0) 28 t) 4 = D := by
      have := RR_mask j11 ht10 (show (am_u x 9 t 5 D) 9 t 5 < 16 by rw [s5]; exact hd16)
      rw [s5] at this
      exact this.symm
    have goC : ∀ (yy : am_N) (Q : am_M → Prop), ((¬ nI D = 0 → Q (am_u x 9 t 5 D, yy)) ∧ (nI D = 0 → w_X1_write (am_u x 9 t 5 D, yy) (x 9 t 0) (nI t) (nI 6) (nI 0) (fun M6 => w_X4_forget M6 t (fun M7 => Q M7)))) → w_X0_hearAck (x, yy) (nI s) (nI t) Q := by
      intro yy Q hQ
      refine w_X0_hearAck_i ⟨t, ht10, rfl, br_t (p2.mpr st) (w_X0_only_i ⟨D, ?_, ?_⟩)⟩
      · show nI (x 9 t 5) &&& ((nI 1 <<< (nI s &&& 31)) ^^^ (-1)) = nI D
        rw [pr_off _ w6 _ hs4, hD]
      · show ((¬ nI ((am_u x 9 t 5 D) 9 t 5) = 0 → _) ∧ (nI ((am_u x 9 t 5 D) 9 t 5) = 0 → _))
        rw [s5]
        exact ⟨hQ.1, fun z => ⟨x 9 t 0, w1, by show nI ((am_u x 9 t 5 D) 9 t 0) = _; rw [s0], hQ.2 z⟩⟩
    have goR : ∀ (xx : am_N) (Q : am_M → Prop), ((¬ nI D = 0 → Q (xx, am_u y 28 0 (4 * t + s) 0)) ∧ (nI D = 0 → w_X5_write (xx, am_u y 28 0 (4 * t + s) 0) (nI (x 9 t 0)) (nI t) (nI 6) (nI 0) (fun M6 => w_X5_forget M6 (nI t) (fun M7 => Q M7)))) → w_X5_hearAck (xx, y) (nI s) (nI t) Q := by
      intro xx Q hQ
      refine w_X5_hearAck_i ⟨t, ht10, rfl, pr_t (q2.mpr st) ⟨4 * t + s, 0, i40, ei, rfl, by decide, sR_bits (a := 28) ht10 (by decide) rfl (fun n hn => ?_) ?_⟩⟩
      · have := (j11 t n ht10 hn).2
        show (am_u y 28 0 (4 * t + s) 0) 28 0 (4 * t + n) < 1000
        omega
      · show ((¬ nI (r_bm (r_pd (am_u y 28 0 (4 * t + s) 0) 28 t) 4) = 0 → _) ∧ (nI (r_bm (r_pd (am_u y 28 0 (4 * t + s) 0) 28 t) 4) = 0 → _))
        rw [mk]
        refine ⟨hQ.1, fun z => ⟨t, ht10, rfl, ?_⟩⟩
        have e23 : (am_u y 28 0 (4 * t + s) 0) 23 0 t = x 9 t 0 := c1.symm
        show w_X5_write (xx, am_u y 28 0 (4 * t + s) 0) (nI ((am_u y 28 0 (4 * t + s) 0) 23 0 t)) (nI t) (nI 6) (nI 0) _
        rw [e23]
        exact hQ.2 z
    have pd : nI D = 0 ↔ D = 0 := pr_eq0 (by omega)
    by_cases hz : D = 0
    · have hno : ¬ hr (am_u x 9 t 5 D) (x 9 t 0) (10 * t + 6) := (v11 t ht10 (by omega)).2 st
      obtain ⟨hl, hw⟩ := VV_wr46 (kd := 6) (w := 0) (x := am_u x 9 t 5 D) w1 ht (by omega) (fun z => by omega) hno (Or.inr rfl) hj.1
      have hl0 : x 6 (x 9 t 0) 2 < 60 := hl
      refine ⟨c_forget (c_write (am_u x 9 t 5 D) (x 9 t 0) t 6 0) t, r_forget (r_write (am_u y 28 0 (4 * t + s) 0) (x 9 t 0) t 6 0) t, fun yy Q hQ => goC yy Q (pr_t (pd.mpr hz) (sC_write (Nat.le_of_lt hl) (sC_forget hQ))), fun xx Q hQ => goR xx Q (pr_t (pd.mpr hz) (sR_write w1 ?_ (sR_forget ht10 hQ))), JJ_mk (VV_forget (Or.inl rfl) hw) (RR_forget ht10 (RR_write w1 hl (fun m hm => (v8 m hm).1) (v8 _ w1).2.1 (by decide) hj.2))⟩
      show y 31 0 (x 9 t 0) < 64
      have := (r6 _ w1).1
      omega
    · exact ⟨am_u x 9 t 5 D, am_u y 28 0 (4 * t + s) 0, fun yy Q hQ => goC yy Q (pr_f (fun z => hz (pd.mp z)) hQ), fun xx Q hQ => goR xx Q (pr_f (fun z => hz (pd.mp z)) hQ), hj⟩
  · refine ⟨x, y, fun yy Q hQ => ?_, fun xx Q hQ => ?_, h⟩
    · exact w_X0_hearAck_i ⟨t, ht10, rfl, br_f (fun z => st (p2.mp z)) hQ⟩
    · exact w_X5_hearAck_i ⟨t, ht10, rfl, pr_f (fun z => st (q2.mp z)) hQ⟩
