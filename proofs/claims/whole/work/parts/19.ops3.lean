theorem pr_nm1 {t : Nat} (h : t < 1000) : ¬ nI t = (-1) := fun e => by
  have e := congrArg Int32.toInt e
  rw [nI_toInt (by omega)] at e
  have e2 : ((-1 : Int32)).toInt = -1 := by decide
  omega
theorem work_grant {x y : am_N} {n t : Nat} {c : Int32} (hn : n < 4) (ht : t < x 0 0 3) (hc : c = -1 ∨ ∃ r, r < 8 ∧ c = nI r) (hup : x 3 n 0 = 1) (hs : x 9 t 1 = 1) (hb : (x 9 t 2).testBit n = true) (hst : x 4 n t = 1 ∨ x 4 n t = 2) (h : JJ (x, y)) :
    ∃ (r : Nat) (X Y : am_N), (r = 0 ∨ r = 1) ∧ (∀ (yy : am_N) (Q : Int32 → am_M → Prop), Q (nI r) (X, yy) → w_X3_grant (x, yy) n (nI t) c Q) ∧ (∀ (xx : am_N) (Q : Int32 → am_M → Prop), Q (nI r) (xx, Y) → w_X5_work_J121 (xx, y) (nI t) (nI n) c (nI (4 * t + n)) Q) ∧ JJ (X, Y) := by
  obtain ⟨v1, v2, v3, v4, v6, v7, v8, v9, v10, v11, v12, v13, v14⟩ := (show VV x from h.1)
  obtain ⟨r1, r2, r3, r4, r5, r6, r7, r8, r9, r10, r11⟩ := (show RR x y from h.2)
  have hB := v1.1
  have ht10 : t < 10 := by omega
  have g4 := v4 n t hn ht10
  have e4 := r4 n t hn ht10
  have p2 : nI (x 4 n t) = nI 2 ↔ x 4 n t = 2 := pr_eq (by omega) (by omega)
  have q2 : nI (y 29 0 (4 * t + n)) = nI 2 ↔ x 4 n t = 2 := by rw [← e4]; exact p2
  have i40 : 4 * t + n < 40 := by omega
  -- the reference behind the look at the owner
  have J163_2 : ∀ (xx Y : am_N) (z : Int32) (Q : Int32 → am_M → Prop), Y 29 0 (4 * t + n) = 2 → Q (nI 0) (xx, Y) → w_X5_work_J163 (xx, Y) (nI t) (nI n) c (nI (4 * t + n)) z Q := by
    intro xx Y z Q e hQ
    exact w_X5_work_J163_i ⟨4 * t + n, i40, rfl, pr_t (by show nI (Y 29 0 (4 * t + n)) = nI 2; rw [e]) hQ⟩
  rcases hst with hst | hst
  · -- WORKING
    have n2 : ¬ nI (x 4 n t) = nI 2 := fun z => by have := p2.mp z; omega
    have m2 : ¬ nI (y 29 0 (4 * t + n)) = nI 2 := fun z => by have := q2.mp z; omega
    rcases hc with rfl | ⟨r, hr8, rfl⟩
    · refine ⟨1, x, y, Or.inr rfl, fun yy Q hQ => ?_, fun xx Q hQ => ?_, h⟩
      · exact w_X3_grant_i ⟨t, ht10, rfl, pr_f n2 (pr_t rfl hQ)⟩
      · refine w_X5_work_J121_i (br_f (by decide) (w_X5_work_J142_i (br_t (by decide) (w_X5_work_J163_i ⟨4 * t + n, i40, rfl, pr_f m2 (br_t (by decide) hQ)⟩))))
    · have nr : ¬ nI r = (-1) := pr_nm1 (by omega)
      have ge : (0 : Int32) ≤ nI r := nI_pos' (by omega)
      have nlt : ¬ nI r < 0 := nI_pos (by omega)
      have ix : nI 8 * nI n + nI r = nI (8 * n + r) := by rw [pk_mul, nI_add]
      have hb5 := r5.2 (8 * n + r) (by omega)
      by_cases ho : y 30 0 (8 * n + r) = 0 ∨ y 30 0 (8 * n + r) = t + 1
      · refine ⟨1, am_u x 5 n t (x 5 n t ||| 2 ^ r), am_u y 30 0 (8 * n + r) (t + 1), Or.inr rfl, fun yy Q hQ => ?_, fun xx Q hQ => ?_, JJ_grant hn ht hr8 hup hst ho h⟩
        · have fin : am_ix (nI t) 10 (fun k5 => w_X0_only (x, yy) (nI r) (fun y7 M6 => am_sa (am_c1 M6 5 n) 10 (nI t) ((nI ((x, yy).1 5 n k5)) ||| y7) (fun M8 => Q (nI 1) M8))) := ⟨t, ht10, rfl, w_X0_only_i ⟨t, x 5 n t ||| 2 ^ r, ht10, rfl, pr_or _ g4.2 _ hr8, hQ⟩⟩
          refine w_X3_grant_i ⟨t, ht10, rfl, pr_f n2 (pr_f nr (sC_owner hr8 (fun u hu => (v4 n u hn hu).2) (fun u hu hbt _ => ?_) (fun _ => br_t rfl fin)))⟩
          have g := r5.1 n u r hn hu hr8
          rw [hbt] at g
          have g := of_decide_eq_true g.symm
          have e : u = t := by omega
          subst e
          exact br_f (pr_nm1 (by omega)) (br_t rfl fin)
        · have j163 : ∀ z, w_X5_work_J163 (xx, y) (nI t) (nI n) (nI r) (nI (4 * t + n)) z Q := fun z => w_X5_work_J163_i ⟨4 * t + n, i40, rfl, pr_f m2 (br_f nlt ⟨8 * n + r, t + 1, by omega, ix, nI_add _ _, hQ⟩)⟩
          refine w_X5_work_J121_i (br_t ge ⟨8 * n + r, by omega, ix, w_X5_work_J142_i ⟨fun _ => j163 _, fun z => br_t ?_ (j163 _)⟩⟩)
          have z : ¬ nI (y 30 0 (8 * n + r)) = 0 := z
          show nI (y 30 0 (8 * n + r)) = nI t + nI 1
          rcases ho with ho | ho
          · rw [ho] at z; exact absurd rfl z
          · rw [ho, nI_add]
      · refine ⟨0, am_u x 4 n t 2, am_u y 29 0 (4 * t + n) 2, Or.inl rfl, fun yy Q hQ => ?_, fun xx Q hQ => ?_, JJ_refuse hn ht hs hb (Or.inl hst) h⟩
        · refine w_X3_grant_i ⟨t, ht10, rfl, pr_f n2 (pr_f nr (sC_owner hr8 (fun u hu => (v4 n u hn hu).2) (fun u hu hbt _ => ?_) (fun hno => ?_)))⟩
          · have g := r5.1 n u r hn hu hr8
            rw [hbt] at g
            have g := of_decide_eq_true g.symm
            refine br_f (pr_nm1 (by omega)) (br_f (fun z => ?_) ⟨t, 2, ht10, rfl, rfl, hQ⟩)
            have := (pr_eq (show u < 1000 by omega) (show t < 1000 by omega)).mp z
            omega
          · have g := r5.1 n (y 30 0 (8 * n + r) - 1) r hn (by omega) hr8
            rw [hno _ (by omega)] at g
            have g := of_decide_eq_false g.symm
            omega
        · have z1 : ¬ nI (y 30 0 (8 * n + r)) = 0 := fun z => by
            have := (pr_eq0 (show y 30 0 (8 * n + r) < 1000 by omega)).mp z
            omega
          have z2 : ¬ nI (y 30 0 (8 * n + r)) = nI t + nI 1 := fun z => by
            rw [nI_add] at z
            have := (pr_eq (show y 30 0 (8 * n + r) < 1000 by omega) (show t + 1 < 1000 by omega)).mp z
            omega
          exact w_X5_work_J121_i (br_t ge ⟨8 * n + r, by omega, ix, w_X5_work_J142_i (br_f z1 (br_f z2 ⟨4 * t + n, 2, i40, rfl, rfl, J163_2 xx _ _ Q (by simp [am_u]) hQ⟩))⟩)
  · -- REFUSED already
    have n2 : nI (x 4 n t) = nI 2 := p2.mpr hst
    have ey : y 29 0 (4 * t + n) = 2 := by omega
    have same : am_u y 29 0 (4 * t + n) 2 = y := by
      funext a b k
      unfold am_u
      split
      · rename_i q
        obtain ⟨rfl, rfl, rfl⟩ := q
        exact ey.symm
      · rfl
    refine ⟨0, x, y, Or.inl rfl, fun yy Q hQ => ?_, fun xx Q hQ => ?_, h⟩
    · exact w_X3_grant_i ⟨t, ht10, rfl, pr_t n2 hQ⟩
    · have j142 : ∀ z, w_X5_work_J142 (xx, y) (nI t) (nI n) c (nI (4 * t + n)) z Q := by
        intro z
        refine w_X5_work_J142_i ⟨fun _ => J163_2 xx y _ Q ey hQ, fun _ => ⟨fun _ => J163_2 xx y _ Q ey hQ, fun _ => ⟨4 * t + n, 2, i40, rfl, rfl, ?_⟩⟩⟩
        show w_X5_work_J163 (xx, am_u y 29 0 (4 * t + n) 2) (nI t) (nI n) c (nI (4 * t + n)) z Q
        rw [same]
        exact J163_2 xx y _ Q ey hQ
      rcases hc with rfl | ⟨r, hr8, rfl⟩
      · exact w_X5_work_J121_i (br_f (by decide) (j142 _))
      · exact w_X5_work_J121_i (br_t (nI_pos' (by omega)) ⟨8 * n + r, by omega, by rw [pk_mul, nI_add], j142 _⟩)
theorem pr_c3 (c : Int32) : (c = -1 ∨ ∃ r, r < 8 ∧ c = nI r) ∨ (¬ c = -1 ∧ (c < 0 ∨ nI 8 ≤ c) ∧ (c < -1 ∨ ¬ c ≤ nI 7)) := by
  by_cases q : c = -1
  · exact Or.inl (Or.inl q)
  · rcases pr_cs c (B := 8) (by decide) with h | h
    · refine Or.inr ⟨q, h, ?_⟩
      rcases h with h | h
      · left
        rw [Int32.lt_iff_toInt_lt] at h ⊢
        have e2 : ((-1 : Int32)).toInt = -1 := by decide
        have e0 : ((0 : Int32)).toInt = 0 := by decide
        have q2 : c.toInt ≠ -1 := fun z => q (Int32.toInt_inj.mp (by rw [z, e2]))
        omega
      · right
        exact fun z => pr_ge h (pr_le7.mp z)
    · exact Or.inl (Or.inr h)
theorem op_work {x y : am_N} (h : JJ (x, y)) (a b c : Int32) : w_X0_work (x, y) a b c (fun r M1 => w_X5_work M1 a b c (fun r2 M2 => r = r2 ∧ JJ M2)) := by
  obtain ⟨v1, v2, v3, v4, v6, v7, v8, v9, v10, v11, v12, v13, v14⟩ := (show VV x from h.1)
  obtain ⟨r1, r2, r3, r4, r5, r6, r7, r8, r9, r10, r11⟩ := (show RR x y from h.2)
  have hB := v1.1
  have e := r1.1
  rcases pr_cs a (B := x 0 0 3) (by omega) with ha | ⟨t, ht, rfl⟩
  · refine w_X0_work_i (sC_isTx_f ha (br_t (by decide) ?_))
    exact w_X5_work_i (sR_noWork_f (show a < 0 ∨ nI (y 20 0 2) ≤ a by rw [← e]; exact ha) (pr_f (by decide) ⟨rfl, h⟩))
  · have ht10 : t < 10 := by omega
    have f1 : t < y 20 0 2 := by omega
    have f2 : y 20 0 2 ≤ 10 := by omega
    refine w_X0_work_i (sC_isTx_t ht hB (br_f (by decide) ?_))
    rcases pr_cs b (B := 4) (by decide) with hb | ⟨n, hn, rfl⟩
    · refine sC_isNode_f hb (br_t (by decide) ?_)
      exact w_X5_work_i (sR_noWork_t f1 f2 (pr_t (by decide) (sR_noNode_f hb (pr_f (by decide) ⟨rfl, h⟩))))
    · refine sC_isNode_t hn (br_f (by decide) ?_)
      rcases pr_c3 c with hc | ⟨c1, c2, c3⟩
      · obtain ⟨w1, w2, w3, w4, w5, w6⟩ := v2 t ht10
        obtain ⟨k1, k2⟩ := r7 t ht10
        have g1 := r3 n hn
        have g2 := r3 _ w1
        have gb := r8 t n ht10 hn
        have e4 := r4 n t hn ht10
        have b4 := (v4 n t hn ht10).1
        have i40 : 4 * t + n < 40 := by omega
        have ei : nI 4 * nI t + nI n = nI (4 * t + n) := by rw [pk_mul, nI_add]
        have lo : ¬ c < (-1) := by
          rcases hc with rfl | ⟨r, hr8, rfl⟩
          · decide
          · rw [Int32.lt_iff_toInt_lt, nI_toInt (by omega)]
            have e2 : ((-1 : Int32)).toInt = -1 := by decide
            omega
        have hi : c ≤ nI 7 := by
          rcases hc with rfl | ⟨r, hr8, rfl⟩
          · decide
          · exact nI_le (by omega) (by decide)
        -- the reference up to the three ends
        have d1 : (nI (y 21 0 n) = 0) ↔ x 3 n 0 = 1 := by rw [pr_eq0 (by omega)]; omega
        have d2 : (nI (y 21 0 (x 9 t 0)) = 0) ↔ x 3 (x 9 t 0) 0 = 1 := by rw [pr_eq0 (by omega)]; omega
        have d3 : (nI (y 24 0 t) = nI 1) ↔ x 9 t 1 = 1 := by rw [← k2]; exact pr_eq (by omega) (by omega)
        have d4 : (nI (y 25 0 (4 * t + n)) = 0) ↔ (x 9 t 2).testBit n = false := by
          rw [gb.1, pr_eq0 (by have := gb.2; omega)]
          simp
        have d5 : (nI (y 29 0 (4 * t + n)) = 0) ↔ x 4 n t = 0 := by rw [← e4]; exact pr_eq0 (by omega)
        have ref : ∀ (xx : am_N) (Q : Int32 → am_M → Prop), (x 3 n 0 = 0 → Q (-3) (xx, y)) → (x 3 (x 9 t 0) 0 = 0 → Q (-3) (xx, y)) → (x 3 n 0 = 1 → x 3 (x 9 t 0) 0 = 1 → (x 9 t 1 ≠ 1 ∨ ((x 9 t 2).testBit n = true ∧ x 4 n t = 0)) → Q (-4) (xx, y)) → (x 3 n 0 = 1 → x 3 (x 9 t 0) 0 = 1 → x 9 t 1 = 1 → ((x 9 t 2).testBit n = true → x 4 n t ≠ 0) → w_X5_work_J95 (xx, y) (nI t) (nI n) c (nI (4 * t + n)) Q) → w_X5_work (xx, y) (nI t) (nI n) c Q := by
          intro xx Q q1 q2 q3 q4
          refine w_X5_work_i (sR_noWork_t f1 f2 (pr_t (by decide) (sR_noNode_t hn (pr_t (by decide) (br_f lo (br_t hi ?_))))))
          show am_ix (nI n) 4 _
          rw [ei]
          refine ⟨n, hn, rfl, fun z => q1 ?_, fun z => ⟨t, ht10, rfl, x 9 t 0, w1, ?_, fun z2 => ⟨t, ht10, rfl, fun z3 => ?_, fun z3 => ⟨4 * t + n, i40, rfl, fun z4 => ?_, fun z4 => ⟨4 * t + n, i40, rfl, fun z5 => ?_, fun z5 => ?_⟩⟩⟩, fun z2 => q2 ?_⟩⟩
          · have z : ¬ nI (y 21 0 n) = 0 := z
            rw [d1] at z
            have := v3 n hn
            omega
          · show nI (y 23 0 t) = _
            rw [k1]
          · have z : nI (y 21 0 n) = 0 := z
            have z2 : nI (y 21 0 (x 9 t 0)) = 0 := z2
            have z3 : ¬ nI (y 24 0 t) = nI 1 := z3
            exact q3 (d1.mp z) (d2.mp z2) (Or.inl (fun w => z3 (d3.mpr w)))
          · have z4 : nI (y 25 0 (4 * t + n)) = 0 := z4
            refine q4 (d1.mp z) (d2.mp z2) (d3.mp z3) (fun w => ?_)
            rw [d4.mp z4] at w
            cases w
          · have z5 : ¬ nI (y 29 0 (4 * t + n)) = 0 := z5
            exact q4 (d1.mp z) (d2.mp z2) (d3.mp z3) (fun _ w => z5 (d5.mpr w))
          · have z4 : ¬ nI (y 25 0 (4 * t + n)) = 0 := z4
            refine q3 (d1.mp z) (d2.mp z2) (Or.inr ⟨?_, d5.mp z5⟩)
            cases w : (x 9 t 2).testBit n with
            | true => rfl
            | false => exact absurd (d4.mpr w) z4
          · have z2 : ¬ nI (y 21 0 (x 9 t 0)) = 0 := z2
            rw [d2] at z2
            have := v3 _ w1
            omega
        -- both, once the work is taken up
        have j30 : w_X0_work_J30 (x, y) (nI t) (nI n) c (fun r M1 => w_X5_work M1 (nI t) (nI n) c (fun r2 M2 => r = r2 ∧ JJ M2)) := by
          have u1 := v3 n hn
          have u2 := v3 _ w1
          have p1 : nI (x 9 t 1) = nI 1 ↔ x 9 t 1 = 1 := pr_eq (by omega) (by omega)
          have p4 : nI (x 4 n t) = 0 ↔ x 4 n t = 0 := pr_eq0 (by omega)
          have late : ∀ (w : x 9 t 1 ≠ 1 ∨ ((x 9 t 2).testBit n = true ∧ x 4 n t = 0)), x 3 n 0 = 1 → x 3 (x 9 t 0) 0 = 1 → w_X5_work (x, y) (nI t) (nI n) c (fun r2 M2 => (-4) = r2 ∧ JJ M2) := by
            intro w y1 y2
            refine ref _ _ (fun z => by omega) (fun z => by omega) (fun _ _ _ => ⟨rfl, h⟩) (fun _ _ z3 z4 => ?_)
            rcases w with w | ⟨w1, w2⟩
            · exact absurd z3 w
            · exact absurd w2 (z4 w1)
          refine w_X0_work_J30_i ⟨n, hn, rfl, t, ht10, rfl, fun q => ?_, fun q => ⟨x 9 t 0, w1, rfl, fun q2 => ?_, fun q2 => ?_⟩⟩
          · have q : x 3 n 0 = 0 := (pr_eq0 (by omega)).mp q
            exact ref _ _ (fun _ => ⟨rfl, h⟩) (fun _ => ⟨rfl, h⟩) (fun z => by omega) (fun z => by omega)
          · have y1 : x 3 n 0 = 1 := by
              have : ¬ x 3 n 0 = 0 := fun z => q (by show nI (x 3 n 0) = 0; rw [z]; rfl)
              omega
            have y2 : x 3 (x 9 t 0) 0 = 1 := by
              have : ¬ x 3 (x 9 t 0) 0 = 0 := fun z => q2 (by show nI (x 3 (x 9 t 0) 0) = 0; rw [z]; rfl)
              omega
            cases bt : (x 9 t 2).testBit n with
            | true =>
              refine sC_isIn_t (show x 9 t 2 < 256 by omega) (by omega) bt ?_
              refine ⟨fun z => late (Or.inl (fun w => z (p1.mpr w))) y1 y2, fun z => br_f (by decide) ⟨t, ht10, rfl, fun z2 => ?_, fun z2 => late (Or.inr ⟨bt, p4.mp z2⟩) y1 y2⟩⟩
              have z : x 9 t 1 = 1 := p1.mp z
              have z2 : ¬ x 4 n t = 0 := fun w => z2 (p4.mpr w)
              have z3 := ((v12 t ht10 z n hn).2.1)
              obtain ⟨r, X, Y, hr, hX, hY, hJ⟩ := work_grant hn ht hc y1 z bt (by omega) h
              refine w_X0_work_J111_i (pr_f (by decide) (w_X0_work_J138_i (hX _ _ ?_)))
              have fin : w_X5_work (X, y) (nI t) (nI n) c (fun r2 M2 => nI r = r2 ∧ JJ M2) := by
                refine ref _ _ (fun w => by omega) (fun w => by omega) (fun _ _ w => ?_) (fun _ _ _ _ => ?_)
                · rcases w with w | ⟨-, w⟩
                  · exact absurd z w
                  · exact absurd w z2
                · refine w_X5_work_J95_i ⟨4 * t + n, i40, rfl, pr_f (fun w => ?_) (hY _ _ ⟨rfl, hJ⟩)⟩
                  have w : nI (y 25 0 (4 * t + n)) = 0 := w
                  rw [d4.mp w] at bt
                  cases bt
              rcases hr with rfl | rfl
              · exact br_t (by decide) fin
              · exact br_f (by decide) fin
            | false =>
              refine sC_isIn_f (show x 9 t 2 < 256 by omega) (by omega) bt ?_
              refine ⟨fun z => late (Or.inl (fun w => z (p1.mpr w))) y1 y2, fun z => br_t (by decide) ?_⟩
              have z : x 9 t 1 = 1 := p1.mp z
              have hJ1 := JJ_member hn ht z bt h
              obtain ⟨r, X, Y, hr, hX, hY, hJ⟩ := work_grant (x := am_u (am_u x 9 t 2 (x 9 t 2 ||| 2 ^ n)) 4 n t 1) hn ht hc y1 (by simpa [am_u] using z) (by simp [am_u]) (by simp [am_u]) hJ1
              refine w_X0_work_J111_i (pr_t (by decide) (w_X0_only_i ⟨x 9 t 2 ||| 2 ^ n, pr_or _ (show x 9 t 2 < 256 by omega) _ (by omega), t, 1, ht10, rfl, rfl, w_X0_work_J138_i (hX _ _ ?_)⟩))
              have fin : w_X5_work (X, y) (nI t) (nI n) c (fun r2 M2 => nI r = r2 ∧ JJ M2) := by
                refine ref _ _ (fun w => by omega) (fun w => by omega) (fun _ _ w => ?_) (fun _ _ _ _ => ?_)
                · rcases w with w | ⟨w, -⟩
                  · exact absurd z w
                  · rw [bt] at w; cases w
                · refine w_X5_work_J95_i ⟨4 * t + n, i40, rfl, pr_t (d4.mpr bt) ⟨4 * t + n, 1, i40, rfl, rfl, by decide, 4 * t + n, 1, i40, rfl, rfl, hY _ _ ⟨rfl, hJ⟩⟩⟩
              rcases hr with rfl | rfl
              · exact br_t (by decide) fin
              · exact br_f (by decide) fin
          · have q2 : x 3 (x 9 t 0) 0 = 0 := (pr_eq0 (by omega)).mp q2
            exact ref _ _ (fun _ => ⟨rfl, h⟩) (fun _ => ⟨rfl, h⟩) (fun _ z => by omega) (fun _ z => by omega)
        rcases hc with rfl | ⟨r, hr8, rfl⟩
        · exact br_t rfl j30
        · exact br_f (pr_nm1 (by omega)) (sC_isRes_t hr8 (pr_f (by decide) j30))
      · refine br_f c1 (sC_isRes_f c2 (pr_t (by decide) ?_))
        refine w_X5_work_i (sR_noWork_t f1 f2 (pr_t (by decide) (sR_noNode_t hn (pr_t (by decide) ⟨fun _ => ⟨rfl, h⟩, fun z => ⟨fun z2 => ?_, fun _ => ⟨rfl, h⟩⟩⟩))))
        rcases c3 with w | w
        · exact absurd w z
        · exact absurd z2 w
