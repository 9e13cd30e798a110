/-! hear, deliver, expire -/
theorem JJ_cnt {X Y : am_N} (hj : JJ (X, Y)) : X 1 0 1 ≤ 40 ∧ Y 20 0 16 ≤ 40 := by
  have a := (show VV X from hj.1).1.2
  have b := (show RR X Y from hj.2).1.2
  exact ⟨a, by omega⟩
theorem sim_hear {x y : am_N} {k s n t : Nat} (hk : 1 ≤ k ∧ k ≤ 8) (hs : s < 4) (hn : n < 4) (ht : t < x 0 0 3) (hup : x 3 n 0 = 1) (h1 : k = 1 → x 9 t 1 ≠ 1) (h : JJ (x, y)) :
    ∃ X Y : am_N, (∀ (yy : am_N) (Q : am_M → Prop), Q (X, yy) → w_X0_hear (x, yy) (nI k) (nI s) (nI n) (nI t) Q) ∧ (∀ (xx : am_N) (Q : am_M → Prop), Q (xx, Y) → w_X5_hear (xx, y) (nI k) (nI s) (nI n) (nI t) Q) ∧ JJ (X, Y) := by
  obtain ⟨v1, v2, v3, v4, v6, v7, v8, v9, v10, v11, v12, v13, v14⟩ := (show VV x from h.1)
  obtain ⟨r1, r2, r3, r4, r5, r6, r7, r8, r9, r10, r11⟩ := (show RR x y from h.2)
  have hB := v1.1
  have ht10 : t < 10 := by omega
  obtain ⟨b4, b5⟩ := v4 n t hn ht10
  have e4 := r4 n t hn ht10
  have i40 : 4 * t + n < 40 := by omega
  have ei : nI 4 * nI t + nI n = nI (4 * t + n) := by rw [pk_mul, nI_add]
  have hl60 := (v8 n hn).1
  have elen := (r6 n hn).1
  have ob : ∀ c, c < 32 → y 30 0 c < 1000 := fun c hc => by have := r5.2 c hc; omega
  obtain ⟨w1, w2, -⟩ := v2 t ht10
  obtain ⟨c1, c2⟩ := r7 t ht10
  have h8 : k = 1 ∨ (k = 2 ∨ k = 3 ∨ k = 4) ∨ k = 5 ∨ k = 6 ∨ k = 7 ∨ k = 8 := by omega
  rcases h8 with rfl | hv | rfl | rfl | rfl | rfl
  · obtain ⟨X, Y, hX, hY, hJ⟩ := sim_prep hs hn ht hup (h1 rfl) h
    exact ⟨X, Y, fun yy Q hQ => w_X0_hear_i (br_t rfl ⟨n, hn, rfl, hX yy Q hQ⟩), fun xx Q hQ => w_X5_hear_i (br_t rfl (hY xx Q hQ)), hJ⟩
  · obtain ⟨X, Y, hX, hY, hJ⟩ := sim_vote hv hs ht h
    refine ⟨X, Y, fun yy Q hQ => ?_, fun xx Q hQ => ?_, hJ⟩
    · have g := hX yy Q hQ
      rcases hv with rfl | rfl | rfl
      · exact w_X0_hear_i (br_f (by decide) (br_t rfl g))
      · exact w_X0_hear_i (br_f (by decide) (br_f (by decide) (br_t rfl g)))
      · exact w_X0_hear_i (br_f (by decide) (br_f (by decide) (br_f (by decide) (br_t rfl g))))
    · have g := hY xx Q hQ
      rcases hv with rfl | rfl | rfl
      · exact w_X5_hear_i (br_f (by decide) (br_t rfl g))
      · exact w_X5_hear_i (br_f (by decide) (br_f (by decide) (br_t rfl g)))
      · exact w_X5_hear_i (br_f (by decide) (br_f (by decide) (br_f (by decide) (br_t rfl g))))
  · -- COMMIT
    have p3 : nI (x 4 n t) = nI 3 ↔ x 4 n t = 3 := pr_eq (by omega) (by omega)
    have q3 : nI (y 29 0 (4 * t + n)) = nI 3 ↔ x 4 n t = 3 := by rw [← e4]; exact p3
    have goC : ∀ (yy : am_N) (Q : am_M → Prop), w_X3_finishCommit (x, yy) n (nI t) (fun M9 => w_X2_send M9 (nI 7) (nI n) (nI s) (nI t) (fun M10 => Q M10)) → w_X0_hear (x, yy) (nI 5) (nI s) (nI n) (nI t) Q := fun yy Q g => w_X0_hear_i (br_f (by decide) (br_f (by decide) (br_f (by decide) (br_f (by decide) (br_t rfl ⟨n, hn, rfl, g⟩)))))
    by_cases st : x 4 n t = 3
    · obtain ⟨hl, hj⟩ := JJ_done hn ht10 st h
      refine ⟨c_send (c_letGo (c_force x n t 2 0) n t) 7 n s t, r_send (r_letGo (r_force y n t 2 0) n t) 7 n s t, fun yy Q hQ => ?_, fun xx Q hQ => ?_, JJ_send (by omega) hn hs ?_ (by omega) hj⟩
      · exact goC yy Q (w_X3_finishCommit_i ⟨t, ht10, rfl, pr_t (p3.mpr st) (sC_force hl60 (sC_letGo ht10 (sC_send (JJ_cnt hj).1 hQ)))⟩)
      · exact w_X5_hear_i (br_f (by decide) (br_f (by decide) (br_f (by decide) (br_f (by decide) (br_t rfl ⟨4 * t + n, i40, ei, pr_t (q3.mpr st) (sR_force hn (by omega) (sR_letGo hn ht10 ob (sR_send (JJ_cnt hj).2 hQ)))⟩)))))
      · show t < (c_force x n t 2 0) 0 0 3
        unfold c_force
        show t < (c_write x n t 2 0) 0 0 3
        rw [c_w03]
        exact ht
    · refine ⟨c_send x 7 n s t, r_send y 7 n s t, fun yy Q hQ => ?_, fun xx Q hQ => ?_, JJ_send (by omega) hn hs ht (by omega) h⟩
      · exact goC yy Q (w_X3_finishCommit_i ⟨t, ht10, rfl, pr_f (fun z => st (p3.mp z)) (sC_send (JJ_cnt h).1 hQ)⟩)
      · exact w_X5_hear_i (br_f (by decide) (br_f (by decide) (br_f (by decide) (br_f (by decide) (br_t rfl ⟨4 * t + n, i40, ei, pr_f (fun z => st (q3.mp z)) (sR_send (JJ_cnt h).2 hQ)⟩)))))
  · -- ABORT
    have q0 : nI (y 29 0 (4 * t + n)) = 0 ↔ x 4 n t = 0 := by rw [← e4]; exact pr_eq0 (by omega)
    by_cases st : x 4 n t = 0
    · refine ⟨x, y, fun yy Q hQ => ?_, fun xx Q hQ => ?_, h⟩
      · exact w_X0_hear_i (br_f (by decide) (br_f (by decide) (br_f (by decide) (br_f (by decide) (br_f (by decide) (br_t rfl ⟨n, hn, rfl, sC_abort ht10 b4 hl60 (fun _ => hQ) (fun z => absurd st z)⟩))))))
      · exact w_X5_hear_i (br_f (by decide) (br_f (by decide) (br_f (by decide) (br_f (by decide) (br_f (by decide) (br_t rfl ⟨4 * t + n, i40, ei, br_t (q0.mpr st) hQ⟩))))))
    · obtain ⟨hl, hj⟩ := JJ_abort hn ht10 st h
      refine ⟨_, _, fun yy Q hQ => ?_, fun xx Q hQ => ?_, hj⟩
      · exact w_X0_hear_i (br_f (by decide) (br_f (by decide) (br_f (by decide) (br_f (by decide) (br_f (by decide) (br_t rfl ⟨n, hn, rfl, sC_abort ht10 b4 hl60 (fun z => absurd z st) (fun _ => hQ)⟩))))))
      · exact w_X5_hear_i (br_f (by decide) (br_f (by decide) (br_f (by decide) (br_f (by decide) (br_f (by decide) (br_t rfl ⟨4 * t + n, i40, ei, br_f (fun z => st (q0.mp z)) (sR_giveUp hn ht10 (by omega) ob hQ)⟩))))))
  · -- ACK
    obtain ⟨X, Y, hX, hY, hJ⟩ := sim_ack hs ht h
    exact ⟨X, Y, fun yy Q hQ => w_X0_hear_i (br_f (by decide) (br_f (by decide) (br_f (by decide) (br_f (by decide) (br_f (by decide) (br_f (by decide) (br_t rfl (hX yy Q hQ)))))))), fun xx Q hQ => w_X5_hear_i (br_f (by decide) (br_f (by decide) (br_f (by decide) (br_f (by decide) (br_f (by decide) (br_f (by decide) (br_t rfl (hY xx Q hQ)))))))), hJ⟩
  · -- INQUIRY
    have p3 : nI (x 9 t 1) = nI 3 ↔ x 9 t 1 = 3 := pr_eq (by omega) (by omega)
    have q3 : nI (y 24 0 t) = nI 3 ↔ x 9 t 1 = 3 := by rw [← c2]; exact p3
    have p0 : nI (x 9 t 1) = 0 ↔ x 9 t 1 = 0 := pr_eq0 (by omega)
    have q0 : nI (y 24 0 t) = 0 ↔ x 9 t 1 = 0 := by rw [← c2]; exact p0
    have goC : ∀ (yy : am_N) (Q : am_M → Prop), w_X0_hearInquiry (x, yy) (nI s) (nI n) (nI t) (fun M14 => Q M14) → w_X0_hear (x, yy) (nI 8) (nI s) (nI n) (nI t) Q := fun yy Q g => w_X0_hear_i (br_f (by decide) (br_f (by decide) (br_f (by decide) (br_f (by decide) (br_f (by decide) (br_f (by decide) (br_f (by decide) (br_t rfl g))))))))
    by_cases s3 : x 9 t 1 = 3
    · refine ⟨c_send x 5 n s t, r_send y 5 n s t, fun yy Q hQ => ?_, fun xx Q hQ => ?_, JJ_send (by omega) hn hs ht (by omega) h⟩
      · exact goC yy Q (w_X0_hearInquiry_i ⟨t, ht10, rfl, pr_t (p3.mpr s3) (sC_send (JJ_cnt h).1 hQ)⟩)
      · exact w_X5_hear_i (br_f (by decide) (br_f (by decide) (br_f (by decide) (br_f (by decide) (br_f (by decide) (br_f (by decide) (br_f (by decide) ⟨t, ht10, rfl, br_t (q3.mpr s3) ⟨t, ht10, rfl, pr_t (q3.mpr s3) (sR_send (JJ_cnt h).2 hQ)⟩⟩)))))))
    · by_cases s0 : x 9 t 1 = 0
      · refine ⟨c_send x 6 n s t, r_send y 6 n s t, fun yy Q hQ => ?_, fun xx Q hQ => ?_, JJ_send (by omega) hn hs ht (by omega) h⟩
        · exact goC yy Q (w_X0_hearInquiry_i ⟨t, ht10, rfl, pr_f (fun z => s3 (p3.mp z)) (pr_t (p0.mpr s0) (sC_send (JJ_cnt h).1 hQ))⟩)
        · exact w_X5_hear_i (br_f (by decide) (br_f (by decide) (br_f (by decide) (br_f (by decide) (br_f (by decide) (br_f (by decide) (br_f (by decide) ⟨t, ht10, rfl, br_f (fun z => s3 (q3.mp z)) ⟨t, ht10, rfl, pr_t (q0.mpr s0) ⟨t, ht10, rfl, pr_f (fun z => s3 (q3.mp z)) (sR_send (JJ_cnt h).2 hQ)⟩⟩⟩)))))))
      · refine ⟨x, y, fun yy Q hQ => ?_, fun xx Q hQ => ?_, h⟩
        · exact goC yy Q (w_X0_hearInquiry_i ⟨t, ht10, rfl, pr_f (fun z => s3 (p3.mp z)) (pr_f (fun z => s0 (p0.mp z)) hQ)⟩)
        · exact w_X5_hear_i (br_f (by decide) (br_f (by decide) (br_f (by decide) (br_f (by decide) (br_f (by decide) (br_f (by decide) (br_f (by decide) ⟨t, ht10, rfl, br_f (fun z => s3 (q3.mp z)) ⟨t, ht10, rfl, pr_f (fun z => s0 (q0.mp z)) hQ⟩⟩)))))))
theorem op_deliver {x y : am_N} (h : JJ (x, y)) (a : Int32) : w_X0_deliver (x, y) a (fun r M1 => w_X5_deliver M1 a (fun r2 M2 => r = r2 ∧ JJ M2)) := by
  obtain ⟨v1, v2, v3, v4, v6, v7, -⟩ := (show VV x from h.1)
  obtain ⟨r1, r2, r3, -⟩ := (show RR x y from h.2)
  have hB := v1.2
  have e := r1.2
  rcases pr_cs a (B := x 1 0 1) (by omega) with ha | ⟨k, hk, rfl⟩
  · refine w_X0_deliver_i (sC_has_f ha (pr_t (by decide) ?_))
    refine w_X5_deliver_i ⟨fun _ => ⟨rfl, h⟩, fun q => ⟨fun q2 => ?_, fun _ => ⟨rfl, h⟩⟩⟩
    exact ha.elim (fun z => absurd z q) (fun z => absurd q2 (pr_ge (show nI (y 20 0 16) ≤ a by rw [← e]; exact z)))
  · have hk40 : k < 40 := by omega
    obtain ⟨g1, g2, g3, g4, g5, g6⟩ := v7 k hk
    obtain ⟨m0, m1, m2, m3⟩ := r2 k hk
    have hj := JJ_take hk h
    have up := r3 _ g4
    have u3 := v3 _ g4
    -- the reference from any memory of the class
    have ref : ∀ (xx : am_N) (Q : Int32 → am_M → Prop), ((¬ nI (y 21 0 (x 2 2 k)) = 0 → Q (nI (x 2 0 k)) (xx, r_take y k)) ∧ (nI (y 21 0 (x 2 2 k)) = 0 → w_X5_hear (xx, r_take y k) (nI (x 2 0 k)) (nI (x 2 1 k)) (nI (x 2 2 k)) (nI (x 2 3 k)) (fun M11 => Q (nI (x 2 0 k)) M11))) → w_X5_deliver (xx, y) (nI k) Q := by
      intro xx Q hQ
      rw [m0, m1, m2, m3] at hQ
      refine w_X5_deliver_i ⟨fun q => absurd q (nI_pos (by omega)), fun _ => br_t (nI_lt (show k < y 20 0 16 by omega) (show y 20 0 16 < 2 ^ 31 by omega)) ⟨k, hk40, rfl, k, hk40, rfl, k, hk40, rfl, k, hk40, rfl, ?_⟩⟩
      exact sR_take (by omega) (by omega) ⟨y 38 0 k, by omega, rfl, hQ⟩
    refine w_X0_deliver_i (sC_has_t hk hB (pr_f (by decide) ⟨0, by decide, rfl, k, hk40, rfl, 1, by decide, rfl, k, hk40, rfl, 2, by decide, rfl, k, hk40, rfl, 3, by decide, rfl, k, hk40, rfl, ?_⟩))
    refine sC_take hk hB ⟨x 2 2 k, g4, rfl, fun q => ?_, fun q => ?_⟩
    · have q : x 3 (x 2 2 k) 0 = 0 := (pr_eq0 (show x 3 (x 2 2 k) 0 < 1000 by omega)).mp q
      refine ref _ _ (pr_f (fun z => ?_) ⟨rfl, hj⟩)
      have := (pr_eq0 (show y 21 0 (x 2 2 k) < 1000 by omega)).mp z
      omega
    · have q : ¬ x 3 (x 2 2 k) 0 = 0 := fun z => q (by show nI (x 3 (x 2 2 k) 0) = 0; rw [z]; rfl)
      obtain ⟨X, Y, hX, hY, hJ⟩ := sim_hear (x := c_take x k) ⟨g1, g2⟩ g3 g4 g5 (show x 3 (x 2 2 k) 0 = 1 by omega) g6 hj
      refine hX _ _ (ref _ _ (pr_t ?_ (hY _ _ ⟨rfl, hJ⟩)))
      exact (pr_eq0 (by omega)).mpr (by omega)
theorem op_expire {x y : am_N} (h : JJ (x, y)) (a b c : Int32) : w_X0_expire (x, y) a b c (fun r M1 => w_X5_expire M1 a b c (fun r2 M2 => r = r2 ∧ JJ M2)) := by
  obtain ⟨v1, v2, v3, v4, v6, v7, v8, v9, v10, v11, v12, v13, v14⟩ := (show VV x from h.1)
  obtain ⟨r1, r2, r3, r4, r5, r6, r7, r8, r9, r10, r11⟩ := (show RR x y from h.2)
  have hB := v1.1
  have e := r1.1
  rcases pr_cs a (B := 4) (by decide) with ha | ⟨n, hn, rfl⟩
  · refine w_X0_expire_i (sC_isNode_f ha (br_t (by decide) ?_))
    exact w_X5_expire_i (sR_noNode_f ha (pr_f (by decide) ⟨rfl, h⟩))
  · refine w_X0_expire_i (sC_isNode_t hn (br_f (by decide) ?_))
    rcases pr_cs b (B := x 0 0 3) (by omega) with hb | ⟨t, ht, rfl⟩
    · refine sC_isTx_f hb (pr_t (by decide) ?_)
      exact w_X5_expire_i (sR_noNode_t hn (pr_t (by decide) (sR_noWork_f (show b < 0 ∨ nI (y 20 0 2) ≤ b by rw [← e]; exact hb) (pr_f (by decide) ⟨rfl, h⟩))))
    · have ht10 : t < 10 := by omega
      have f1 : t < y 20 0 2 := by omega
      have f2 : y 20 0 2 ≤ 10 := by omega
      obtain ⟨w1, w2, w3, w4, w5, w6⟩ := v2 t ht10
      obtain ⟨k1, k2⟩ := r7 t ht10
      obtain ⟨b4, b5⟩ := v4 n t hn ht10
      have e4 := r4 n t hn ht10
      have g3 := r3 n hn
      have u3 := v3 n hn
      have i40 : 4 * t + n < 40 := by omega
      have ei : nI 4 * nI t + nI n = nI (4 * t + n) := by rw [pk_mul, nI_add]
      have hl60 := (v8 n hn).1
      have elen := (r6 n hn).1
      have ob : ∀ c, c < 32 → y 30 0 c < 1000 := fun c hc => by have := r5.2 c hc; omega
      have pc : nI (x 9 t 0) = nI n ↔ x 9 t 0 = n := pr_eq (by omega) (by omega)
      have ps : ∀ k, k < 4 → (nI (x 4 n t) = nI k ↔ x 4 n t = k) := fun k hk => pr_eq (by omega) (by omega)
      have ps0 : nI (x 4 n t) = 0 ↔ x 4 n t = 0 := pr_eq0 (by omega)
      have pg : ∀ k, k < 4 → (nI (x 9 t 1) = nI k ↔ x 9 t 1 = k) := fun k hk => pr_eq (by omega) (by omega)
      -- the reference as far as its own second half
      have ref : ∀ (xx : am_N) (Q : Int32 → am_M → Prop), ((c = 0 → x 9 t 0 ≠ n → Q (-2) (xx, y)) ∧ ((c = 0 → x 9 t 0 = n) → w_X5_expire_J32 (xx, y) (nI n) (nI t) c Q)) → w_X5_expire (xx, y) (nI n) (nI t) c Q := by
        intro xx Q hQ
        refine w_X5_expire_i (sR_noNode_t hn (pr_t (by decide) (sR_noWork_t f1 f2 (pr_t (by decide) ⟨fun z => hQ.2 (fun z2 => absurd z2 z), fun z => ⟨t, ht10, rfl, ?_⟩⟩))))
        show ((nI (y 23 0 t) = nI n → _) ∧ (¬ nI (y 23 0 t) = nI n → _))
        rw [← k1]
        exact ⟨fun z2 => hQ.2 (fun _ => pc.mp z2), fun z2 => hQ.1 z (fun z3 => z2 (pc.mpr z3))⟩
      have j32 : ∀ (xx : am_N) (Q : Int32 → am_M → Prop), ((x 3 n 0 = 0 → Q (-3) (xx, y)) ∧ (x 3 n 0 = 1 → ((c = 0 → ((¬ nI (x 9 t 1) = (nI 2) → ((¬ nI (x 9 t 1) = (nI 3) → w_X5_expire_J148 (xx, y) (nI n) (nI t) c (nI (x 4 n t)) (nI (x 9 t 1)) Q) ∧ (nI (x 9 t 1) = (nI 3) → w_X5_sendDue (xx, y) (nI t) (fun M20 => w_X5_expire_J148 M20 (nI n) (nI t) c (nI (x 4 n t)) (nI (x 9 t 1)) Q)))) ∧ (nI (x 9 t 1) = (nI 2) → w_X5_pullBack (xx, y) (nI t) (-1) (fun _ M21 => w_X5_expire_J148 M21 (nI n) (nI t) c (nI (x 4 n t)) (nI (x 9 t 1)) Q)))) ∧ (¬ c = 0 → ((nI (x 4 n t) = (nI 1) → w_X5_giveUp (xx, y) (nI n) (nI t) (fun M23 => w_X5_expire_J101 M23 (nI n) (nI t) c (nI (x 4 n t)) Q)) ∧ (¬ nI (x 4 n t) = (nI 1) → ((¬ nI (x 4 n t) = (nI 2) → ((¬ nI (x 4 n t) = (nI 3) → w_X5_expire_J101 (xx, y) (nI n) (nI t) c (nI (x 4 n t)) Q) ∧ (nI (x 4 n t) = (nI 3) → w_X5_send (xx, y) (nI 8) (nI n) (nI (x 9 t 0)) (nI t) (fun M30 => w_X5_expire_J101 M30 (nI n) (nI t) c (nI (x 4 n t)) Q)))) ∧ (nI (x 4 n t) = (nI 2) → w_X5_giveUp (xx, y) (nI n) (nI t) (fun M31 => w_X5_expire_J101 M31 (nI n) (nI t) c (nI (x 4 n t)) Q)))))))) ) → w_X5_expire_J32 (xx, y) (nI n) (nI t) c Q := by
        intro xx Q hQ
        have d1 : (nI (y 21 0 n) = 0) ↔ x 3 n 0 = 1 := by rw [pr_eq0 (by omega)]; omega
        refine w_X5_expire_J32_i ⟨n, hn, rfl, fun z => ?_, fun z => hQ.1 ?_⟩
        · have z : nI (y 21 0 n) = 0 := z
          have g := hQ.2 (d1.mp z)
          rw [e4, k2, k1] at g
          exact ⟨4 * t + n, i40, ei, fun z2 => ⟨t, ht10, rfl, g.1 z2⟩, fun z2 => ⟨(g.2 z2).1, fun z3 => ⟨fun z4 => ⟨(((g.2 z2).2 z3).1 z4).1, fun z5 => ⟨t, ht10, rfl, (((g.2 z2).2 z3).1 z4).2 z5⟩⟩, ((g.2 z2).2 z3).2⟩⟩⟩
        · have z : ¬ nI (y 21 0 n) = 0 := z
          rw [d1] at z
          omega
      have main : (c = 0 → x 9 t 0 = n) → w_X0_expire_J38 (x, y) (nI n) (nI t) c (fun r M1 => w_X5_expire M1 (nI n) (nI t) c (fun r2 M2 => r = r2 ∧ JJ M2)) := by
        intro hcn
        have rf : ∀ (xx : am_N) (Q : Int32 → am_M → Prop), w_X5_expire_J32 (xx, y) (nI n) (nI t) c Q → w_X5_expire (xx, y) (nI n) (nI t) c Q := fun xx Q g => ref xx Q ⟨fun z z2 => absurd (hcn z) z2, fun _ => g⟩
        have J101n : ∀ (M : am_M) (Q : Int32 → am_M → Prop), x 4 n t ≠ 0 → Q (nI 1) M → w_X5_expire_J101 M (nI n) (nI t) c (nI (x 4 n t)) Q := fun M Q z hQ => w_X5_expire_J101_i (pr_f (fun z2 => z (ps0.mp z2)) hQ)
        have J148y : ∀ (M : am_M) (Q : Int32 → am_M → Prop), 2 ≤ x 9 t 1 → Q (nI 1) M → w_X5_expire_J148 M (nI n) (nI t) c (nI (x 4 n t)) (nI (x 9 t 1)) Q := fun M Q z hQ => w_X5_expire_J148_i (br_t (nI_le z (by omega)) hQ)
        refine w_X0_expire_J38_i ⟨n, hn, rfl, fun q => ?_, fun q => ?_⟩
        · have up : x 3 n 0 = 1 := by
            have : ¬ x 3 n 0 = 0 := fun z => q (by show nI (x 3 n 0) = 0; rw [z]; rfl)
            omega
          refine ⟨fun hc => ?_, fun hc => ?_⟩
          · -- as the coordinator
            have d2 := (pg 2 (by decide))
            have d3 := (pg 3 (by decide))
            refine w_X0_expireAsCoordinator_i ⟨t, ht10, rfl, fun z2 => ⟨fun z3 => ?_, fun z3 => ?_⟩, fun z2 => ?_⟩
            · have z2 : ¬ x 9 t 1 = 2 := fun z => z2 (d2.mpr z)
              have z3 : ¬ x 9 t 1 = 3 := fun z => z3 (d3.mpr z)
              refine rf _ _ (j32 _ _ ⟨fun z => by omega, fun _ => br_t hc (pr_f (fun z => z2 (d2.mp z)) (pr_f (fun z => z3 (d3.mp z)) (w_X5_expire_J148_i (br_f (nI_ge (by omega) (by decide)) ⟨rfl, h⟩))))⟩)
            · have z3 : x 9 t 1 = 3 := d3.mp z3
              have hq : ∀ i, i < 4 → (x 9 t 5).testBit i = r_pd y 28 t i := fun i hi => (r11 t i ht10 hi).1
              have hj : JJ (c_each x 5 (x 9 t 0) t (x 9 t 5).testBit, r_each y 5 (y 23 0 t) t (r_pd y 28 t)) := by
                rw [← k1]
                exact JJ_mk (VV_each (by omega) w1 ht (by omega) h.1) (RR_each hq h.2)
              refine sC_each w6 v1.2 (rf _ _ (j32 _ _ ⟨fun z => by omega, fun _ => br_t hc (pr_f (fun z => by have := d2.mp z; omega) (pr_t (d3.mpr z3) (sR_due ht10 (JJ_cnt h).2 (fun i hi => by have := (r11 t i ht10 hi).2; omega) (J148y _ _ (by omega) ⟨rfl, hj⟩))))⟩))
            · have z2 : x 9 t 1 = 2 := d2.mp z2
              obtain ⟨j1, j2⟩ := JJ_give (sp := 0) (bt := -1) ht (Or.inr z2) (fun i hi => by
                have h4 : i = 0 ∨ i = 1 ∨ i = 2 ∨ i = 3 := by omega
                rcases h4 with rfl | rfl | rfl | rfl <;> decide) h
              refine sC_giveUp ht10 w1 w3 w5 (by decide) (v8 _ w1).1 v1.2 (rf _ _ (j32 _ _ ⟨fun z => by omega, fun _ => br_t hc (pr_t (d2.mpr z2) (sR_pull ht10 (by omega) ?_ (JJ_cnt h).2 (fun i hi => by have := (r8 t i ht10 hi).2; omega) (fun i hi => by have := (r10 t i ht10 hi).2; omega) (J148y _ _ (by omega) ⟨rfl, j2⟩)))⟩))
              have aa := (v8 _ w1).1
              have bb := (r6 _ w1).1
              rw [← k1]
              omega
          · -- as a member
            refine w_X0_expireAsMember_i ⟨n, hn, rfl, t, ht10, rfl, fun z => ⟨t, ht10, rfl, fun z3 => ?_, fun z3 => ⟨t, ht10, rfl, ?_⟩⟩, fun z => ?_⟩
            · have z : ¬ x 4 n t = 0 := fun w => z (ps0.mpr w)
              have z3 : ¬ x 4 n t = 3 := fun w => z3 ((ps 3 (by decide)).mpr w)
              obtain ⟨hl, hj⟩ := JJ_abort hn ht10 z h
              refine sC_abort ht10 b4 hl60 (fun w => absurd w z) (fun _ => rf _ _ (j32 _ _ ⟨fun w => by omega, fun _ => br_f hc ?_⟩))
              refine ⟨fun _ => sR_giveUp hn ht10 (by omega) ob (J101n _ _ z ⟨rfl, hj⟩), fun z1 => ⟨fun z2 => ?_, fun _ => sR_giveUp hn ht10 (by omega) ob (J101n _ _ z ⟨rfl, hj⟩)⟩⟩
              have z1 : ¬ x 4 n t = 1 := fun w => z1 ((ps 1 (by decide)).mpr w)
              have z2 : ¬ x 4 n t = 2 := fun w => z2 ((ps 2 (by decide)).mpr w)
              omega
            · have z3 : x 4 n t = 3 := (ps 3 (by decide)).mp z3
              have z : ¬ x 4 n t = 0 := by omega
              have hj := JJ_send (k := 8) (by omega) hn w1 ht (by omega) h
              have n1 : ¬ nI (x 4 n t) = nI 1 := fun w => by have := (ps 1 (by decide)).mp w; omega
              have n2 : ¬ nI (x 4 n t) = nI 2 := fun w => by have := (ps 2 (by decide)).mp w; omega
              exact sC_send (JJ_cnt h).1 (rf _ _ (j32 _ _ ⟨fun w => by omega, fun _ => br_f hc (br_f n1 (pr_f n2 (pr_t ((ps 3 (by decide)).mpr z3) (sR_send (JJ_cnt h).2 (J101n _ _ z ⟨rfl, hj⟩)))))⟩))
            · have z : x 4 n t = 0 := ps0.mp z
              have nk : ∀ k, k < 4 → k ≠ 0 → ¬ nI (x 4 n t) = nI k := fun k hk hk0 w => by have := (ps k hk).mp w; omega
              exact rf _ _ (j32 _ _ ⟨fun w => by omega, fun _ => br_f hc (br_f (nk 1 (by decide) (by decide)) (pr_f (nk 2 (by decide) (by decide)) (pr_f (nk 3 (by decide) (by decide)) (w_X5_expire_J101_i (pr_t (ps0.mpr z) ⟨rfl, h⟩)))))⟩)
        · have q : x 3 n 0 = 0 := (pr_eq0 (by omega)).mp q
          exact rf _ _ (j32 _ _ ⟨fun _ => ⟨rfl, h⟩, fun z => by omega⟩)
      refine sC_isTx_t ht hB (pr_f (by decide) ⟨fun z => main (fun z2 => absurd z2 z), fun z => ⟨t, ht10, rfl, fun z2 => main (fun _ => pc.mp z2), fun z2 => ?_⟩⟩)
      exact ref _ _ ⟨fun _ _ => ⟨rfl, h⟩, fun z3 => absurd (pc.mpr (z3 z)) z2⟩
