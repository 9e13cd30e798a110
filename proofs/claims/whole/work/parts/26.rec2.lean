/-! coming back: the whole of it -/
/-- n as it was -/
def c_dn (x0 : am_N) (n : Nat) (X : am_N) : am_N := fun a b c => if (a = 3 ∨ a = 4 ∨ a = 5) ∧ b = n then x0 a b c else X a b c
theorem c_dn_u {x0 X : am_N} {n a b k v : Nat} (h3 : a ≠ 3) (h4 : a ≠ 4) (h5 : a ≠ 5) : c_dn x0 n (am_u X a b k v) = am_u (c_dn x0 n X) a b k v := by
  funext p q r
  unfold c_dn am_u
  by_cases z : p = a ∧ q = b ∧ r = k
  · rw [if_pos z, if_pos z, if_neg (by omega)]
  · rw [if_neg z, if_neg z]
theorem c_dn_n {x0 X : am_N} {n a k v : Nat} (h : a = 3 ∨ a = 4 ∨ a = 5) : c_dn x0 n (am_u X a n k v) = c_dn x0 n X := by
  funext p q r
  unfold c_dn am_u
  by_cases z : (p = 3 ∨ p = 4 ∨ p = 5) ∧ q = n
  · rw [if_pos z, if_pos z]
  · rw [if_neg z, if_neg z, if_neg (by omega)]
theorem c_dn_send {x0 X : am_N} {n k s r t : Nat} : c_dn x0 n (c_send X k s r t) = c_send (c_dn x0 n X) k s r t := by
  have e : (c_dn x0 n X) 1 0 1 = X 1 0 1 := if_neg (by omega)
  unfold c_send
  rw [e]
  split
  · rw [c_dn_u (by decide) (by decide) (by decide), c_dn_u (by decide) (by decide) (by decide), c_dn_u (by decide) (by decide) (by decide), c_dn_u (by decide) (by decide) (by decide), c_dn_u (by decide) (by decide) (by decide)]
  · rfl
theorem c_dn_e {x0 X : am_N} {n k s t m : Nat} {p : Nat → Bool} : c_dn x0 n (c_e k s t p X m) = c_e k s t p (c_dn x0 n X) m := by
  unfold c_e
  split
  · exact c_dn_send
  · rfl
theorem c_dn_each {x0 X : am_N} {n k s t : Nat} {p : Nat → Bool} : c_dn x0 n (c_each X k s t p) = c_each (c_dn x0 n X) k s t p := by
  unfold c_each
  rw [c_dn_e, c_dn_e, c_dn_e, c_dn_e]
theorem c_dn_rc {x0 X : am_N} {n t w : Nat} : c_dn x0 n (c_rc X t w) = c_rc (c_dn x0 n X) t w := by
  unfold c_rc
  rw [c_dn_u (by decide) (by decide) (by decide), c_dn_u (by decide) (by decide) (by decide), c_dn_u (by decide) (by decide) (by decide), c_dn_u (by decide) (by decide) (by decide)]
theorem c_dn_0 {x : am_N} {n v : Nat} : c_dn x n (am_u x 3 n 0 v) = x := by
  rw [c_dn_n (by omega)]
  funext p q r
  unfold c_dn
  split <;> rfl
def und (x : am_N) (n t : Nat) : Prop := hr x n (10 * t + 1) ∧ ¬ hr x n (10 * t + 2) ∧ ¬ hr x n (10 * t + 3)
def IA (x0 : am_N) (n k : Nat) (X Y : am_N) : Prop := VV (c_dn x0 n X) ∧ RR X Y ∧ X 3 n 0 = 1 ∧ ∀ t, t < 10 → ((t < k ∧ und X n t) → X 4 n t = 3 ∧ ∀ i, i < X 6 n 2 → X 7 n i = 10 * t + 1 → X 5 n t = X 8 n i) ∧ (¬ (t < k ∧ und X n t) → X 4 n t = x0 4 n t ∧ X 5 n t = 0)
theorem RR_hold {x y : am_N} {n t w : Nat} (hn : n < 4) (ht : t < 10) (h0 : x 5 n t = 0) (hd : ∀ u, u < 10 → u ≠ t → ∀ r, r < 8 → w.testBit r = true → (x 5 n u).testBit r = false) (h : RR x y) : RR (am_u x 5 n t w) (r_rh y n t w 8) := by
  obtain ⟨r1, r2, r3, r4, r5, r6, r7, r8, r9, r10, r11⟩ := h
  refine ⟨r1, r2, r3, r4, ⟨?_, ?_⟩, r6, r7, r8, r9, r10, r11⟩
  · intro m u r hm hu hr
    have g := r5.1 m u r hm hu hr
    by_cases q : m = n
    · subst q
      have e : 8 * m + r - 8 * m = r := by omega
      by_cases q2 : u = t
      · subst q2
        have n0 : ¬ y 30 0 (8 * m + r) = u + 1 := by
          rw [h0, Nat.zero_testBit] at g
          exact of_decide_eq_false g.symm
        cases b : w.testBit r <;> simp [am_u, r_rh, b, hr, n0]
      · have g2 := hd u hu q2 r hr
        cases b : w.testBit r
        · simpa [am_u, r_rh, b, q2] using g
        · have ne : ¬ t = u := fun z => q2 z.symm
          simp [am_u, r_rh, b, hr, q2, ne, g2 b]
    · have c1 : ¬ (8 * n ≤ 8 * m + r ∧ 8 * m + r < 8 * n + 8 ∧ w.testBit (8 * m + r - 8 * n) = true) := by omega
      simpa [am_u, r_rh, q, c1] using g
  · intro c hc
    have g := r5.2 c hc
    unfold r_rh
    split <;> omega
theorem sim_rp {x0 X Y : am_N} {n k : Nat} (hn : n < 4) (hk : k < X 0 0 3) (h : IA x0 n k X Y) :
    ∃ r X' Y', r < 2 ∧ (∀ (yy : am_N) (Q : Int32 → am_M → Prop), Q (nI r) (X', yy) → w_X3_restorePrepared (X, yy) n (nI k) Q) ∧ (∀ (xx : am_N) (Q : Int32 → am_M → Prop), Q (nI r) (xx, Y') → w_X5_recoverMember (xx, Y) (nI n) (nI k) Q) ∧ X' 0 0 3 = X 0 0 3 ∧ IA x0 n (k + 1) X' Y' := by
  obtain ⟨hV, hR, hup, hD⟩ := h
  obtain ⟨v1, v2, v3, v4, v6, v7, v8, v9, v10, v11, v12, v13, v14⟩ := (show VV (c_dn x0 n X) from hV)
  have v1 : V1 X := v1
  have v8 : V8 X := v8
  have v9 : V9 X := v9
  have v13 : V13 X := v13
  obtain ⟨r1, r2, r3, r4, r5, r6, r7, r8, r9, r10, r11⟩ := (show RR X Y from hR)
  have hB := v1.1
  have hk10 : k < 10 := by omega
  obtain ⟨l1, l2, l3⟩ := v8 n hn
  -- nothing to be done
  have stay : ¬ und X n k → IA x0 n (k + 1) X Y := by
    intro nu
    refine ⟨hV, hR, hup, fun t ht => ?_⟩
    have g := hD t ht
    by_cases q : t = k
    · subst q
      exact ⟨fun z => absurd z.2 nu, fun _ => g.2 (fun z => by omega)⟩
    · exact ⟨fun z => g.1 ⟨by omega, z.2⟩, fun z => g.2 (fun z2 => z ⟨by omega, z2.2⟩)⟩
  rcases fnd (kd := 1) hn hk10 (by decide) hB v8 v9 r6 with ⟨p, hp, ep, fc, fr⟩ | ⟨nh, fc, fr⟩
  · have f1 : ¬ nI p = -1 := pr_nm1 (by omega)
    have f2 : ¬ nI (64 * n + p) < 0 := nI_pos (by omega)
    rcases fnd (kd := 2) hn hk10 (by decide) hB v8 v9 r6 with ⟨p2, hp2, ep2, fc2, fr2⟩ | ⟨nh2, fc2, fr2⟩
    · have f3 : ¬ nI p2 = -1 := pr_nm1 (by omega)
      have f4 : (0 : Int32) ≤ nI (64 * n + p2) := by rw [← nI_0]; exact nI_le (by omega) (by omega)
      refine ⟨0, X, Y, by decide, fun yy Q hQ => w_X3_restorePrepared_i (fc _ _ (br_f f1 (fc2 _ _ (pr_f f3 hQ)))), fun xx Q hQ => w_X5_recoverMember_i (fr _ _ (br_f f2 (fr2 _ _ (br_t f4 hQ)))), rfl, stay (fun z => z.2.1 ⟨p2, hp2, ep2⟩)⟩
    · rcases fnd (kd := 3) hn hk10 (by decide) hB v8 v9 r6 with ⟨p3, hp3, ep3, fc3, fr3⟩ | ⟨nh3, fc3, fr3⟩
      · have f3 : ¬ nI p3 = -1 := pr_nm1 (by omega)
        have f4 : ¬ nI (64 * n + p3) < 0 := nI_pos (by omega)
        refine ⟨0, X, Y, by decide, fun yy Q hQ => w_X3_restorePrepared_i (fc _ _ (br_f f1 (fc2 _ _ (pr_t rfl (fc3 _ _ (br_f f3 hQ)))))), fun xx Q hQ => w_X5_recoverMember_i (fr _ _ (br_f f2 (fr2 _ _ (br_f (by decide) (fr3 _ _ (br_f f4 hQ)))))), rfl, stay (fun z => z.2.2 ⟨p3, hp3, ep3⟩)⟩
      · have hu : und X n k := ⟨⟨p, hp, ep⟩, nh2, nh3⟩
        have hw : X 8 n p < 256 := (l3 p hp).2.2.2.1 (by omega)
        have e34 : Y 34 0 (64 * n + p) = X 8 n p := ((r6 n hn).2.2 p hp).2.2.1.symm
        have h50 : X 5 n k = 0 := ((hD k hk10).2 (fun z => by omega)).2
        have un : ∀ j, j < X 6 n 2 → X 7 n j = 10 * k + 1 → j = p := fun j hj ej => by
          by_cases l : j < p
          · exact absurd (ej.trans ep.symm) (v9 n hn j p l hp)
          · by_cases l2 : p < j
            · exact absurd (ep.trans ej.symm) (v9 n hn p j l2 hj)
            · omega
        refine ⟨1, am_u (am_u X 4 n k 3) 5 n k (X 8 n p), r_rh (am_u Y 29 0 (4 * k + n) 3) n k (X 8 n p) 8, by decide, fun yy Q hQ => w_X3_restorePrepared_i (fc _ _ (br_f f1 (fc2 _ _ (pr_t rfl (fc3 _ _ (br_t rfl ⟨k, 3, hk10, rfl, rfl, p, by omega, rfl, k, X 8 n p, hk10, rfl, rfl, hQ⟩)))))), fun xx Q hQ => w_X5_recoverMember_i (fr _ _ (br_f f2 (fr2 _ _ (br_f (by decide) (fr3 _ _ (br_t (by decide) ⟨4 * k + n, 3, by omega, by rw [pk_mul, nI_add], rfl, 9, sR_rh hn hk10 (by omega) hw e34 hQ⟩)))))), rfl, ?_⟩
        refine ⟨?_, RR_hold hn hk10 h50 ?_ (RR_state hn hR), hup, ?_⟩
        · rw [c_dn_n (by omega), c_dn_n (by omega)]
          exact hV
        · intro u hu2 hne r hr hb
          show (X 5 n u).testBit r = false
          have g := hD u hu2
          by_cases q : u < k ∧ und X n u
          · obtain ⟨i, hi, ei⟩ := q.2.1
            rw [(g.1 q).2 i hi ei]
            have ip : i ≠ p := fun z => by subst z; omega
            have dz : X 8 n i &&& X 8 n p = 0 := by
              apply Classical.byContradiction
              intro nz
              by_cases l : i < p
              · obtain ⟨j, hj, ej⟩ := v13 n hn i p u k l hp ei ep nz
                rcases ej with ej | ej
                · exact q.2.2.1 ⟨j, by omega, ej⟩
                · exact q.2.2.2 ⟨j, by omega, ej⟩
              · rw [Nat.and_comm] at nz
                obtain ⟨j, hj, ej⟩ := v13 n hn p i k u (by omega) hi ep ei nz
                rcases ej with ej | ej
                · exact nh2 ⟨j, by omega, ej⟩
                · exact nh3 ⟨j, by omega, ej⟩
            have tb : (X 8 n i &&& X 8 n p).testBit r = false := by rw [dz, Nat.zero_testBit]
            rw [Nat.testBit_and, hb, Bool.and_true] at tb
            exact tb
          · rw [(g.2 q).2, Nat.zero_testBit]
        · intro t ht
          have g := hD t ht
          have s4 : (am_u (am_u X 4 n k 3) 5 n k (X 8 n p)) 4 n t = if t = k then 3 else X 4 n t := by simp [am_u]
          have s5 : (am_u (am_u X 4 n k 3) 5 n k (X 8 n p)) 5 n t = if t = k then X 8 n p else X 5 n t := by simp [am_u]
          rw [s4, s5]
          by_cases q : t = k
          · subst q
            rw [if_pos rfl, if_pos rfl]
            refine ⟨fun _ => ⟨rfl, fun i hi ei => ?_⟩, fun z => absurd ⟨by omega, hu⟩ z⟩
            have := un i hi ei
            subst this
            rfl
          · rw [if_neg q, if_neg q]
            exact ⟨fun z => g.1 ⟨by omega, z.2⟩, fun z => g.2 (fun z2 => z ⟨by omega, z2.2⟩)⟩
  · exact ⟨0, X, Y, by decide, fun yy Q hQ => w_X3_restorePrepared_i (fc _ _ (br_t rfl hQ)), fun xx Q hQ => w_X5_recoverMember_i (fr _ _ (br_t (by decide) hQ)), rfl, stay (fun z => nh z.1)⟩
theorem sim_rc {x0 X Y : am_N} {n k t : Nat} (hn : n < 4) (ht : t < X 0 0 3) (h : IA x0 n k X Y) :
    ∃ r X' Y', r < 2 ∧ (∀ (yy : am_N) (Q : Int32 → am_M → Prop), Q (nI r) (X', yy) → w_X0_restoreCommitting (X, yy) (nI n) (nI t) Q) ∧ (∀ (xx : am_N) (Q : Int32 → am_M → Prop), Q (nI r) (xx, Y') → w_X5_recoverChief (xx, Y) (nI n) (nI t) Q) ∧ X' 0 0 3 = X 0 0 3 ∧ IA x0 n k X' Y' := by
  obtain ⟨hV, hR, hup, hD⟩ := h
  obtain ⟨v1, v2, v3, v4, v6, v7, v8, v9, v10, v11, v12, v13, v14⟩ := (show VV (c_dn x0 n X) from hV)
  have v1 : V1 X := v1
  have v8 : V8 X := v8
  have v9 : V9 X := v9
  obtain ⟨r1, r2, r3, r4, r5, r6, r7, r8, r9, r10, r11⟩ := (show RR X Y from hR)
  have hB := v1.1
  have ht10 : t < 10 := by omega
  obtain ⟨l1, l2, l3⟩ := v8 n hn
  rcases fnd (kd := 4) hn ht10 (by decide) hB v8 v9 r6 with ⟨p, hp, ep, fc, fr⟩ | ⟨nh, fc, fr⟩
  · have f1 : ¬ nI p = -1 := pr_nm1 (by omega)
    have f2 : ¬ nI (64 * n + p) < 0 := nI_pos (by omega)
    rcases fnd (kd := 6) hn ht10 (by decide) hB v8 v9 r6 with ⟨p2, hp2, ep2, fc2, fr2⟩ | ⟨nh2, fc2, fr2⟩
    · have f3 : ¬ nI p2 = -1 := pr_nm1 (by omega)
      have f4 : ¬ nI (64 * n + p2) < 0 := nI_pos (by omega)
      exact ⟨0, X, Y, by decide, fun yy Q hQ => w_X0_restoreCommitting_i ⟨n, hn, rfl, fc _ _ (br_f f1 (fc2 _ _ (br_f f3 hQ)))⟩, fun xx Q hQ => w_X5_recoverChief_i (fr _ _ (br_f f2 (fr2 _ _ (br_f f4 hQ)))), rfl, hV, hR, hup, hD⟩
    · have hw : X 8 n p < 16 := (l3 p hp).2.2.2.2 (by omega)
      have e34 : Y 34 0 (64 * n + p) = X 8 n p := ((r6 n hn).2.2 p hp).2.2.1.symm
      have ch : Y 23 0 t = n := by
        have a := ((r6 n hn).2.2 p hp).2.2.2.2 (by omega)
        have e : X 7 n p / 10 = t := by omega
        rw [e] at a
        exact a
      have ch9 : X 9 t 0 = n := (r7 t ht10).1.trans ch
      obtain ⟨w, ew⟩ : ∃ w, X 8 n p = w := ⟨_, rfl⟩
      rw [ew] at hw e34
      have hR2 := RR_rc (t := t) (w := w) hR
      have hq : ∀ i, i < 4 → w.testBit i = r_pd (r_rq (am_u Y 24 0 t 3) t w 4) 28 t i := fun i hi => by
        have g := (hR2.2.2.2.2.2.2.2.2.2.2 t i ht10 hi).1
        have e : (c_rc X t w) 9 t 5 = w := by simp [c_rc, am_u]
        rw [e] at g
        exact g
      have c23 : (r_rq (am_u Y 24 0 t 3) t w 4) 23 0 t = n := ch
      have c2816 : (r_rq (am_u Y 24 0 t 3) t w 4) 20 0 16 ≤ 40 := by
        show Y 20 0 16 ≤ 40
        have := v1.2
        have := r1.2
        omega
      have hb : ∀ i, i < 4 → (r_rq (am_u Y 24 0 t 3) t w 4) 28 0 (4 * t + i) < 1000 := fun i hi => by
        have := (hR2.2.2.2.2.2.2.2.2.2.2 t i ht10 hi).2
        omega
      have o : ∀ a, a ≠ 1 → a ≠ 2 → (c_each (c_rc X t w) 5 n t w.testBit) a = (c_rc X t w) a := fun a h1 h2 => c_each_o h1 h2
      refine ⟨1, c_each (c_rc X t w) 5 n t w.testBit, r_each (r_rq (am_u Y 24 0 t 3) t w 4) 5 n t (r_pd (r_rq (am_u Y 24 0 t 3) t w 4) 28 t), by decide, fun yy Q hQ => ?_, fun xx Q hQ => ?_, by rw [o 0 (by decide) (by decide)]; rfl, ?_, RR_each hq hR2, ?_, ?_⟩
      · refine w_X0_restoreCommitting_i ⟨n, hn, rfl, fc _ _ (br_f f1 (fc2 _ _ (br_t rfl ⟨p, by omega, rfl, t, ht10, rfl, 3, rfl, w, ?_, w, ?_, w, ?_, ?_⟩)))⟩
        · show nI (X 8 n p) = nI w
          rw [ew]
        · show nI (X 8 n p) = nI w
          rw [ew]
        · show nI (X 8 n p) = nI w
          rw [ew]
        · show w_X2_sendToEach (c_rc X t w, yy) (nI 5) (nI n) (nI (X 8 n p)) (nI t) (fun M14 => Q (nI 1) M14)
          rw [ew]
          exact sC_each hw v1.2 hQ
      · refine w_X5_recoverChief_i (fr _ _ (br_f f2 (fr2 _ _ (br_t (by decide) ⟨t, 3, ht10, rfl, rfl, 5, sR_rc (w := w) ht10 (by omega) hw e34 ?_⟩))))
        refine sR_due ht10 c2816 hb ?_
        rw [c23]
        exact hQ
      · rw [c_dn_each, c_dn_rc]
        have hb9 : (c_dn x0 n X) 9 t 0 = n := ch9
        have hz : VV (c_rc (c_dn x0 n X) t w) := VV_rc hw ht (by rw [hb9]; exact nh2) hV
        exact VV_each (by omega) hn ht (by omega) hz
      · rw [o 3 (by decide) (by decide)]
        exact hup
      · unfold und hr
        rw [o 4 (by decide) (by decide), o 5 (by decide) (by decide), o 6 (by decide) (by decide), o 7 (by decide) (by decide), o 8 (by decide) (by decide)]
        exact hD
  · exact ⟨0, X, Y, by decide, fun yy Q hQ => w_X0_restoreCommitting_i ⟨n, hn, rfl, fc _ _ (br_t rfl hQ)⟩, fun xx Q hQ => w_X5_recoverChief_i (fr _ _ (br_t (by decide) hQ)), rfl, hV, hR, hup, hD⟩
/-- n is up again, and all holds -/
theorem VV_up {x0 X Y : am_N} {n : Nat} (hn : n < 4) (h : IA x0 n (X 0 0 3) X Y) : VV X := by
  obtain ⟨hV, hR, hup, hD⟩ := h
  obtain ⟨v1, v2, v3, v4, v6, v7, v8, v9, v10, v11, v12, v13, v14⟩ := (show VV (c_dn x0 n X) from hV)
  have v1x : V1 X := v1
  have v8x : V8 X := v8
  have v12' : ∀ t, t < 10 → X 9 t 1 = 1 → ∀ m, m < 4 → ¬ hr X m (10 * t + 1) ∧ (c_dn x0 n X) 4 m t ≠ 3 ∧ ((X 9 t 2).testBit m = false → ¬ hr X m (10 * t + 2) ∧ ¬ hr X m (10 * t + 3) ∧ (c_dn x0 n X) 4 m t = 0) := v12
  have v10' : ∀ m t, m < 4 → t < 10 → ((c_dn x0 n X) 4 m t = 1 ∨ (c_dn x0 n X) 4 m t = 2 → ¬ hr X m (10 * t + 1) ∧ ¬ hr X m (10 * t + 2) ∧ ¬ hr X m (10 * t + 3)) ∧ ((c_dn x0 n X) 4 m t = 3 → ¬ hr X m (10 * t + 2) ∧ ¬ hr X m (10 * t + 3)) := v10
  have v14' : ∀ m, m < 4 → ((c_dn x0 n X) 3 m 0 = 1 → ∀ i t, i < X 6 m 2 → X 7 m i = 10 * t + 1 → ¬ hr X m (10 * t + 2) → ¬ hr X m (10 * t + 3) → (c_dn x0 n X) 4 m t = 3 ∧ X 8 m i = (c_dn x0 n X) 5 m t) ∧ ((c_dn x0 n X) 3 m 0 = 0 → ∀ t, t < 10 → (c_dn x0 n X) 5 m t = 0) := v14
  have d4 : ∀ m t, (c_dn x0 n X) 4 m t = if m = n then x0 4 m t else X 4 m t := fun m t => by simp [c_dn]
  have d5 : ∀ m t, (c_dn x0 n X) 5 m t = if m = n then x0 5 m t else X 5 m t := fun m t => by simp [c_dn]
  have d3 : ∀ m, (c_dn x0 n X) 3 m 0 = if m = n then x0 3 m 0 else X 3 m 0 := fun m => by simp [c_dn]
  have hB := v1x.1
  refine ⟨v1, v2, ?_, ?_, ?_, v7, v8, v9, ?_, v11, ?_, v13, ?_⟩
  · intro m hm
    have g := v3 m hm
    rw [d3] at g
    by_cases q : m = n
    · subst q; omega
    · rw [if_neg q] at g; exact g
  · intro m t hm ht
    have g := v4 m t hm ht
    rw [d4, d5] at g
    by_cases q : m = n
    · subst q
      rw [if_pos rfl, if_pos rfl] at g
      obtain ⟨a, b⟩ := hD t ht
      by_cases z : t < X 0 0 3 ∧ und X m t
      · obtain ⟨a1, a2⟩ := a z
        obtain ⟨i, hi, ei⟩ := z.2.1
        have := ((v8x m hm).2.2 i hi).2.2.2.1 (by omega)
        rw [a1, a2 i hi ei]
        exact ⟨by decide, this⟩
      · rw [(b z).1, (b z).2]
        exact ⟨g.1, by decide⟩
    · rw [if_neg q, if_neg q] at g; exact g
  · intro t ht hle
    have g := v6 t ht hle
    refine ⟨g.1, fun m hm => ?_⟩
    have g2 := g.2 m hm
    rw [d4, d5] at g2
    by_cases q : m = n
    · subst q
      rw [if_pos rfl, if_pos rfl] at g2
      obtain ⟨a, b⟩ := hD t ht
      rw [(b (fun z => by omega)).1, (b (fun z => by omega)).2]
      exact ⟨g2.1, rfl⟩
    · rw [if_neg q, if_neg q] at g2; exact g2
  · intro m t hm ht
    have g := v10' m t hm ht
    rw [d4] at g
    by_cases q : m = n
    · subst q
      rw [if_pos rfl] at g
      obtain ⟨a, b⟩ := hD t ht
      by_cases z : t < X 0 0 3 ∧ und X m t
      · rw [(a z).1]
        exact ⟨fun w => by omega, fun _ => z.2.2⟩
      · rw [(b z).1]
        exact g
    · rw [if_neg q] at g; exact g
  · intro t ht hs m hm
    have g := v12' t ht hs m hm
    rw [d4] at g
    by_cases q : m = n
    · subst q
      rw [if_pos rfl] at g
      obtain ⟨a, b⟩ := hD t ht
      rw [(b (fun z => g.1 z.2.1)).1]
      exact g
    · rw [if_neg q] at g; exact g
  · intro m hm
    have g := v14' m hm
    by_cases q : m = n
    · subst q
      refine ⟨fun _ i t hi e a2 a3 => ?_, fun z => by omega⟩
      have ht : t < X 0 0 3 := by
        have := ((v8x m hm).2.2 i hi).1
        omega
      obtain ⟨a, b⟩ := hD t (by omega)
      obtain ⟨b1, b2⟩ := a ⟨ht, ⟨i, hi, e⟩, a2, a3⟩
      exact ⟨b1, (b2 i hi e).symm⟩
    · rw [d3, if_neg q] at g
      refine ⟨fun hu i t hi e a2 a3 => ?_, fun hu t ht => ?_⟩
      · have g2 := g.1 hu i t hi e a2 a3
        rw [d4, d5, if_neg q, if_neg q] at g2
        exact g2
      · have g2 := g.2 hu t ht
        rw [d5, if_neg q] at g2
        exact g2
theorem sim_rl {x0 : am_N} {n B : Nat} (hn : n < 4) (hB : B ≤ 10) : ∀ (d k c : Nat) (X Y : am_N), k + d = B → X 0 0 3 = B → IA x0 n k X Y →
    ∃ c' X' Y', (∀ (yy : am_N) (Q : Int32 → am_M → Prop) (K : am_M → Int32 → Int32 → Prop), K (X', yy) (nI c') (nI B) → w_X0_recover_L37 n (nI n) Q K (d + 1) (X, yy) (nI c) (nI k)) ∧ (∀ (xx : am_N) (Q : Int32 → am_M → Prop) (K : am_M → Int32 → Int32 → Prop), K (xx, Y') (nI c') (nI B) → w_X5_recover_L33 (nI n) Q K (d + 1) (xx, Y) (nI c) (nI k)) ∧ X' 0 0 3 = B ∧ IA x0 n B X' Y' := by
  intro d
  induction d with
  | zero =>
    intro k c X Y hk hX h
    have e : k = B := by omega
    subst e
    refine ⟨c, X, Y, fun yy Q K hK => ?_, fun xx Q K hK => ?_, hX, h⟩
    · apply w_X0_recover_L37_i
      refine ⟨fun _ => hK, fun q => absurd ?_ q⟩
      show nI (X 0 0 3) ≤ nI k
      rw [hX]
      exact nI_le (Nat.le_refl _) (by omega)
    · have hY : Y 20 0 2 = k := by rw [← h.2.1.1.1]; exact hX
      apply w_X5_recover_L33_i
      refine ⟨fun _ => hK, fun q => absurd ?_ q⟩
      show nI (Y 20 0 2) ≤ nI k
      rw [hY]
      exact nI_le (Nat.le_refl _) (by omega)
  | succ d ih =>
    intro k c X Y hk hX h
    obtain ⟨a, X1, Y1, ha, c1, s1, e1, h1⟩ := sim_rp hn (show k < X 0 0 3 by omega) h
    obtain ⟨b, X2, Y2, hb, c2, s2, e2, h2⟩ := sim_rc (t := k) hn (show k < X1 0 0 3 by omega) h1
    obtain ⟨c', X', Y', c3, s3, e3, h3⟩ := ih (k + 1) (c + a + b) X2 Y2 (by omega) (by omega) h2
    have hY : Y 20 0 2 = B := by rw [← h.2.1.1.1]; exact hX
    refine ⟨c', X', Y', fun yy Q K hK => ?_, fun xx Q K hK => ?_, e3, h3⟩
    · have s := c3 yy Q K hK
      have ha : a = 0 ∨ a = 1 := by omega
      have hb : b = 0 ∨ b = 1 := by omega
      apply w_X0_recover_L37_i
      refine ⟨fun q => ?_, fun _ => c1 _ _ ?_⟩
      · have q : nI (X 0 0 3) ≤ nI k := q
        rw [hX] at q
        exact absurd q (nI_ge (by omega) (by omega))
      · rcases ha with rfl | rfl
        · refine br_t rfl (c2 _ _ ?_)
          rcases hb with rfl | rfl
          · refine br_t rfl ?_
            show w_X0_recover_L37 _ _ _ _ _ (X2, yy) (nI c) (nI k + nI 1)
            rw [nI_add]
            exact s
          · refine br_f (by decide) ?_
            show w_X0_recover_L37 _ _ _ _ _ (X2, yy) (nI c + nI 1) (nI k + nI 1)
            rw [nI_add, nI_add]
            exact s
        · refine br_f (by decide) (c2 _ _ ?_)
          rcases hb with rfl | rfl
          · refine br_t rfl ?_
            show w_X0_recover_L37 _ _ _ _ _ (X2, yy) (nI c + nI 1) (nI k + nI 1)
            rw [nI_add, nI_add]
            exact s
          · refine br_f (by decide) ?_
            show w_X0_recover_L37 _ _ _ _ _ (X2, yy) (nI c + nI 1 + nI 1) (nI k + nI 1)
            rw [nI_add, nI_add, nI_add]
            exact s
    · have s := s3 xx Q K hK
      apply w_X5_recover_L33_i
      refine ⟨fun q => ?_, fun _ => s1 _ _ (s2 _ _ ?_)⟩
      · have q : nI (Y 20 0 2) ≤ nI k := q
        rw [hY] at q
        exact absurd q (nI_ge (by omega) (by omega))
      · show w_X5_recover_L33 _ _ _ _ (xx, Y2) (nI c + nI a + nI b) (nI k + nI 1)
        rw [nI_add, nI_add, nI_add]
        exact s
theorem op_recover {x y : am_N} (h : JJ (x, y)) (a : Int32) : w_X0_recover (x, y) a (fun r M1 => w_X5_recover M1 a (fun r2 M2 => r = r2 ∧ JJ M2)) := by
  obtain ⟨v1, v2, v3, v4, v6, v7, v8, v9, v10, v11, v12, v13, v14⟩ := (show VV x from h.1)
  obtain ⟨r1, r2, r3, r4, r5, r6, r7, r8, r9, r10, r11⟩ := (show RR x y from h.2)
  have hB := v1.1
  have e := r1.1
  rcases pr_cs a (B := 4) (by decide) with ha | ⟨n, hn, rfl⟩
  · refine w_X0_recover_i (sC_isNode_f ha (pr_t (by decide) ?_))
    exact w_X5_recover_i (sR_noNode_f ha (br_f (by decide) ⟨rfl, h⟩))
  · have g3 := r3 n hn
    have u3 := v3 n hn
    refine w_X0_recover_i (sC_isNode_t hn (pr_f (by decide) ⟨n, hn, rfl, fun q => ⟨1, rfl, by decide, x 0 0 3 + 1, ?_⟩, fun q => ?_⟩))
    · have q : nI (x 3 n 0) = 0 := q
      rw [pr_eq0 (by omega)] at q
      have hI : IA x n 0 (am_u x 3 n 0 1) (am_u y 21 0 n 0) := by
        refine ⟨by rw [c_dn_0]; exact h.1, RR_down rfl h.2, by simp [am_u], fun t ht => ⟨fun z => by omega, fun _ => ⟨rfl, ?_⟩⟩⟩
        exact (v14 n hn).2 q t ht
      obtain ⟨c', X', Y', c3, s3, e3, h3⟩ := sim_rl hn hB (x 0 0 3) 0 0 (am_u x 3 n 0 1) (am_u y 21 0 n 0) (by omega) rfl hI
      have hJ : JJ (X', Y') := JJ_mk (VV_up (x0 := x) (n := n) hn (by rw [e3]; exact h3)) h3.2.1
      refine c3 y _ _ ?_
      refine w_X5_recover_i (sR_noNode_t hn (br_t (by decide) ⟨n, hn, rfl, fun _ => ⟨n, 0, hn, rfl, rfl, by decide, x 0 0 3 + 1, s3 X' _ _ ⟨rfl, hJ⟩⟩, fun z => ?_⟩))
      have z : nI (y 21 0 n) = 0 := z
      rw [pr_eq0 (by omega)] at z
      omega
    · have q : ¬ nI (x 3 n 0) = 0 := q
      rw [pr_eq0 (by omega)] at q
      refine w_X5_recover_i (sR_noNode_t hn (br_t (by decide) ⟨n, hn, rfl, fun z => ?_, fun _ => ⟨rfl, h⟩⟩))
      exfalso
      apply z
      show nI (y 21 0 n) = 0
      rw [show y 21 0 n = 0 by omega]
      rfl
