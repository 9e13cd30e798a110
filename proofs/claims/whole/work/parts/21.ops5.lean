/-! hearing a message -/
theorem sC_abort {x y : am_N} {n t : Nat} {Q : am_M → Prop} (ht : t < 10) (hb : x 4 n t < 4) (hl : x 6 n 2 ≤ 60) (h0 : x 4 n t = 0 → Q (x, y)) (h1 : x 4 n t ≠ 0 → Q (c_letGo (c_write x n t 3 0) n t, y)) : w_X3_abort (x, y) n (nI t) Q := by
  have p : nI (x 4 n t) = 0 ↔ x 4 n t = 0 := pr_eq0 (by omega)
  exact w_X3_abort_i ⟨t, ht, rfl, fun q => h0 (p.mp q), fun q => sC_write hl (sC_letGo ht (h1 (fun z => q (p.mpr z))))⟩
theorem c_w03 {x : am_N} {n t kd w : Nat} : (c_write x n t kd w) 0 0 3 = x 0 0 3 := by rw [c_write_o (by omega)]
theorem sim_prep {x y : am_N} {s n t : Nat} (hs : s < 4) (hn : n < 4) (ht : t < x 0 0 3) (hup : x 3 n 0 = 1) (h1 : x 9 t 1 ≠ 1) (h : JJ (x, y)) :
    ∃ X Y : am_N, (∀ (yy : am_N) (Q : am_M → Prop), Q (X, yy) → w_X3_voteOn (x, yy) n (nI t) (fun y3 M2 => w_X2_send M2 y3 (nI n) (nI s) (nI t) (fun M4 => Q M4))) ∧ (∀ (xx : am_N) (Q : am_M → Prop), Q (xx, Y) → w_X5_hearPrepare (xx, y) (nI n) (nI s) (nI t) (fun M1 => Q M1)) ∧ JJ (X, Y) := by
  obtain ⟨v1, v2, v3, v4, v6, v7, v8, v9, v10, v11, v12, v13, v14⟩ := (show VV x from h.1)
  obtain ⟨r1, r2, r3, r4, r5, r6, r7, r8, r9, r10, r11⟩ := (show RR x y from h.2)
  have hB := v1.1
  have ht10 : t < 10 := by omega
  obtain ⟨b4, b5⟩ := v4 n t hn ht10
  have e4 := r4 n t hn ht10
  have i40 : 4 * t + n < 40 := by omega
  have ei : nI 4 * nI t + nI n = nI (4 * t + n) := by rw [pk_mul, nI_add]
  have hl60 := (v8 n hn).1
  have elen := (r6 n hn).1
  have ob : ∀ c, c < 32 → y 30 0 c < 1000 := fun c hc => by have := r5.2 c hc; omega
  have p0 : nI (x 4 n t) = 0 ↔ x 4 n t = 0 := pr_eq0 (by omega)
  have p : ∀ k, k < 4 → (nI (x 4 n t) = nI k ↔ x 4 n t = k) := fun k hk => pr_eq (by omega) (by omega)
  have q0 : nI (y 29 0 (4 * t + n)) = 0 ↔ x 4 n t = 0 := by rw [← e4]; exact p0
  have q : ∀ k, k < 4 → (nI (y 29 0 (4 * t + n)) = nI k ↔ x 4 n t = k) := fun k hk => by rw [← e4]; exact p k hk
  -- the vote that is sent at the end
  have fc : ∀ (v : Nat) (X yy : am_N) (Q : am_M → Prop), X 1 0 1 ≤ 40 → Q (c_send X v n s t, yy) → w_X2_send (X, yy) (nI v) (nI n) (nI s) (nI t) (fun M4 => Q M4) := fun v X yy Q hc hQ => sC_send hc hQ
  have fr : ∀ (v : Nat) (xx Y : am_N) (z : Int32) (Q : am_M → Prop), Y 20 0 16 ≤ 40 → Q (xx, r_send Y v n s t) → w_X5_hearPrepare_J101 (xx, Y) (nI n) (nI s) (nI t) z (nI v) Q := fun v xx Y z Q hc hQ => w_X5_hearPrepare_J101_i (sR_send hc hQ)
  have cnt : ∀ {X Y : am_N}, JJ (X, Y) → X 1 0 1 ≤ 40 ∧ Y 20 0 16 ≤ 40 := fun {X Y} hj => by
    have a := (show VV X from hj.1).1.2
    have b := (show RR X Y from hj.2).1.2
    exact ⟨a, by omega⟩
  have h4 : x 4 n t = 0 ∨ x 4 n t = 1 ∨ x 4 n t = 2 ∨ x 4 n t = 3 := by omega
  rcases h4 with st | st | st | st
  · refine ⟨c_send x 4 n s t, r_send y 4 n s t, fun yy Q hQ => ?_, fun xx Q hQ => ?_, JJ_send (by omega) hn hs ht (by omega) h⟩
    · exact w_X3_voteOn_i ⟨t, ht10, rfl, br_f (fun z => by have := (p 1 (by decide)).mp z; omega) (br_f (fun z => by have := (p 3 (by decide)).mp z; omega) (sC_abort ht10 b4 hl60 (fun _ => fc 4 x yy Q (cnt h).1 hQ) (fun z => absurd st z)))⟩
    · exact w_X5_hearPrepare_i ⟨4 * t + n, i40, ei, pr_t (q0.mpr st) (fr 4 xx y _ Q (cnt h).2 hQ)⟩
  · by_cases hh : x 5 n t = 0
    · have hj := JJ_read hn ht10 st h
      have hm0 : nI (r_hm y n t 8) = 0 := by rw [← RR_own r5 hn ht10 b5, hh]; rfl
      refine ⟨c_send (c_letGo x n t) 3 n s t, r_send (r_letGo y n t) 3 n s t, fun yy Q hQ => ?_, fun xx Q hQ => ?_, JJ_send (by omega) hn hs ht (by omega) hj⟩
      · refine w_X3_voteOn_i ⟨t, ht10, rfl, br_t ((p 1 (by decide)).mpr st) (w_X3_voteWhenWorking_i ⟨t, ht10, rfl, pr_t ?_ (sC_letGo ht10 (fc 3 _ yy Q (cnt hj).1 hQ))⟩)⟩
        show nI (x 5 n t) = 0
        rw [hh]
        rfl
      · refine w_X5_hearPrepare_i ⟨4 * t + n, i40, ei, pr_f (fun z => by have := q0.mp z; omega) (pr_f (fun z => by have := (q 2 (by decide)).mp z; omega) (pr_t ((q 1 (by decide)).mpr st) ?_))⟩
        exact sR_holding hn ht10 ob (pr_t hm0 (sR_letGo hn ht10 ob (fr 3 xx _ _ Q (cnt hj).2 hQ)))
    · obtain ⟨hl, hj⟩ := JJ_prep hn ht st h1 hup h
      have hm : r_hm y n t 8 = x 5 n t := (RR_own r5 hn ht10 b5).symm
      have hm0 : ¬ nI (r_hm y n t 8) = 0 := fun z => hh (by rw [hm] at z; exact (pr_eq0 (by omega)).mp z)
      refine ⟨c_send (am_u (c_force x n t 1 (x 5 n t)) 4 n t 3) 2 n s t, r_send (am_u (r_force y n t 1 (x 5 n t)) 29 0 (4 * t + n) 3) 2 n s t, fun yy Q hQ => ?_, fun xx Q hQ => ?_, JJ_send (by omega) hn hs ?_ (by omega) hj⟩
      · refine w_X3_voteOn_i ⟨t, ht10, rfl, br_t ((p 1 (by decide)).mpr st) (w_X3_voteWhenWorking_i ⟨t, ht10, rfl, pr_f (fun z => hh ((pr_eq0 (show x 5 n t < 1000 by omega)).mp z)) ⟨t, ht10, rfl, sC_force hl60 ⟨t, 3, ht10, rfl, rfl, fc 2 _ yy Q (cnt hj).1 hQ⟩⟩⟩)⟩
      · have hf : ∀ z, w_X5_hearPrepare_J71 (xx, y) (nI n) (nI s) (nI t) (nI (y 29 0 (4 * t + n))) z Q ↔ w_X5_hearPrepare_J71 (xx, y) (nI n) (nI s) (nI t) (nI (y 29 0 (4 * t + n))) z Q := fun _ => Iff.rfl
        refine w_X5_hearPrepare_i ⟨4 * t + n, i40, ei, pr_f (fun z => by have := q0.mp z; omega) (pr_f (fun z => by have := (q 2 (by decide)).mp z; omega) (pr_t ((q 1 (by decide)).mpr st) ?_))⟩
        refine sR_holding hn ht10 ob (pr_f hm0 (w_X5_hearPrepare_J71_i (pr_t ((q 1 (by decide)).mpr st) ?_)))
        refine sR_holding hn ht10 ob ?_
        rw [hm]
        exact sR_force hn (by omega) ⟨4 * t + n, 3, i40, ei, rfl, fr 2 xx _ _ Q (cnt hj).2 hQ⟩
      · show t < (c_force x n t 1 (x 5 n t)) 0 0 3
        unfold c_force
        show t < (c_write x n t 1 (x 5 n t)) 0 0 3
        rw [c_w03]
        exact ht
  · obtain ⟨hl, hj⟩ := JJ_abort hn ht10 (by omega) h
    refine ⟨c_send (c_letGo (c_write x n t 3 0) n t) 4 n s t, r_send (r_letGo (r_write y n t 3 0) n t) 4 n s t, fun yy Q hQ => ?_, fun xx Q hQ => ?_, JJ_send (by omega) hn hs ?_ (by omega) hj⟩
    · exact w_X3_voteOn_i ⟨t, ht10, rfl, br_f (fun z => by have := (p 1 (by decide)).mp z; omega) (br_f (fun z => by have := (p 3 (by decide)).mp z; omega) (sC_abort ht10 b4 hl60 (fun z => by omega) (fun _ => fc 4 _ yy Q (cnt hj).1 hQ)))⟩
    · exact w_X5_hearPrepare_i ⟨4 * t + n, i40, ei, pr_f (fun z => by have := q0.mp z; omega) (pr_t ((q 2 (by decide)).mpr st) (sR_giveUp hn ht10 (by omega) ob (fr 4 xx _ _ Q (cnt hj).2 hQ)))⟩
    · show t < (c_write x n t 3 0) 0 0 3
      rw [c_w03]
      exact ht
  · refine ⟨c_send x 2 n s t, r_send y 2 n s t, fun yy Q hQ => ?_, fun xx Q hQ => ?_, JJ_send (by omega) hn hs ht (by omega) h⟩
    · exact w_X3_voteOn_i ⟨t, ht10, rfl, br_f (fun z => by have := (p 1 (by decide)).mp z; omega) (br_t ((p 3 (by decide)).mpr st) (fc 2 x yy Q (cnt h).1 hQ))⟩
    · refine w_X5_hearPrepare_i ⟨4 * t + n, i40, ei, pr_f (fun z => by have := q0.mp z; omega) (pr_f (fun z => by have := (q 2 (by decide)).mp z; omega) (pr_f (fun z => by have := (q 1 (by decide)).mp z; omega) ?_))⟩
      exact w_X5_hearPrepare_J71_i (pr_f (fun z => by have := (q 1 (by decide)).mp z; omega) (fr 2 xx y _ Q (cnt h).2 hQ))
/-! the coordinator's sets -/
theorem VV_tx {e : Nat} {x : am_N} {t c v : Nat} (hc : c = 3 ∨ c = 4 ∨ c = 5) (hv : v < 16) (h : VW e x) : VW e (am_u x 9 t c v) := by
  obtain ⟨v1, v2, v3, v4, v6, v7, v8, v9, v10, v11, v12, v13, v14⟩ := h
  have s0 : ∀ u, (am_u x 9 t c v) 9 u 0 = x 9 u 0 := fun u => by unfold am_u; exact if_neg (by omega)
  have s1 : ∀ u, (am_u x 9 t c v) 9 u 1 = x 9 u 1 := fun u => by unfold am_u; exact if_neg (by omega)
  have s2 : ∀ u, (am_u x 9 t c v) 9 u 2 = x 9 u 2 := fun u => by unfold am_u; exact if_neg (by omega)
  have sk : ∀ u k, k < 6 → x 9 u k < 16 → (am_u x 9 t c v) 9 u k < 16 := fun u k hk hx => by
    unfold am_u
    split
    · exact hv
    · exact hx
  refine ⟨v1, ?_, v3, v4, ?_, ?_, v8, v9, v10, ?_, ?_, v13, v14⟩
  · intro u hu
    obtain ⟨g0, g1, g2, g3, g4, g5⟩ := v2 u hu
    rw [s0, s1, s2]
    exact ⟨g0, g1, g2, sk u 3 (by decide) g3, sk u 4 (by decide) g4, sk u 5 (by decide) g5⟩
  · intro u hu hle
    rw [s2]
    exact v6 u hu hle
  · intro k hk
    obtain ⟨g1, g2, g3, g4, g5, g6⟩ := v7 k hk
    refine ⟨g1, g2, g3, g4, g5, fun z => ?_⟩
    show (am_u x 9 t c v) 9 (x 2 3 k) 1 ≠ 1
    rw [s1]
    exact g6 z
  · intro u hu hue
    rw [s0, s1]
    exact v11 u hu hue
  · intro u hu hs m hm
    rw [s1] at hs
    rw [s2]
    exact v12 u hu hs m hm
theorem R8_set {x y : am_N} {t s c d v b : Nat} (hs : s < 4) (hb : b < 2) (hv : ∀ n, n < 4 → v.testBit n = if n = s then decide (b ≠ 0) else (x 9 t c).testBit n) (h : R8 c d x y) : R8 c d (am_u x 9 t c v) (am_u y d 0 (4 * t + s) b) := by
  intro u n hu hn
  have g := h u n hu hn
  by_cases q : u = t
  · subst q
    by_cases qn : n = s
    · subst qn
      have := hv n hn
      simp [am_u]
      refine ⟨?_, hb⟩
      rw [this]
      simp
    · have ne : ¬ 4 * u + n = 4 * u + s := by omega
      have := hv n hn
      rw [if_neg qn] at this
      simp [am_u, qn]
      rw [this]
      simpa using g
  · have ne : ¬ 4 * u + n = 4 * t + s := by omega
    simpa [am_u, q, ne] using g
theorem R8_oth {x y : am_N} {t c c2 d d2 v b i : Nat} (hc : c ≠ c2) (hd : d ≠ d2) (h : R8 c d x y) : R8 c d (am_u x 9 t c2 v) (am_u y d2 0 i b) := by
  intro u n hu hn
  have g := h u n hu hn
  have s1 : (am_u x 9 t c2 v) 9 u c = x 9 u c := by unfold am_u; exact if_neg (fun z => hc z.2.2)
  have s2 : (am_u y d2 0 i b) d 0 (4 * u + n) = y d 0 (4 * u + n) := by unfold am_u; exact if_neg (fun z => hd z.1)
  rw [s1, s2]
  exact g
theorem R7_oth {x y : am_N} {t c v d i b : Nat} (hc : 2 ≤ c) (hd : 25 ≤ d) (h : R7 x y) : R7 (am_u x 9 t c v) (am_u y d 0 i b) := by
  intro u hu
  have g := h u hu
  have s0 : (am_u x 9 t c v) 9 u 0 = x 9 u 0 := by unfold am_u; exact if_neg (by omega)
  have s1 : (am_u x 9 t c v) 9 u 1 = x 9 u 1 := by unfold am_u; exact if_neg (by omega)
  have s2 : (am_u y d 0 i b) 23 0 u = y 23 0 u := by unfold am_u; exact if_neg (by omega)
  have s3 : (am_u y d 0 i b) 24 0 u = y 24 0 u := by unfold am_u; exact if_neg (by omega)
  rw [s0, s1, s2, s3]
  exact g
theorem or_set {m s n : Nat} : (m ||| 2 ^ s).testBit n = if n = s then decide (1 ≠ 0) else m.testBit n := by
  rw [tb_or]
  by_cases q : n = s
  · subst q; simp
  · have : ¬ s = n := fun z => q z.symm
    simp [q, this]
theorem JJ_yes {x y : am_N} {t s : Nat} (hs : s < 4) (ht : t < 10) (h : JJ (x, y)) : JJ (am_u x 9 t 3 (x 9 t 3 ||| 2 ^ s), am_u y 26 0 (4 * t + s) 1) := by
  have v2 := (show VV x from h.1).2.1 t ht
  obtain ⟨r1, r2, r3, r4, r5, r6, r7, r8, r9, r10, r11⟩ := (show RR x y from h.2)
  exact JJ_mk (VV_tx (by omega) (pr_or16 _ v2.2.2.2.1 _ hs) h.1) ⟨r1, r2, r3, r4, r5, r6, R7_oth (by omega) (by omega) r7, R8_oth (by decide) (by decide) r8, R8_set hs (by decide) (fun n _ => or_set) r9, R8_oth (by decide) (by decide) r10, R8_oth (by decide) (by decide) r11⟩
theorem JJ_rd {x y : am_N} {t s : Nat} (hs : s < 4) (ht : t < 10) (h : JJ (x, y)) : JJ (am_u x 9 t 4 (x 9 t 4 ||| 2 ^ s), am_u y 27 0 (4 * t + s) 1) := by
  have v2 := (show VV x from h.1).2.1 t ht
  obtain ⟨r1, r2, r3, r4, r5, r6, r7, r8, r9, r10, r11⟩ := (show RR x y from h.2)
  exact JJ_mk (VV_tx (by omega) (pr_or16 _ v2.2.2.2.2.1 _ hs) h.1) ⟨r1, r2, r3, r4, r5, r6, R7_oth (by omega) (by omega) r7, R8_oth (by decide) (by decide) r8, R8_oth (by decide) (by decide) r9, R8_set hs (by decide) (fun n _ => or_set) r10, R8_oth (by decide) (by decide) r11⟩
def c_off (d s n : Nat) : Bool := d.testBit n && decide (n ≠ s)
theorem JJ_off {x y : am_N} {t s : Nat} (hs : s < 4) (h : JJ (x, y)) : JJ (am_u x 9 t 5 (r_bm (c_off (x 9 t 5) s) 4), am_u y 28 0 (4 * t + s) 0) := by
  obtain ⟨r1, r2, r3, r4, r5, r6, r7, r8, r9, r10, r11⟩ := (show RR x y from h.2)
  refine JJ_mk (VV_tx (by omega) (r_bm_lt _ 4) h.1) ⟨r1, r2, r3, r4, r5, r6, R7_oth (by omega) (by omega) r7, R8_oth (by decide) (by decide) r8, R8_oth (by decide) (by decide) r9, R8_oth (by decide) (by decide) r10, R8_set hs (by decide) (fun n hn => ?_) r11⟩
  rw [r_bm_bit]
  unfold c_off
  by_cases q : n = s <;> simp [q, hn]
