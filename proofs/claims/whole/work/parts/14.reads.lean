/-! the calls that change nothing -/
theorem op_up {x y : am_N} (h : JJ (x, y)) (a : Int32) : w_X0_up (x, y) a (fun r M1 => w_X5_up M1 a (fun r2 M2 => r = r2 ∧ JJ M2)) := by
  obtain ⟨v1, v2, v3, v4, -⟩ := (show VV x from h.1)
  obtain ⟨r1, r2, r3, -⟩ := (show RR x y from h.2)
  rcases pr_cs a (B := 4) (by decide) with ha | ⟨n, hn, rfl⟩
  · refine w_X0_up_i (sC_isNode_f ha (br_t (by decide) ?_))
    exact w_X5_up_i (sR_noNode_f ha (pr_f (by decide) ⟨rfl, h⟩))
  · have g := r3 n hn
    refine w_X0_up_i (sC_isNode_t hn (br_f (by decide) ⟨n, hn, rfl, fun q => ?_, fun q => ?_⟩))
    · have q : x 3 n 0 = 0 := (pr_eq0 (by omega)).mp q
      exact w_X5_up_i (sR_noNode_t hn (pr_t (by decide) ⟨n, hn, rfl, pr_f (fun z => by have := (pr_eq0 (show y 21 0 n < 1000 by omega)).mp z; omega) ⟨rfl, h⟩⟩))
    · have q : ¬ x 3 n 0 = 0 := fun z => q (by show nI (x 3 n 0) = 0; rw [z]; rfl)
      exact w_X5_up_i (sR_noNode_t hn (pr_t (by decide) ⟨n, hn, rfl, pr_t ((pr_eq0 (show y 21 0 n < 1000 by omega)).mpr (by omega)) ⟨rfl, h⟩⟩))
theorem op_stage {x y : am_N} (h : JJ (x, y)) (a : Int32) : w_X0_stage (x, y) a (fun r M1 => w_X5_stage M1 a (fun r2 M2 => r = r2 ∧ JJ M2)) := by
  obtain ⟨v1, -⟩ := (show VV x from h.1)
  obtain ⟨r1, r2, r3, r4, r5, r6, r7, -⟩ := (show RR x y from h.2)
  have hB := v1.1
  have e := r1.1
  rcases pr_cs a (B := x 0 0 3) (by omega) with ha | ⟨t, ht, rfl⟩
  · refine w_X0_stage_i (sC_isTx_f ha (br_t (by decide) ?_))
    exact w_X5_stage_i (sR_noWork_f (show a < 0 ∨ nI (y 20 0 2) ≤ a by rw [← e]; exact ha) (br_f (by decide) ⟨rfl, h⟩))
  · have ht10 : t < 10 := by omega
    refine w_X0_stage_i (sC_isTx_t ht hB (br_f (by decide) ⟨t, ht10, rfl, ?_⟩))
    refine w_X5_stage_i (sR_noWork_t (show t < y 20 0 2 by omega) (show y 20 0 2 ≤ 10 by omega) (br_t (by decide) ⟨t, ht10, rfl, ?_, h⟩))
    show nI (x 9 t 1) = nI (y 24 0 t)
    rw [(r7 t ht10).2]
theorem op_nodes {x y : am_N} (h : JJ (x, y)) (a b : Int32) : w_X0_nodes (x, y) a b (fun r M1 => w_X5_nodes M1 a b (fun r2 M2 => r = r2 ∧ JJ M2)) := by
  obtain ⟨v1, v2, -⟩ := (show VV x from h.1)
  obtain ⟨r1, r2, r3, r4, r5, r6, r7, r8, r9, r10, r11⟩ := (show RR x y from h.2)
  have hB := v1.1
  have e := r1.1
  rcases pr_cs a (B := x 0 0 3) (by omega) with ha | ⟨t, ht, rfl⟩
  · refine w_X0_nodes_i (sC_isTx_f ha (pr_t (by decide) ?_))
    exact w_X5_nodes_i (sR_noWork_f (show a < 0 ∨ nI (y 20 0 2) ≤ a by rw [← e]; exact ha) (pr_f (by decide) ⟨rfl, h⟩))
  · have ht10 : t < 10 := by omega
    have f1 : t < y 20 0 2 := by omega
    have f2 : y 20 0 2 ≤ 10 := by omega
    obtain ⟨w1, w2, w3, w4, w5, w6⟩ := v2 t ht10
    refine w_X0_nodes_i (sC_isTx_t ht hB (pr_f (by decide) ?_))
    rcases pr_cs b (B := 4) (by decide) with hb | ⟨k, hk, rfl⟩
    · refine br_f (pr_ne hb (by decide) (by decide)) (br_f (pr_ne hb (by decide) (by decide)) (br_f (pr_ne hb (by decide) (by decide)) (br_f (pr_ne hb (by decide) (by decide)) ?_)))
      refine w_X5_nodes_i (sR_noWork_t f1 f2 (pr_t (by decide) ⟨fun _ => ⟨rfl, h⟩, fun q => ⟨fun q2 => ?_, fun _ => ⟨rfl, h⟩⟩⟩))
      exact hb.elim (fun z => absurd z q) (fun z => absurd (pr_le3.mp q2) (pr_ge z))
    · have ref : ∀ (d c : Nat), d = 25 + k → R8 c d x y → x 9 t c < 16 → w_X5_nodes (x, y) (nI t) (nI k) (fun r2 M2 => nI (x 9 t c) = r2 ∧ JJ M2) := by
        intro d c hd h8 hc
        refine w_X5_nodes_i (sR_noWork_t f1 f2 (pr_t (by decide) ⟨fun q => absurd q (nI_pos (by omega)), fun _ => br_t (nI_le (by omega) (by decide)) ?_⟩))
        refine sR_bits ht10 hk hd (fun n hn => by have := (h8 t n ht10 hn).2; omega) ⟨?_, h⟩
        rw [← RR_mask h8 ht10 hc]
      have h4 : k = 0 ∨ k = 1 ∨ k = 2 ∨ k = 3 := by omega
      rcases h4 with rfl | rfl | rfl | rfl
      · exact br_t rfl ⟨t, ht10, rfl, ref 25 2 rfl r8 w3⟩
      · exact br_f (by decide) (br_t rfl ⟨t, ht10, rfl, ref 26 3 rfl r9 w4⟩)
      · exact br_f (by decide) (br_f (by decide) (br_t rfl ⟨t, ht10, rfl, ref 27 4 rfl r10 w5⟩))
      · exact br_f (by decide) (br_f (by decide) (br_f (by decide) (br_t rfl ⟨t, ht10, rfl, ref 28 5 rfl r11 w6⟩)))
theorem op_state {x y : am_N} (h : JJ (x, y)) (a b : Int32) : w_X0_state (x, y) a b (fun r M1 => w_X5_state M1 a b (fun r2 M2 => r = r2 ∧ JJ M2)) := by
  obtain ⟨v1, -⟩ := (show VV x from h.1)
  obtain ⟨r1, r2, r3, r4, -⟩ := (show RR x y from h.2)
  have hB := v1.1
  have e := r1.1
  rcases pr_cs a (B := 4) (by decide) with ha | ⟨n, hn, rfl⟩
  · refine w_X0_state_i (sC_isNode_f ha (br_t (by decide) ?_))
    exact w_X5_state_i (sR_noNode_f ha (pr_f (by decide) ⟨rfl, h⟩))
  · refine w_X0_state_i (sC_isNode_t hn (br_f (by decide) ?_))
    rcases pr_cs b (B := x 0 0 3) (by omega) with hb | ⟨t, ht, rfl⟩
    · refine sC_isTx_f hb (pr_t (by decide) ?_)
      exact w_X5_state_i (sR_noNode_t hn (pr_t (by decide) (sR_noWork_f (show b < 0 ∨ nI (y 20 0 2) ≤ b by rw [← e]; exact hb) (br_f (by decide) ⟨rfl, h⟩))))
    · have ht10 : t < 10 := by omega
      refine sC_isTx_t ht hB (pr_f (by decide) ⟨n, hn, rfl, t, ht10, rfl, ?_⟩)
      refine w_X5_state_i (sR_noNode_t hn (pr_t (by decide) (sR_noWork_t (show t < y 20 0 2 by omega) (show y 20 0 2 ≤ 10 by omega) (br_t (by decide) ⟨4 * t + n, by omega, by rw [pk_mul, nI_add], ?_, h⟩))))
      show nI (x 4 n t) = nI (y 29 0 (4 * t + n))
      rw [r4 n t hn ht10]
theorem op_holder {x y : am_N} (h : JJ (x, y)) (a b : Int32) : w_X0_holder (x, y) a b (fun r M1 => w_X5_holder M1 a b (fun r2 M2 => r = r2 ∧ JJ M2)) := by
  obtain ⟨v1, v2, v3, v4, -⟩ := (show VV x from h.1)
  obtain ⟨r1, r2, r3, r4, r5, -⟩ := (show RR x y from h.2)
  rcases pr_cs a (B := 4) (by decide) with ha | ⟨n, hn, rfl⟩
  · refine w_X0_holder_i (sC_isNode_f ha (br_t (by decide) ?_))
    exact w_X5_holder_i (sR_noNode_f ha (pr_f (by decide) ⟨rfl, h⟩))
  · refine w_X0_holder_i (sC_isNode_t hn (br_f (by decide) ?_))
    rcases pr_cs b (B := 8) (by decide) with hb | ⟨r, hr8, rfl⟩
    · refine sC_isRes_f hb (pr_t (by decide) ?_)
      refine w_X5_holder_i (sR_noNode_t hn (pr_t (by decide) ⟨fun _ => ⟨rfl, h⟩, fun q => ⟨fun q2 => ?_, fun _ => ⟨rfl, h⟩⟩⟩))
      exact hb.elim (fun z => absurd z q) (fun z => absurd (pr_le7.mp q2) (pr_ge z))
    · have ref : ∀ r1 : Int32, r1 = nI (y 30 0 (8 * n + r)) - nI 1 → w_X5_holder (x, y) (nI n) (nI r) (fun r2 M2 => r1 = r2 ∧ JJ M2) := by
        intro r1 hr1
        exact w_X5_holder_i (sR_noNode_t hn (pr_t (by decide) ⟨fun q => absurd q (nI_pos (by omega)), fun _ => br_t (nI_le (by omega) (by decide)) ⟨8 * n + r, by omega, by rw [pk_mul, nI_add], hr1, h⟩⟩))
      refine sC_isRes_t hr8 (pr_f (by decide) ⟨n, hn, rfl, ?_⟩)
      refine sC_owner hr8 (fun t ht => (v4 n t hn ht).2) (fun t ht hbt _ => ref _ ?_) (fun hno => ref _ ?_)
      · have g := r5.1 n t r hn ht hr8
        rw [hbt] at g
        have g : y 30 0 (8 * n + r) = t + 1 := of_decide_eq_true g.symm
        rw [g, pk_sub (by omega)]
        rfl
      · have g : y 30 0 (8 * n + r) = 0 := by
          have b := r5.2 (8 * n + r) (by omega)
          by_cases z : y 30 0 (8 * n + r) = 0
          · exact z
          · have g := r5.1 n (y 30 0 (8 * n + r) - 1) r hn (by omega) hr8
            rw [hno _ (by omega)] at g
            have g := of_decide_eq_false g.symm
            omega
        rw [g]
        decide
theorem op_messages {x y : am_N} (h : JJ (x, y)) : w_X0_messages (x, y) (fun r M1 => w_X5_messages M1 (fun r2 M2 => r = r2 ∧ JJ M2)) := by
  refine w_X0_messages_i (w_X5_messages_i ⟨?_, h⟩)
  show nI (x 1 0 1) = nI (y 20 0 16)
  rw [(show RR x y from h.2).1.2]
theorem op_forced {x y : am_N} (h : JJ (x, y)) (a : Int32) : w_X0_forced (x, y) a (fun r M1 => w_X5_forced M1 a (fun r2 M2 => r = r2 ∧ JJ M2)) := by
  obtain ⟨r1, r2, r3, r4, r5, r6, -⟩ := (show RR x y from h.2)
  rcases pr_cs a (B := 4) (by decide) with ha | ⟨n, hn, rfl⟩
  · refine w_X0_forced_i (sC_isNode_f ha (br_t (by decide) ?_))
    exact w_X5_forced_i (sR_noNode_f ha (br_f (by decide) ⟨rfl, h⟩))
  · refine w_X0_forced_i (sC_isNode_t hn (br_f (by decide) ⟨n, hn, rfl, ?_⟩))
    refine w_X5_forced_i (sR_noNode_t hn (br_t (by decide) ⟨n, hn, rfl, ?_, h⟩))
    show nI (x 6 n 4) = nI (y 22 0 n)
    rw [(r6 n hn).2.1]
theorem op_entry {x y : am_N} (h : JJ (x, y)) (a b : Int32) : w_X0_entry (x, y) a b (fun r M1 => w_X5_entry M1 a b (fun r2 M2 => r = r2 ∧ JJ M2)) := by
  obtain ⟨v1, v2, v3, v4, v6, v7, v8, -⟩ := (show VV x from h.1)
  obtain ⟨r1, r2, r3, r4, r5, r6, -⟩ := (show RR x y from h.2)
  rcases pr_cs a (B := 4) (by decide) with ha | ⟨n, hn, rfl⟩
  · refine w_X0_entry_i (sC_isNode_f ha (pr_t (by decide) ?_))
    exact w_X5_entry_i (sR_noNode_f ha (br_f (by decide) ⟨rfl, h⟩))
  · have hl := (v8 n hn).1
    have e := (r6 n hn).1
    refine w_X0_entry_i (sC_isNode_t hn (pr_f (by decide) ⟨n, hn, rfl, ?_⟩))
    rcases pr_cs b (B := x 6 n 2) (by omega) with hb | ⟨k, hk, rfl⟩
    · refine sC_lhas_f hb (br_t (by decide) ?_)
      refine w_X5_entry_i (sR_noNode_t hn (br_t (by decide) (w_X5_isRecord_i ⟨fun _ => br_t (by decide) ⟨rfl, h⟩, fun q => ⟨n, hn, rfl, fun _ => br_t (by decide) ⟨rfl, h⟩, fun q2 => ?_⟩⟩)))
      exact hb.elim (fun z => absurd z q) (fun z => absurd (show nI (y 31 0 n) ≤ b by rw [← e]; exact z) q2)
    · obtain ⟨g1, g2, g3, g4⟩ := (r6 n hn).2.2 k hk
      refine sC_lhas_t hk hl (br_f (by decide) ⟨k, by omega, rfl, ?_⟩)
      refine w_X5_entry_i (sR_noNode_t hn (br_t (by decide) (w_X5_isRecord_i ⟨fun q => absurd q (nI_pos (by omega)), fun _ => ⟨n, hn, rfl, fun q => absurd q (nI_ge (show k < y 31 0 n by omega) (show y 31 0 n < 2 ^ 31 by omega)), fun _ => br_f (by decide) ⟨64 * n + k, by omega, by rw [pk_mul, nI_add], 64 * n + k, by omega, by rw [pk_mul, nI_add], ?_, h⟩⟩⟩)))
      show nI (x 7 n k) = nI 10 * nI (y 32 0 (64 * n + k)) + nI (y 33 0 (64 * n + k))
      rw [g1, pk_mul, nI_add]
theorem op_content {x y : am_N} (h : JJ (x, y)) (a b : Int32) : w_X0_content (x, y) a b (fun r M1 => w_X5_content M1 a b (fun r2 M2 => r = r2 ∧ JJ M2)) := by
  obtain ⟨v1, v2, v3, v4, v6, v7, v8, -⟩ := (show VV x from h.1)
  obtain ⟨r1, r2, r3, r4, r5, r6, -⟩ := (show RR x y from h.2)
  rcases pr_cs a (B := 4) (by decide) with ha | ⟨n, hn, rfl⟩
  · refine w_X0_content_i (sC_isNode_f ha (pr_t (by decide) ?_))
    exact w_X5_content_i (sR_noNode_f ha (br_f (by decide) ⟨rfl, h⟩))
  · have hl := (v8 n hn).1
    have e := (r6 n hn).1
    refine w_X0_content_i (sC_isNode_t hn (pr_f (by decide) ⟨n, hn, rfl, ?_⟩))
    rcases pr_cs b (B := x 6 n 2) (by omega) with hb | ⟨k, hk, rfl⟩
    · refine sC_lhas_f hb (br_t (by decide) ?_)
      refine w_X5_content_i (sR_noNode_t hn (br_t (by decide) (w_X5_isRecord_i ⟨fun _ => br_t (by decide) ⟨rfl, h⟩, fun q => ⟨n, hn, rfl, fun _ => br_t (by decide) ⟨rfl, h⟩, fun q2 => ?_⟩⟩)))
      exact hb.elim (fun z => absurd z q) (fun z => absurd (show nI (y 31 0 n) ≤ b by rw [← e]; exact z) q2)
    · obtain ⟨g1, g2, g3, g4⟩ := (r6 n hn).2.2 k hk
      refine sC_lhas_t hk hl (br_f (by decide) ⟨k, by omega, rfl, ?_⟩)
      refine w_X5_content_i (sR_noNode_t hn (br_t (by decide) (w_X5_isRecord_i ⟨fun q => absurd q (nI_pos (by omega)), fun _ => ⟨n, hn, rfl, fun q => absurd q (nI_ge (show k < y 31 0 n by omega) (show y 31 0 n < 2 ^ 31 by omega)), fun _ => br_f (by decide) ⟨64 * n + k, by omega, by rw [pk_mul, nI_add], ?_, h⟩⟩⟩)))
      show nI (x 8 n k) = nI (y 34 0 (64 * n + k))
      rw [g3]
theorem op_message {x y : am_N} (h : JJ (x, y)) (a b : Int32) : w_X0_message (x, y) a b (fun r M1 => w_X5_message M1 a b (fun r2 M2 => r = r2 ∧ JJ M2)) := by
  obtain ⟨v1, -⟩ := (show VV x from h.1)
  obtain ⟨r1, r2, -⟩ := (show RR x y from h.2)
  have hB := v1.2
  have e := r1.2
  rcases pr_cs a (B := x 1 0 1) (by omega) with ha | ⟨k, hk, rfl⟩
  · refine w_X0_message_i (sC_has_f ha (br_t (by decide) ?_))
    refine w_X5_message_i ⟨fun _ => ⟨rfl, h⟩, fun q => ⟨fun _ => ⟨rfl, h⟩, fun q2 => ?_⟩⟩
    exact ha.elim (fun z => absurd z q) (fun z => absurd (show nI (y 20 0 16) ≤ a by rw [← e]; exact z) q2)
  · have hk40 : k < 40 := by omega
    obtain ⟨g0, g1, g2, g3⟩ := r2 k hk
    refine w_X0_message_i (sC_has_t hk hB (br_f (by decide) ?_))
    have ref : ∀ {Q : Int32 → am_M → Prop}, ((b < 0 → Q (-2) (x, y)) ∧ (¬ b < 0 → ((b ≤ (nI 3) → ((¬ b = 0 → ((¬ b = (nI 1) → ((¬ b = (nI 2) → am_ix (nI k) 40 (fun k1 => Q (nI (y 39 0 k1)) (x, y))) ∧ (b = (nI 2) → am_ix (nI k) 40 (fun k2 => Q (nI (y 38 0 k2)) (x, y))))) ∧ (b = (nI 1) → am_ix (nI k) 40 (fun k3 => Q (nI (y 37 0 k3)) (x, y))))) ∧ (b = 0 → am_ix (nI k) 40 (fun k4 => Q (nI (y 36 0 k4)) (x, y))))) ∧ (¬ b ≤ (nI 3) → Q (-2) (x, y))))) → w_X5_message (x, y) (nI k) b Q := by
      intro Q hq
      exact w_X5_message_i ⟨fun q => absurd q (nI_pos (by omega)), fun _ => ⟨fun q => absurd q (nI_ge (show k < y 20 0 16 by omega) (show y 20 0 16 < 2 ^ 31 by omega)), fun _ => hq⟩⟩
    rcases pr_cs b (B := 4) (by decide) with hb | ⟨p, hp, rfl⟩
    · refine ⟨fun _ => ?_, fun q => ⟨fun q2 => ?_, fun _ => ?_⟩⟩
      · exact ref ⟨fun _ => ⟨rfl, h⟩, fun z => absurd ‹_› z⟩
      · exact hb.elim (fun z => absurd z q) (fun z => absurd q2 (pr_ge z))
      · refine ref ⟨fun _ => ⟨rfl, h⟩, fun _ => ⟨fun q2 => ?_, fun _ => ⟨rfl, h⟩⟩⟩
        exact hb.elim (fun z => absurd z q) (fun z => absurd (pr_le3.mp q2) (pr_ge z))
    · refine ⟨fun q => absurd q (nI_pos (by omega)), fun _ => ⟨fun _ => ⟨p, hp, rfl, k, hk40, rfl, ?_⟩, fun q => absurd (nI_lt hp (by decide)) q⟩⟩
      refine ref ⟨fun q => absurd q (nI_pos (by omega)), fun _ => br_t (nI_le (by omega) (by decide)) ?_⟩
      have h4 : p = 0 ∨ p = 1 ∨ p = 2 ∨ p = 3 := by omega
      rcases h4 with rfl | rfl | rfl | rfl
      · exact pr_t (by decide) ⟨k, hk40, rfl, by show nI (x 2 0 k) = _; rw [g0], h⟩
      · exact pr_f (by decide) (pr_t rfl ⟨k, hk40, rfl, by show nI (x 2 1 k) = _; rw [g1], h⟩)
      · exact pr_f (by decide) (pr_f (by decide) (pr_t rfl ⟨k, hk40, rfl, by show nI (x 2 2 k) = _; rw [g2], h⟩))
      · exact pr_f (by decide) (pr_f (by decide) (pr_f (by decide) ⟨k, hk40, rfl, by show nI (x 2 3 k) = _; rw [g3], h⟩))
/-- how many of the first k records count -/
def r_rc (s k : Nat) : Nat := if k < s then k else s
theorem sR_records_L {x y : am_N} {n s : Nat} {b : Int32} {Q : Int32 → am_M → Prop} {K : am_M → Int32 → Int32 → Prop} (hn : n < 4) (hlen : y 31 0 n ≤ 60) (hs : s ≤ y 31 0 n) (hb : (b = 0 ∧ s = y 31 0 n) ∨ (¬ b = 0 ∧ ∀ k, k < y 31 0 n → y 35 0 (64 * n + k) = if k < s then 1 else 0)) (hK : K (x, y) (nI s) (nI (y 31 0 n))) : ∀ (d k : Nat), k + d = y 31 0 n → w_X5_records_L15 (nI n) b Q K (d + 1) (x, y) (nI (r_rc s k)) (nI k) := by
  intro d
  induction d with
  | zero =>
    intro k hk
    apply w_X5_records_L15_i
    have e : k = y 31 0 n := by omega
    refine ⟨n, hn, rfl, fun _ => ?_, fun q => absurd (nI_le (Nat.le_of_eq e.symm) (by omega)) q⟩
    have e2 : r_rc s k = s := by unfold r_rc; split <;> omega
    rw [e2, e]
    exact hK
  | succ d ih =>
    intro k hk
    have hk2 : k < y 31 0 n := by omega
    have g := ih (k + 1) (by omega)
    have yes : k < s → w_X5_records_L15 (nI n) b Q K (d + 1) (x, y) (nI (r_rc s k) + nI 1) (nI k + nI 1) := by
      intro q
      have e2 : r_rc s k + 1 = r_rc s (k + 1) := by unfold r_rc; split <;> split <;> omega
      rw [nI_add, nI_add, e2]
      exact g
    have no : ¬ k < s → w_X5_records_L15 (nI n) b Q K (d + 1) (x, y) (nI (r_rc s k)) (nI k + nI 1) := by
      intro q
      have e2 : r_rc s k = r_rc s (k + 1) := by unfold r_rc; split <;> split <;> omega
      rw [nI_add, e2]
      exact g
    apply w_X5_records_L15_i
    refine ⟨n, hn, rfl, fun q => absurd q (nI_ge (show k < y 31 0 n by omega) (show y 31 0 n < 2 ^ 31 by omega)), fun _ => ⟨fun h0 => ?_, fun h0 => ⟨64 * n + k, by omega, by rw [pk_mul, nI_add], fun h1 => ?_, fun h1 => ?_⟩⟩⟩
    · rcases hb with ⟨-, rfl⟩ | ⟨hb, -⟩
      · exact yes hk2
      · exact absurd h0 hb
    · rcases hb with ⟨hb, -⟩ | ⟨-, hb⟩
      · exact absurd hb h0
      · have e := hb k hk2
        refine no (fun q => ?_)
        rw [if_pos q] at e
        have h1 : nI (y 35 0 (64 * n + k)) = 0 := h1
        rw [e] at h1
        exact absurd h1 (by decide)
    · rcases hb with ⟨hb, -⟩ | ⟨-, hb⟩
      · exact absurd hb h0
      · have e := hb k hk2
        by_cases q : k < s
        · exact yes q
        · rw [if_neg q] at e
          exact absurd (show nI (y 35 0 (64 * n + k)) = 0 by rw [e]; rfl) h1
theorem op_records {x y : am_N} (h : JJ (x, y)) (a b : Int32) : w_X0_records (x, y) a b (fun r M1 => w_X5_records M1 a b (fun r2 M2 => r = r2 ∧ JJ M2)) := by
  obtain ⟨v1, v2, v3, v4, v6, v7, v8, -⟩ := (show VV x from h.1)
  obtain ⟨r1, r2, r3, r4, r5, r6, -⟩ := (show RR x y from h.2)
  rcases pr_cs a (B := 4) (by decide) with ha | ⟨n, hn, rfl⟩
  · refine w_X0_records_i (sC_isNode_f ha (pr_t (by decide) ?_))
    exact w_X5_records_i (sR_noNode_f ha (br_f (by decide) ⟨rfl, h⟩))
  · obtain ⟨g1, g2, -⟩ := v8 n hn
    obtain ⟨e1, -, e3⟩ := r6 n hn
    have ref : ∀ s, s ≤ y 31 0 n → ((b = 0 ∧ s = y 31 0 n) ∨ (¬ b = 0 ∧ ∀ k, k < y 31 0 n → y 35 0 (64 * n + k) = if k < s then 1 else 0)) → w_X5_records (x, y) (nI n) b (fun r2 M2 => nI s = r2 ∧ JJ M2) := by
      intro s hs hb
      refine w_X5_records_i (sR_noNode_t hn (br_t (by decide) ⟨y 31 0 n + 1, ?_⟩))
      have g := sR_records_L (x := x) (y := y) (n := n) (s := s) (b := b) (Q := fun r2 M2 => nI s = r2 ∧ JJ M2) (K := fun M16 z17 _ => nI s = z17 ∧ JJ M16) hn (by omega) hs hb ⟨rfl, h⟩ (y 31 0 n) 0 (by omega)
      have e0 : r_rc s 0 = 0 := by unfold r_rc; split <;> omega
      rw [e0] at g
      exact g
    refine w_X0_records_i (sC_isNode_t hn (pr_f (by decide) ⟨n, hn, rfl, fun hb => ?_, fun hb => ?_⟩))
    · show w_X5_records (x, y) (nI n) b (fun r2 M2 => nI (x 6 n 2) = r2 ∧ JJ M2)
      exact ref _ (by omega) (Or.inl ⟨hb, e1⟩)
    · show w_X5_records (x, y) (nI n) b (fun r2 M2 => nI (x 6 n 3) = r2 ∧ JJ M2)
      exact ref _ (by omega) (Or.inr ⟨hb, fun k hk => (e3 k (by omega)).2.2.2.1⟩)
