/-! contracts -/
abbrev rmX3_finishCommit : Room := { frames := 3, cells := 0, slots := 0, locals := 67 }
set_option maxHeartbeats 4000000 in
set_option maxRecDepth 100000 in
theorem c_X3_finishCommit (l : Launch) (dC : Nat → ClassId) (dI : Nat → Nat → Nat) (ca : Nat → ClassId) (ad : Nat → Nat) (hI : am_inj ad) (M : am_M) (n : Nat) (hn : n < 4) (x1 : Int32) (Q : am_M → Prop) (h : w_X3_finishCommit M n x1 Q) : Met l yX3_finishCommit wsX3_finishCommit rmX3_finishCommit (va_Pc [.ref (ad (9 + 6 * n)), .int x1] (am_B dC dI ca ad M)) (am_Qv dC dI ca ad Q) 0 0 (am_A ad 63) := by
  refine Met.ofW (cc := cX3_finishCommit) (maxL := 2) (ret := none) (by decide) rfl ?_
  intro p e s m args below meth c s₁ B hml hv
  obtain ⟨rfl, hP, hK, hN⟩ := hv
  have hx := B.exec
  have hb := B.bytes
  have hr := B.returns
  have hts := atoms_spec (ws := wsX3_finishCommit) B.pre
  have hta : ∀ w ∈ am_all, w.before _ s = true := fun w hw => hts w (List.mem_cons_of_mem _ hw)
  have hown : s.vm.findClass RX3 = some m.cls := findClass_of_methodNamed B.named
  have hlocks := B.notSynchronized
  have hl := lv_entry ([.ref (ad (9 + 6 * n)), .int x1]) (n := 2) (Nat.le_of_ble_eq_true rfl)
  rw [lg_entry_eq]
  generalize (lg_sl ([.ref (ad (9 + 6 * n)), .int x1]) ++ List.replicate (2 - (lg_sl ([.ref (ad (9 + 6 * n)), .int x1])).length) Slot.unset).toArray = ls at hl ⊢
  have hl : lv_has ls 2 [(0, .ref (ad (9 + 6 * n))), (1, .int x1)] := hl
  replace h := w_X3_finishCommit_s h
  refine am_enter (A := am_A ad 63) hP (fun H locs hP hS => ?_)
  refine lv_aload_n hx hb dX3_finishCommit_0 rfl (lv_at hl 0 rfl) ?_
  refine gf_X3_15 hx hb hta hown hK hP (am_wo (i := (9 + 6 * n)) (by omega) (am_s_node ca hn)) (am_fvr (j := (10 + 6 * n)) rfl) dX3_finishCommit_1 ?_
  refine lv_iload_n hx hb dX3_finishCommit_4 rfl (lv_at hl 1 rfl) ?_
  refine am_iald hx hb hK hP (i := (10 + 6 * n)) (by omega) (am_s_states ca hn) h dX3_finishCommit_5 (fun k1 hk1 h => ?_)
  refine lv_iconst (v := (nI 3)) hx hb dX3_finishCommit_6 rfl ?_
  refine lv_icmp_ne (tgt := 25) hx hb dX3_finishCommit_7 rfl (fun hc => ?_) (fun hc => ?_)
  · replace h := h.1 hc
    clear hc
    exact am_vret hx hb hr hK hN hP hS h hlocks dX3_finishCommit_25
  · replace h := h.2 hc
    clear hc
    refine lv_aload_n hx hb dX3_finishCommit_10 rfl (lv_at hl 0 rfl) ?_
    refine gf_X3_25 hx hb hta hown hK hP (am_wo (i := (9 + 6 * n)) (by omega) (am_s_node ca hn)) (am_fvr (j := (12 + 6 * n)) rfl) dX3_finishCommit_11 ?_
    refine lv_iload_n hx hb dX3_finishCommit_14 rfl (lv_at hl 1 rfl) ?_
    refine lv_iconst (v := (nI 2)) hx hb dX3_finishCommit_15 rfl ?_
    refine lv_iconst (v := (nI 0)) hx hb dX3_finishCommit_16 rfl ?_
    refine am_callv (va_runV (C := RX1) (As := [.int x1, .int (nI 2), .int (nI 0)]) (rest := []) ⟨hx, hb, hml, hown, hts⟩ (c_X1_force l dC dI ca ad hI M n hn x1 (nI 2) (nI 0) _ h) ⟨callB_of 3 hts (am_gd mc_X1_force) rfl rfl rfl (hta _ mn_X1) (hta _ ml_X3_50) dc_X1_force ⟨Nat.le_of_ble_eq_true rfl, Nat.le_of_ble_eq_true rfl⟩, hta _ mi_X1_force, hta _ me_X1_force⟩ (am_preV (q := (RX1, TX1, 5)) hK hN hP rfl (by omega) (am_s_log ca hn)) rfl rfl hl.1 rfl (lv_room (Nat.le_of_ble_eq_true rfl)) dX3_finishCommit_17 ⟨Nat.zero_le _, Nat.zero_le _⟩) hS (fun M2 H locs hP hS h => ?_)
    refine lv_aload_n hx hb dX3_finishCommit_20 rfl (lv_at hl 0 rfl) ?_
    refine lv_iload_n hx hb dX3_finishCommit_21 rfl (lv_at hl 1 rfl) ?_
    refine am_callv (va_runV (C := RX3) (As := [.int x1]) (rest := []) ⟨hx, hb, hml, hown, hts⟩ (c_X3_letGo l dC dI ca ad hI M2 n hn x1 _ h) ⟨callB_of 1 hts (am_gd mc_X3_letGo) rfl rfl rfl (hta _ mn_X3) (hta _ ml_X3_47) dc_X3_letGo ⟨Nat.le_of_ble_eq_true rfl, Nat.le_of_ble_eq_true rfl⟩, hta _ mi_X3_letGo, hta _ me_X3_letGo⟩ (am_preV (q := (RX3, TX3, 4)) hK hN hP rfl (by omega) (am_s_node ca hn)) rfl rfl hl.1 rfl (lv_room (Nat.le_of_ble_eq_true rfl)) dX3_finishCommit_22 ⟨Nat.zero_le _, Nat.zero_le _⟩) hS (fun M3 H locs hP hS h => ?_)
    exact am_vret hx hb hr hK hN hP hS h hlocks dX3_finishCommit_25
abbrev rmX0_hearAck : Room := { frames := 2, cells := 0, slots := 0, locals := 44 }
set_option maxHeartbeats 4000000 in
set_option maxRecDepth 100000 in
theorem c_X0_hearAck (l : Launch) (dC : Nat → ClassId) (dI : Nat → Nat → Nat) (ca : Nat → ClassId) (ad : Nat → Nat) (hI : am_inj ad) (M : am_M) (x1 : Int32) (x2 : Int32) (Q : am_M → Prop) (h : w_X0_hearAck M x1 x2 Q) : Met l yX0_hearAck wsX0_hearAck rmX0_hearAck (va_Pc [.ref (ad 0), .int x1, .int x2] (am_B dC dI ca ad M)) (am_Qv dC dI ca ad Q) 0 0 (am_A ad 63) := by
  refine Met.ofW (cc := cX0_hearAck) (maxL := 4) (ret := none) (by decide) rfl ?_
  intro p e s m args below meth c s₁ B hml hv
  obtain ⟨rfl, hP, hK, hN⟩ := hv
  have hx := B.exec
  have hb := B.bytes
  have hr := B.returns
  have hts := atoms_spec (ws := wsX0_hearAck) B.pre
  have hta : ∀ w ∈ am_all, w.before _ s = true := fun w hw => hts w (List.mem_cons_of_mem _ hw)
  have hown : s.vm.findClass RX0 = some m.cls := findClass_of_methodNamed B.named
  have hlocks := B.notSynchronized
  have hl := lv_entry ([.ref (ad 0), .int x1, .int x2]) (n := 4) (Nat.le_of_ble_eq_true rfl)
  rw [lg_entry_eq]
  generalize (lg_sl ([.ref (ad 0), .int x1, .int x2]) ++ List.replicate (4 - (lg_sl ([.ref (ad 0), .int x1, .int x2])).length) Slot.unset).toArray = ls at hl ⊢
  have hl : lv_has ls 4 [(0, .ref (ad 0)), (1, .int x1), (2, .int x2)] := hl
  replace h := w_X0_hearAck_s h
  refine am_enter (A := am_A ad 63) hP (fun H locs hP hS => ?_)
  refine lv_aload_n hx hb dX0_hearAck_0 rfl (lv_at hl 0 rfl) ?_
  refine gf_X0_18 hx hb hta hown hK hP (am_wo (i := 0) (by decide) (am_s_outer ca)) (am_fvr (j := 2) rfl) dX0_hearAck_1 ?_
  refine lv_iload_n hx hb dX0_hearAck_4 rfl (lv_at hl 2 rfl) ?_
  refine am_aald hx hb hK hP (i := 2) (by decide) (am_s_trans ca) (t0 := 3) rfl h dX0_hearAck_5 (fun k1 hk1 h => ?_)
  refine lv_astore_n hx hb dX0_hearAck_6 rfl hl (by decide) rfl (fun ls hl => ?_)
  have hl : lv_has ls 4 [(3, .ref (ad (33 + k1))), (0, .ref (ad 0)), (1, .int x1), (2, .int x2)] := hl
  refine lv_aload_n hx hb dX0_hearAck_7 rfl (lv_at hl 0 rfl) ?_
  refine gf_X0_45 hx hb hta hown hK hP (am_wo (i := (33 + k1)) (by omega) (am_s_tx ca hk1)) (am_fvi rfl) dX0_hearAck_8 ?_
  refine lv_iconst (v := (nI 3)) hx hb dX0_hearAck_11 rfl ?_
  refine lv_icmp_eq (tgt := 16) hx hb dX0_hearAck_12 rfl (fun hc => ?_) (fun hc => ?_)
  · replace h := h.1 hc
    clear hc
    refine lv_aload_n hx hb dX0_hearAck_16 rfl (lv_at hl 0 rfl) ?_
    refine lv_dup hx hb dX0_hearAck_17 rfl ?_
    refine gf_X0_133 hx hb hta hown hK hP (am_wo (i := (33 + k1)) (by omega) (am_s_tx ca hk1)) (am_fvi rfl) dX0_hearAck_18 ?_
    refine lv_iload_n hx hb dX0_hearAck_21 rfl (lv_at hl 2 rfl) ?_
    refine am_calli (va_runS (As := [.int x1]) (rest := [.int (nI (M.1 9 k1 5)), .ref (ad (33 + k1))]) ⟨hx, hb, hml, hown, hts⟩ (c_X0_only l dC dI ca ad hI M x1 _ h) ⟨callB_of 1 hts (am_gd mc_X0_only) rfl rfl rfl (hta _ mn_X0) (hta _ ml_X0_65) dc_X0_only ⟨Nat.le_of_ble_eq_true rfl, Nat.le_of_ble_eq_true rfl⟩, hta _ ms_X0_only⟩ (am_preS hK hN hP) rfl rfl hl.1 rfl (lv_room (Nat.le_of_ble_eq_true rfl)) dX0_hearAck_22 ⟨Nat.zero_le _, Nat.zero_le _⟩) hS (fun y3 M2 H locs hP hS h => ?_)
    refine lv_iconst (v := (-1)) hx hb dX0_hearAck_25 rfl ?_
    refine lv_ixor hx hb dX0_hearAck_26 ?_
    refine lv_iand hx hb dX0_hearAck_27 ?_
    refine pf_X0_133 hx hb hta hown hK hP hI hS (i := (33 + k1)) (by omega) (am_s_tx ca hk1) h dX0_hearAck_28 (fun M4 H locs hP hS h => ?_)
    refine lv_aload_n hx hb dX0_hearAck_31 rfl (lv_at hl 0 rfl) ?_
    refine gf_X0_133 hx hb hta hown hK hP (am_wo (i := (33 + k1)) (by omega) (am_s_tx ca hk1)) (am_fvi rfl) dX0_hearAck_32 ?_
    refine lv_if_ne (tgt := 61) hx hb dX0_hearAck_35 rfl (fun hc => ?_) (fun hc => ?_)
    · replace h := h.1 hc
      clear hc
      exact am_vret hx hb hr hK hN hP hS h hlocks dX0_hearAck_61
    · replace h := h.2 hc
      clear hc
      refine lv_aload_n hx hb dX0_hearAck_38 rfl (lv_at hl 1 rfl) ?_
      refine gf_X0_11 hx hb hta hown hK hP (am_wo (i := 0) (by decide) (am_s_outer ca)) (am_fvr (j := 1) rfl) dX0_hearAck_39 ?_
      refine lv_aload_n hx hb dX0_hearAck_42 rfl (lv_at hl 0 rfl) ?_
      refine gf_X0_42 hx hb hta hown hK hP (am_wo (i := (33 + k1)) (by omega) (am_s_tx ca hk1)) (am_fvi rfl) dX0_hearAck_43 ?_
      refine am_aald hx hb hK hP (i := 1) (by decide) (am_s_nodes ca) (t0 := 2) rfl h dX0_hearAck_46 (fun k5 hk5 h => ?_)
      refine gf_X0_111 hx hb hta hown hK hP (am_wo (i := (9 + 6 * k5)) (by omega) (am_s_node ca hk5)) (am_fvr (j := (12 + 6 * k5)) rfl) dX0_hearAck_47 ?_
      refine lv_iload_n hx hb dX0_hearAck_50 rfl (lv_at hl 3 rfl) ?_
      refine lv_bipush (v := (nI 6)) hx hb dX0_hearAck_51 rfl ?_
      refine lv_iconst (v := (nI 0)) hx hb dX0_hearAck_53 rfl ?_
      refine am_callv (va_runV (C := RX1) (As := [.int x2, .int (nI 6), .int (nI 0)]) (rest := []) ⟨hx, hb, hml, hown, hts⟩ (c_X1_write l dC dI ca ad hI M4 k5 hk5 x2 (nI 6) (nI 0) _ h) ⟨callB_of 3 hts (am_gd mc_X1_write) rfl rfl rfl (hta _ mn_X1) (hta _ ml_X0_189) dc_X1_write ⟨Nat.le_of_ble_eq_true rfl, Nat.le_of_ble_eq_true rfl⟩, hta _ mi_X1_write, hta _ me_X1_write⟩ (am_preV (q := (RX1, TX1, 5)) hK hN hP rfl (by omega) (am_s_log ca hk5)) rfl rfl hl.1 rfl (lv_room (Nat.le_of_ble_eq_true rfl)) dX0_hearAck_54 ⟨Nat.zero_le _, Nat.zero_le _⟩) hS (fun M6 H locs hP hS h => ?_)
      refine lv_aload_n hx hb dX0_hearAck_57 rfl (lv_at hl 0 rfl) ?_
      refine am_callv (va_runV (C := RX4) (As := []) (rest := []) ⟨hx, hb, hml, hown, hts⟩ (c_X4_forget l dC dI ca ad hI M6 k1 hk1 _ h) ⟨callB_of 0 hts (am_gd mc_X4_forget) rfl rfl rfl (hta _ mn_X4) (hta _ ml_X0_72) dc_X4_forget ⟨Nat.le_of_ble_eq_true rfl, Nat.le_of_ble_eq_true rfl⟩, hta _ mi_X4_forget, hta _ me_X4_forget⟩ (am_preV (q := (RX4, TX4, 6)) hK hN hP rfl (by omega) (am_s_tx ca hk1)) rfl rfl hl.1 rfl (lv_room (Nat.le_of_ble_eq_true rfl)) dX0_hearAck_58 ⟨Nat.zero_le _, Nat.zero_le _⟩) hS (fun M7 H locs hP hS h => ?_)
      exact am_vret hx hb hr hK hN hP hS h hlocks dX0_hearAck_61
  · replace h := h.2 hc
    clear hc
    exact am_vret hx hb hr hK hN hP hS h hlocks dX0_hearAck_15
abbrev rmX0_hearInquiry : Room := { frames := 1, cells := 0, slots := 0, locals := 24 }
set_option maxHeartbeats 4000000 in
set_option maxRecDepth 100000 in
theorem c_X0_hearInquiry (l : Launch) (dC : Nat → ClassId) (dI : Nat → Nat → Nat) (ca : Nat → ClassId) (ad : Nat → Nat) (hI : am_inj ad) (M : am_M) (x1 : Int32) (x2 : Int32) (x3 : Int32) (Q : am_M → Prop) (h : w_X0_hearInquiry M x1 x2 x3 Q) : Met l yX0_hearInquiry wsX0_hearInquiry rmX0_hearInquiry (va_Pc [.ref (ad 0), .int x1, .int x2, .int x3] (am_B dC dI ca ad M)) (am_Qv dC dI ca ad Q) 0 0 (am_A ad 63) := by
  refine Met.ofW (cc := cX0_hearInquiry) (maxL := 5) (ret := none) (by decide) rfl ?_
  intro p e s m args below meth c s₁ B hml hv
  obtain ⟨rfl, hP, hK, hN⟩ := hv
  have hx := B.exec
  have hb := B.bytes
  have hr := B.returns
  have hts := atoms_spec (ws := wsX0_hearInquiry) B.pre
  have hta : ∀ w ∈ am_all, w.before _ s = true := fun w hw => hts w (List.mem_cons_of_mem _ hw)
  have hown : s.vm.findClass RX0 = some m.cls := findClass_of_methodNamed B.named
  have hlocks := B.notSynchronized
  have hl := lv_entry ([.ref (ad 0), .int x1, .int x2, .int x3]) (n := 5) (Nat.le_of_ble_eq_true rfl)
  rw [lg_entry_eq]
  generalize (lg_sl ([.ref (ad 0), .int x1, .int x2, .int x3]) ++ List.replicate (5 - (lg_sl ([.ref (ad 0), .int x1, .int x2, .int x3])).length) Slot.unset).toArray = ls at hl ⊢
  have hl : lv_has ls 5 [(0, .ref (ad 0)), (1, .int x1), (2, .int x2), (3, .int x3)] := hl
  replace h := w_X0_hearInquiry_s h
  refine am_enter (A := am_A ad 63) hP (fun H locs hP hS => ?_)
  refine lv_aload_n hx hb dX0_hearInquiry_0 rfl (lv_at hl 0 rfl) ?_
  refine gf_X0_18 hx hb hta hown hK hP (am_wo (i := 0) (by decide) (am_s_outer ca)) (am_fvr (j := 2) rfl) dX0_hearInquiry_1 ?_
  refine lv_iload_n hx hb dX0_hearInquiry_4 rfl (lv_at hl 3 rfl) ?_
  refine am_aald hx hb hK hP (i := 2) (by decide) (am_s_trans ca) (t0 := 3) rfl h dX0_hearInquiry_5 (fun k1 hk1 h => ?_)
  refine gf_X0_45 hx hb hta hown hK hP (am_wo (i := (33 + k1)) (by omega) (am_s_tx ca hk1)) (am_fvi rfl) dX0_hearInquiry_6 ?_
  refine am_topi h (fun y2 h => ?_)
  refine lv_istore hx hb dX0_hearInquiry_9 hl (by decide) rfl (fun ls hl => ?_)
  have hl : lv_has ls 5 [(4, .int y2), (0, .ref (ad 0)), (1, .int x1), (2, .int x2), (3, .int x3)] := hl
  refine lv_iload hx hb dX0_hearInquiry_11 (lv_at hl 0 rfl) ?_
  refine lv_iconst (v := (nI 3)) hx hb dX0_hearInquiry_13 rfl ?_
  refine lv_icmp_ne (tgt := 31) hx hb dX0_hearInquiry_14 rfl (fun hc => ?_) (fun hc => ?_)
  · replace h := h.1 hc
    clear hc
    refine lv_iload hx hb dX0_hearInquiry_31 (lv_at hl 0 rfl) ?_
    refine lv_if_ne (tgt := 48) hx hb dX0_hearInquiry_33 rfl (fun hc => ?_) (fun hc => ?_)
    · replace h := h.1 hc
      clear hc
      exact am_vret hx hb hr hK hN hP hS h hlocks dX0_hearInquiry_48
    · replace h := h.2 hc
      clear hc
      refine lv_aload_n hx hb dX0_hearInquiry_36 rfl (lv_at hl 1 rfl) ?_
      refine gf_X0_26 hx hb hta hown hK hP (am_wo (i := 0) (by decide) (am_s_outer ca)) (am_fvr (j := 3) rfl) dX0_hearInquiry_37 ?_
      refine lv_bipush (v := (nI 6)) hx hb dX0_hearInquiry_40 rfl ?_
      refine lv_iload_n hx hb dX0_hearInquiry_42 rfl (lv_at hl 3 rfl) ?_
      refine lv_iload_n hx hb dX0_hearInquiry_43 rfl (lv_at hl 2 rfl) ?_
      refine lv_iload_n hx hb dX0_hearInquiry_44 rfl (lv_at hl 4 rfl) ?_
      refine am_callv (va_runV (C := RX2) (As := [.int (nI 6), .int x2, .int x1, .int x3]) (rest := []) ⟨hx, hb, hml, hown, hts⟩ (c_X2_send l dC dI ca ad hI M (nI 6) x2 x1 x3 _ h) ⟨callB_of 4 hts (am_gd mc_X2_send) rfl rfl rfl (hta _ mn_X2) (hta _ ml_X0_159) dc_X2_send ⟨Nat.le_of_ble_eq_true rfl, Nat.le_of_ble_eq_true rfl⟩, hta _ mi_X2_send, hta _ me_X2_send⟩ (am_preV (q := (RX2, TX2, 2)) hK hN hP rfl (by decide) (am_s_row ca)) rfl rfl hl.1 rfl (lv_room (Nat.le_of_ble_eq_true rfl)) dX0_hearInquiry_45 ⟨Nat.zero_le _, Nat.zero_le _⟩) hS (fun M3 H locs hP hS h => ?_)
      exact am_vret hx hb hr hK hN hP hS h hlocks dX0_hearInquiry_48
  · replace h := h.2 hc
    clear hc
    refine lv_aload_n hx hb dX0_hearInquiry_17 rfl (lv_at hl 1 rfl) ?_
    refine gf_X0_26 hx hb hta hown hK hP (am_wo (i := 0) (by decide) (am_s_outer ca)) (am_fvr (j := 3) rfl) dX0_hearInquiry_18 ?_
    refine lv_iconst (v := (nI 5)) hx hb dX0_hearInquiry_21 rfl ?_
    refine lv_iload_n hx hb dX0_hearInquiry_22 rfl (lv_at hl 3 rfl) ?_
    refine lv_iload_n hx hb dX0_hearInquiry_23 rfl (lv_at hl 2 rfl) ?_
    refine lv_iload_n hx hb dX0_hearInquiry_24 rfl (lv_at hl 4 rfl) ?_
    refine am_callv (va_runV (C := RX2) (As := [.int (nI 5), .int x2, .int x1, .int x3]) (rest := []) ⟨hx, hb, hml, hown, hts⟩ (c_X2_send l dC dI ca ad hI M (nI 5) x2 x1 x3 _ h) ⟨callB_of 4 hts (am_gd mc_X2_send) rfl rfl rfl (hta _ mn_X2) (hta _ ml_X0_159) dc_X2_send ⟨Nat.le_of_ble_eq_true rfl, Nat.le_of_ble_eq_true rfl⟩, hta _ mi_X2_send, hta _ me_X2_send⟩ (am_preV (q := (RX2, TX2, 2)) hK hN hP rfl (by decide) (am_s_row ca)) rfl rfl hl.1 rfl (lv_room (Nat.le_of_ble_eq_true rfl)) dX0_hearInquiry_25 ⟨Nat.zero_le _, Nat.zero_le _⟩) hS (fun M4 H locs hP hS h => ?_)
    refine lv_goto (tgt := 48) hx hb dX0_hearInquiry_28 rfl ?_
    exact am_vret hx hb hr hK hN hP hS h hlocks dX0_hearInquiry_48
abbrev rmX0_hear : Room := { frames := 5, cells := 0, slots := 0, locals := 114 }
set_option maxHeartbeats 4000000 in
set_option maxRecDepth 100000 in
theorem c_X0_hear (l : Launch) (dC : Nat → ClassId) (dI : Nat → Nat → Nat) (ca : Nat → ClassId) (ad : Nat → Nat) (hI : am_inj ad) (M : am_M) (x1 : Int32) (x2 : Int32) (x3 : Int32) (x4 : Int32) (Q : am_M → Prop) (h : w_X0_hear M x1 x2 x3 x4 Q) : Met l yX0_hear wsX0_hear rmX0_hear (va_Pc [.ref (ad 0), .int x1, .int x2, .int x3, .int x4] (am_B dC dI ca ad M)) (am_Qv dC dI ca ad Q) 0 0 (am_A ad 63) := by
  refine Met.ofW (cc := cX0_hear) (maxL := 5) (ret := none) (by decide) rfl ?_
  intro p e s m args below meth c s₁ B hml hv
  obtain ⟨rfl, hP, hK, hN⟩ := hv
  have hx := B.exec
  have hb := B.bytes
  have hr := B.returns
  have hts := atoms_spec (ws := wsX0_hear) B.pre
  have hta : ∀ w ∈ am_all, w.before _ s = true := fun w hw => hts w (List.mem_cons_of_mem _ hw)
  have hown : s.vm.findClass RX0 = some m.cls := findClass_of_methodNamed B.named
  have hlocks := B.notSynchronized
  have hl := lv_entry ([.ref (ad 0), .int x1, .int x2, .int x3, .int x4]) (n := 5) (Nat.le_of_ble_eq_true rfl)
  rw [lg_entry_eq]
  generalize (lg_sl ([.ref (ad 0), .int x1, .int x2, .int x3, .int x4]) ++ List.replicate (5 - (lg_sl ([.ref (ad 0), .int x1, .int x2, .int x3, .int x4])).length) Slot.unset).toArray = ls at hl ⊢
  have hl : lv_has ls 5 [(0, .ref (ad 0)), (1, .int x1), (2, .int x2), (3, .int x3), (4, .int x4)] := hl
  replace h := w_X0_hear_s h
  refine am_enter (A := am_A ad 63) hP (fun H locs hP hS => ?_)
  refine lv_iload_n hx hb dX0_hear_0 rfl (lv_at hl 1 rfl) ?_
  by_cases hc : x1 = (nI 1)
  · replace h := h.1 hc
    refine lv_tableIn (tgt := 48) (off := 47) hx hb dX0_hear_1 (by rw [hc]; decide) (by rw [hc]; decide) (by rw [hc]; rfl) rfl ?_
    clear hc
    refine lv_aload_n hx hb dX0_hear_48 rfl (lv_at hl 0 rfl) ?_
    refine gf_X0_26 hx hb hta hown hK hP (am_wo (i := 0) (by decide) (am_s_outer ca)) (am_fvr (j := 3) rfl) dX0_hear_49 ?_
    refine lv_aload_n hx hb dX0_hear_52 rfl (lv_at hl 0 rfl) ?_
    refine gf_X0_11 hx hb hta hown hK hP (am_wo (i := 0) (by decide) (am_s_outer ca)) (am_fvr (j := 1) rfl) dX0_hear_53 ?_
    refine lv_iload_n hx hb dX0_hear_56 rfl (lv_at hl 3 rfl) ?_
    refine am_aald hx hb hK hP (i := 1) (by decide) (am_s_nodes ca) (t0 := 2) rfl h dX0_hear_57 (fun k1 hk1 h => ?_)
    refine lv_iload hx hb dX0_hear_58 (lv_at hl 4 rfl) ?_
    refine am_calli (va_runV (C := RX3) (As := [.int x4]) (rest := [.ref (ad 3)]) ⟨hx, hb, hml, hown, hts⟩ (c_X3_voteOn l dC dI ca ad hI M k1 hk1 x4 _ h) ⟨callB_of 1 hts (am_gd mc_X3_voteOn) rfl rfl rfl (hta _ mn_X3) (hta _ ml_X0_156) dc_X3_voteOn ⟨Nat.le_of_ble_eq_true rfl, Nat.le_of_ble_eq_true rfl⟩, hta _ mi_X3_voteOn, hta _ me_X3_voteOn⟩ (am_preV (q := (RX3, TX3, 4)) hK hN hP rfl (by omega) (am_s_node ca hk1)) rfl rfl hl.1 rfl (lv_room (Nat.le_of_ble_eq_true rfl)) dX0_hear_60 ⟨Nat.zero_le _, Nat.zero_le _⟩) hS (fun y3 M2 H locs hP hS h => ?_)
    refine lv_iload_n hx hb dX0_hear_63 rfl (lv_at hl 3 rfl) ?_
    refine lv_iload_n hx hb dX0_hear_64 rfl (lv_at hl 2 rfl) ?_
    refine lv_iload hx hb dX0_hear_65 (lv_at hl 4 rfl) ?_
    refine am_callv (va_runV (C := RX2) (As := [.int y3, .int x3, .int x2, .int x4]) (rest := []) ⟨hx, hb, hml, hown, hts⟩ (c_X2_send l dC dI ca ad hI M2 y3 x3 x2 x4 _ h) ⟨callB_of 4 hts (am_gd mc_X2_send) rfl rfl rfl (hta _ mn_X2) (hta _ ml_X0_159) dc_X2_send ⟨Nat.le_of_ble_eq_true rfl, Nat.le_of_ble_eq_true rfl⟩, hta _ mi_X2_send, hta _ me_X2_send⟩ (am_preV (q := (RX2, TX2, 2)) hK hN hP rfl (by decide) (am_s_row ca)) rfl rfl hl.1 rfl (lv_room (Nat.le_of_ble_eq_true rfl)) dX0_hear_67 ⟨Nat.zero_le _, Nat.zero_le _⟩) hS (fun M4 H locs hP hS h => ?_)
    refine lv_goto (tgt := 146) hx hb dX0_hear_70 rfl ?_
    exact am_vret hx hb hr hK hN hP hS h hlocks dX0_hear_146
  · replace h := h.2 hc
    have hc1 := lv_neT (a := 1) hc rfl
    clear hc
    by_cases hc : x1 = (nI 2)
    · replace h := h.1 hc
      refine lv_tableIn (tgt := 73) (off := 72) hx hb dX0_hear_1 (by rw [hc]; decide) (by rw [hc]; decide) (by rw [hc]; rfl) rfl ?_
      clear hc
      refine lv_aload_n hx hb dX0_hear_73 rfl (lv_at hl 0 rfl) ?_
      refine lv_iload_n hx hb dX0_hear_74 rfl (lv_at hl 1 rfl) ?_
      refine lv_iload_n hx hb dX0_hear_75 rfl (lv_at hl 2 rfl) ?_
      refine lv_iload hx hb dX0_hear_76 (lv_at hl 4 rfl) ?_
      refine am_callv (va_runV (C := RX0) (As := [.int x1, .int x2, .int x4]) (rest := []) ⟨hx, hb, hml, hown, hts⟩ (c_X0_hearVote l dC dI ca ad hI M x1 x2 x4 _ h) ⟨callB_of 3 hts (am_gd mc_X0_hearVote) rfl rfl rfl (hta _ mn_X0) (hta _ ml_X0_162) dc_X0_hearVote ⟨Nat.le_of_ble_eq_true rfl, Nat.le_of_ble_eq_true rfl⟩, hta _ mi_X0_hearVote, hta _ me_X0_hearVote⟩ (am_preV (q := (RX0, TX0, 4)) hK hN hP rfl (by decide) (am_s_outer ca)) rfl rfl hl.1 rfl (lv_room (Nat.le_of_ble_eq_true rfl)) dX0_hear_78 ⟨Nat.zero_le _, Nat.zero_le _⟩) hS (fun M5 H locs hP hS h => ?_)
      refine lv_goto (tgt := 146) hx hb dX0_hear_81 rfl ?_
      exact am_vret hx hb hr hK hN hP hS h hlocks dX0_hear_146
    · replace h := h.2 hc
      have hc2 := lv_neT (a := 2) hc rfl
      clear hc
      by_cases hc : x1 = (nI 3)
      · replace h := h.1 hc
        refine lv_tableIn (tgt := 73) (off := 72) hx hb dX0_hear_1 (by rw [hc]; decide) (by rw [hc]; decide) (by rw [hc]; rfl) rfl ?_
        clear hc
        refine lv_aload_n hx hb dX0_hear_73 rfl (lv_at hl 0 rfl) ?_
        refine lv_iload_n hx hb dX0_hear_74 rfl (lv_at hl 1 rfl) ?_
        refine lv_iload_n hx hb dX0_hear_75 rfl (lv_at hl 2 rfl) ?_
        refine lv_iload hx hb dX0_hear_76 (lv_at hl 4 rfl) ?_
        refine am_callv (va_runV (C := RX0) (As := [.int x1, .int x2, .int x4]) (rest := []) ⟨hx, hb, hml, hown, hts⟩ (c_X0_hearVote l dC dI ca ad hI M x1 x2 x4 _ h) ⟨callB_of 3 hts (am_gd mc_X0_hearVote) rfl rfl rfl (hta _ mn_X0) (hta _ ml_X0_162) dc_X0_hearVote ⟨Nat.le_of_ble_eq_true rfl, Nat.le_of_ble_eq_true rfl⟩, hta _ mi_X0_hearVote, hta _ me_X0_hearVote⟩ (am_preV (q := (RX0, TX0, 4)) hK hN hP rfl (by decide) (am_s_outer ca)) rfl rfl hl.1 rfl (lv_room (Nat.le_of_ble_eq_true rfl)) dX0_hear_78 ⟨Nat.zero_le _, Nat.zero_le _⟩) hS (fun M6 H locs hP hS h => ?_)
        refine lv_goto (tgt := 146) hx hb dX0_hear_81 rfl ?_
        exact am_vret hx hb hr hK hN hP hS h hlocks dX0_hear_146
      · replace h := h.2 hc
        have hc3 := lv_neT (a := 3) hc rfl
        clear hc
        by_cases hc : x1 = (nI 4)
        · replace h := h.1 hc
          refine lv_tableIn (tgt := 73) (off := 72) hx hb dX0_hear_1 (by rw [hc]; decide) (by rw [hc]; decide) (by rw [hc]; rfl) rfl ?_
          clear hc
          refine lv_aload_n hx hb dX0_hear_73 rfl (lv_at hl 0 rfl) ?_
          refine lv_iload_n hx hb dX0_hear_74 rfl (lv_at hl 1 rfl) ?_
          refine lv_iload_n hx hb dX0_hear_75 rfl (lv_at hl 2 rfl) ?_
          refine lv_iload hx hb dX0_hear_76 (lv_at hl 4 rfl) ?_
          refine am_callv (va_runV (C := RX0) (As := [.int x1, .int x2, .int x4]) (rest := []) ⟨hx, hb, hml, hown, hts⟩ (c_X0_hearVote l dC dI ca ad hI M x1 x2 x4 _ h) ⟨callB_of 3 hts (am_gd mc_X0_hearVote) rfl rfl rfl (hta _ mn_X0) (hta _ ml_X0_162) dc_X0_hearVote ⟨Nat.le_of_ble_eq_true rfl, Nat.le_of_ble_eq_true rfl⟩, hta _ mi_X0_hearVote, hta _ me_X0_hearVote⟩ (am_preV (q := (RX0, TX0, 4)) hK hN hP rfl (by decide) (am_s_outer ca)) rfl rfl hl.1 rfl (lv_room (Nat.le_of_ble_eq_true rfl)) dX0_hear_78 ⟨Nat.zero_le _, Nat.zero_le _⟩) hS (fun M7 H locs hP hS h => ?_)
          refine lv_goto (tgt := 146) hx hb dX0_hear_81 rfl ?_
          exact am_vret hx hb hr hK hN hP hS h hlocks dX0_hear_146
        · replace h := h.2 hc
          have hc4 := lv_neT (a := 4) hc rfl
          clear hc
          by_cases hc : x1 = (nI 5)
          · replace h := h.1 hc
            refine lv_tableIn (tgt := 84) (off := 83) hx hb dX0_hear_1 (by rw [hc]; decide) (by rw [hc]; decide) (by rw [hc]; rfl) rfl ?_
            clear hc
            refine lv_aload_n hx hb dX0_hear_84 rfl (lv_at hl 0 rfl) ?_
            refine gf_X0_11 hx hb hta hown hK hP (am_wo (i := 0) (by decide) (am_s_outer ca)) (am_fvr (j := 1) rfl) dX0_hear_85 ?_
            refine lv_iload_n hx hb dX0_hear_88 rfl (lv_at hl 3 rfl) ?_
            refine am_aald hx hb hK hP (i := 1) (by decide) (am_s_nodes ca) (t0 := 2) rfl h dX0_hear_89 (fun k8 hk8 h => ?_)
            refine lv_iload hx hb dX0_hear_90 (lv_at hl 4 rfl) ?_
            refine am_callv (va_runV (C := RX3) (As := [.int x4]) (rest := []) ⟨hx, hb, hml, hown, hts⟩ (c_X3_finishCommit l dC dI ca ad hI M k8 hk8 x4 _ h) ⟨callB_of 1 hts (am_gd mc_X3_finishCommit) rfl rfl rfl (hta _ mn_X3) (hta _ ml_X0_166) dc_X3_finishCommit ⟨Nat.le_of_ble_eq_true rfl, Nat.le_of_ble_eq_true rfl⟩, hta _ mi_X3_finishCommit, hta _ me_X3_finishCommit⟩ (am_preV (q := (RX3, TX3, 4)) hK hN hP rfl (by omega) (am_s_node ca hk8)) rfl rfl hl.1 rfl (lv_room (Nat.le_of_ble_eq_true rfl)) dX0_hear_92 ⟨Nat.zero_le _, Nat.zero_le _⟩) hS (fun M9 H locs hP hS h => ?_)
            refine lv_aload_n hx hb dX0_hear_95 rfl (lv_at hl 0 rfl) ?_
            refine gf_X0_26 hx hb hta hown hK hP (am_wo (i := 0) (by decide) (am_s_outer ca)) (am_fvr (j := 3) rfl) dX0_hear_96 ?_
            refine lv_bipush (v := (nI 7)) hx hb dX0_hear_99 rfl ?_
            refine lv_iload_n hx hb dX0_hear_101 rfl (lv_at hl 3 rfl) ?_
            refine lv_iload_n hx hb dX0_hear_102 rfl (lv_at hl 2 rfl) ?_
            refine lv_iload hx hb dX0_hear_103 (lv_at hl 4 rfl) ?_
            refine am_callv (va_runV (C := RX2) (As := [.int (nI 7), .int x3, .int x2, .int x4]) (rest := []) ⟨hx, hb, hml, hown, hts⟩ (c_X2_send l dC dI ca ad hI M9 (nI 7) x3 x2 x4 _ h) ⟨callB_of 4 hts (am_gd mc_X2_send) rfl rfl rfl (hta _ mn_X2) (hta _ ml_X0_159) dc_X2_send ⟨Nat.le_of_ble_eq_true rfl, Nat.le_of_ble_eq_true rfl⟩, hta _ mi_X2_send, hta _ me_X2_send⟩ (am_preV (q := (RX2, TX2, 2)) hK hN hP rfl (by decide) (am_s_row ca)) rfl rfl hl.1 rfl (lv_room (Nat.le_of_ble_eq_true rfl)) dX0_hear_105 ⟨Nat.zero_le _, Nat.zero_le _⟩) hS (fun M10 H locs hP hS h => ?_)
            refine lv_goto (tgt := 146) hx hb dX0_hear_108 rfl ?_
            exact am_vret hx hb hr hK hN hP hS h hlocks dX0_hear_146
          · replace h := h.2 hc
            have hc5 := lv_neT (a := 5) hc rfl
            clear hc
            by_cases hc : x1 = (nI 6)
            · replace h := h.1 hc
              refine lv_tableIn (tgt := 111) (off := 110) hx hb dX0_hear_1 (by rw [hc]; decide) (by rw [hc]; decide) (by rw [hc]; rfl) rfl ?_
              clear hc
              refine lv_aload_n hx hb dX0_hear_111 rfl (lv_at hl 0 rfl) ?_
              refine gf_X0_11 hx hb hta hown hK hP (am_wo (i := 0) (by decide) (am_s_outer ca)) (am_fvr (j := 1) rfl) dX0_hear_112 ?_
              refine lv_iload_n hx hb dX0_hear_115 rfl (lv_at hl 3 rfl) ?_
              refine am_aald hx hb hK hP (i := 1) (by decide) (am_s_nodes ca) (t0 := 2) rfl h dX0_hear_116 (fun k11 hk11 h => ?_)
              refine lv_iload hx hb dX0_hear_117 (lv_at hl 4 rfl) ?_
              refine am_callv (va_runV (C := RX3) (As := [.int x4]) (rest := []) ⟨hx, hb, hml, hown, hts⟩ (c_X3_abort l dC dI ca ad hI M k11 hk11 x4 _ h) ⟨callB_of 1 hts (am_gd mc_X3_abort) rfl rfl rfl (hta _ mn_X3) (hta _ ml_X0_169) dc_X3_abort ⟨Nat.le_of_ble_eq_true rfl, Nat.le_of_ble_eq_true rfl⟩, hta _ mi_X3_abort, hta _ me_X3_abort⟩ (am_preV (q := (RX3, TX3, 4)) hK hN hP rfl (by omega) (am_s_node ca hk11)) rfl rfl hl.1 rfl (lv_room (Nat.le_of_ble_eq_true rfl)) dX0_hear_119 ⟨Nat.zero_le _, Nat.zero_le _⟩) hS (fun M12 H locs hP hS h => ?_)
              refine lv_goto (tgt := 146) hx hb dX0_hear_122 rfl ?_
              exact am_vret hx hb hr hK hN hP hS h hlocks dX0_hear_146
            · replace h := h.2 hc
              have hc6 := lv_neT (a := 6) hc rfl
              clear hc
              by_cases hc : x1 = (nI 7)
              · replace h := h.1 hc
                refine lv_tableIn (tgt := 125) (off := 124) hx hb dX0_hear_1 (by rw [hc]; decide) (by rw [hc]; decide) (by rw [hc]; rfl) rfl ?_
                clear hc
                refine lv_aload_n hx hb dX0_hear_125 rfl (lv_at hl 0 rfl) ?_
                refine lv_iload_n hx hb dX0_hear_126 rfl (lv_at hl 2 rfl) ?_
                refine lv_iload hx hb dX0_hear_127 (lv_at hl 4 rfl) ?_
                refine am_callv (va_runV (C := RX0) (As := [.int x2, .int x4]) (rest := []) ⟨hx, hb, hml, hown, hts⟩ (c_X0_hearAck l dC dI ca ad hI M x2 x4 _ h) ⟨callB_of 2 hts (am_gd mc_X0_hearAck) rfl rfl rfl (hta _ mn_X0) (hta _ ml_X0_172) dc_X0_hearAck ⟨Nat.le_of_ble_eq_true rfl, Nat.le_of_ble_eq_true rfl⟩, hta _ mi_X0_hearAck, hta _ me_X0_hearAck⟩ (am_preV (q := (RX0, TX0, 4)) hK hN hP rfl (by decide) (am_s_outer ca)) rfl rfl hl.1 rfl (lv_room (Nat.le_of_ble_eq_true rfl)) dX0_hear_129 ⟨Nat.zero_le _, Nat.zero_le _⟩) hS (fun M13 H locs hP hS h => ?_)
                refine lv_goto (tgt := 146) hx hb dX0_hear_132 rfl ?_
                exact am_vret hx hb hr hK hN hP hS h hlocks dX0_hear_146
              · replace h := h.2 hc
                have hc7 := lv_neT (a := 7) hc rfl
                clear hc
                by_cases hc : x1 = (nI 8)
                · replace h := h.1 hc
                  refine lv_tableIn (tgt := 135) (off := 134) hx hb dX0_hear_1 (by rw [hc]; decide) (by rw [hc]; decide) (by rw [hc]; rfl) rfl ?_
                  clear hc
                  refine lv_aload_n hx hb dX0_hear_135 rfl (lv_at hl 0 rfl) ?_
                  refine lv_iload_n hx hb dX0_hear_136 rfl (lv_at hl 2 rfl) ?_
                  refine lv_iload_n hx hb dX0_hear_137 rfl (lv_at hl 3 rfl) ?_
                  refine lv_iload hx hb dX0_hear_138 (lv_at hl 4 rfl) ?_
                  refine am_callv (va_runV (C := RX0) (As := [.int x2, .int x3, .int x4]) (rest := []) ⟨hx, hb, hml, hown, hts⟩ (c_X0_hearInquiry l dC dI ca ad hI M x2 x3 x4 _ h) ⟨callB_of 3 hts (am_gd mc_X0_hearInquiry) rfl rfl rfl (hta _ mn_X0) (hta _ ml_X0_176) dc_X0_hearInquiry ⟨Nat.le_of_ble_eq_true rfl, Nat.le_of_ble_eq_true rfl⟩, hta _ mi_X0_hearInquiry, hta _ me_X0_hearInquiry⟩ (am_preV (q := (RX0, TX0, 4)) hK hN hP rfl (by decide) (am_s_outer ca)) rfl rfl hl.1 rfl (lv_room (Nat.le_of_ble_eq_true rfl)) dX0_hear_140 ⟨Nat.zero_le _, Nat.zero_le _⟩) hS (fun M14 H locs hP hS h => ?_)
                  refine lv_goto (tgt := 146) hx hb dX0_hear_143 rfl ?_
                  exact am_vret hx hb hr hK hN hP hS h hlocks dX0_hear_146
                · replace h := h.2 hc
                  have hc8 := lv_neT (a := 8) hc rfl
                  clear hc
                  refine lv_tableOut (tgt := 146) hx hb dX0_hear_1 (by omega) rfl ?_
                  clear hc1 hc2 hc3 hc4 hc5 hc6 hc7 hc8
                  exact am_vret hx hb hr hK hN hP hS h hlocks dX0_hear_146
abbrev rmX0_deliver : Room := { frames := 6, cells := 0, slots := 0, locals := 138 }
set_option maxHeartbeats 4000000 in
set_option maxRecDepth 100000 in
theorem c_X0_deliver (l : Launch) (dC : Nat → ClassId) (dI : Nat → Nat → Nat) (ca : Nat → ClassId) (ad : Nat → Nat) (hI : am_inj ad) (M : am_M) (x1 : Int32) (Q : Int32 → am_M → Prop) (h : w_X0_deliver M x1 Q) : Met l yX0_deliver wsX0_deliver rmX0_deliver (va_Pc [.ref (ad 0), .int x1] (am_B dC dI ca ad M)) (am_Qi dC dI ca ad Q) 0 0 (am_A ad 63) := by
  refine Met.ofW (cc := cX0_deliver) (maxL := 6) (ret := (some .int)) (by decide) rfl ?_
  intro p e s m args below meth c s₁ B hml hv
  obtain ⟨rfl, hP, hK, hN⟩ := hv
  have hx := B.exec
  have hb := B.bytes
  have hr := B.returns
  have hts := atoms_spec (ws := wsX0_deliver) B.pre
  have hta : ∀ w ∈ am_all, w.before _ s = true := fun w hw => hts w (List.mem_cons_of_mem _ hw)
  have hown : s.vm.findClass RX0 = some m.cls := findClass_of_methodNamed B.named
  have hlocks := B.notSynchronized
  have hl := lv_entry ([.ref (ad 0), .int x1]) (n := 6) (Nat.le_of_ble_eq_true rfl)
  rw [lg_entry_eq]
  generalize (lg_sl ([.ref (ad 0), .int x1]) ++ List.replicate (6 - (lg_sl ([.ref (ad 0), .int x1])).length) Slot.unset).toArray = ls at hl ⊢
  have hl : lv_has ls 6 [(0, .ref (ad 0)), (1, .int x1)] := hl
  replace h := w_X0_deliver_s h
  refine am_enter (A := am_A ad 63) hP (fun H locs hP hS => ?_)
  refine lv_aload_n hx hb dX0_deliver_0 rfl (lv_at hl 0 rfl) ?_
  refine gf_X0_26 hx hb hta hown hK hP (am_wo (i := 0) (by decide) (am_s_outer ca)) (am_fvr (j := 3) rfl) dX0_deliver_1 ?_
  refine lv_iload_n hx hb dX0_deliver_4 rfl (lv_at hl 1 rfl) ?_
  refine am_calli (va_runV (C := RX2) (As := [.int x1]) (rest := []) ⟨hx, hb, hml, hown, hts⟩ (c_X2_has l dC dI ca ad hI M x1 _ h) ⟨callB_of 1 hts (am_gd mc_X2_has) rfl rfl rfl (hta _ mn_X2) (hta _ ml_X0_88) dc_X2_has ⟨Nat.le_of_ble_eq_true rfl, Nat.le_of_ble_eq_true rfl⟩, hta _ mi_X2_has, hta _ me_X2_has⟩ (am_preV (q := (RX2, TX2, 2)) hK hN hP rfl (by decide) (am_s_row ca)) rfl rfl hl.1 rfl (lv_room (Nat.le_of_ble_eq_true rfl)) dX0_deliver_5 ⟨Nat.zero_le _, Nat.zero_le _⟩) hS (fun y2 M1 H locs hP hS h => ?_)
  refine lv_if_ne (tgt := 14) hx hb dX0_deliver_8 rfl (fun hc => ?_) (fun hc => ?_)
  · replace h := h.1 hc
    clear hc
    refine lv_aload_n hx hb dX0_deliver_14 rfl (lv_at hl 0 rfl) ?_
    refine gf_X0_26 hx hb hta hown hK hP (am_wo (i := 0) (by decide) (am_s_outer ca)) (am_fvr (j := 3) rfl) dX0_deliver_15 ?_
    refine gf_X0_91 hx hb hta hown hK hP (am_wo (i := 3) (by decide) (am_s_row ca)) (am_fvr (j := 4) rfl) dX0_deliver_18 ?_
    refine lv_iconst (v := (nI 0)) hx hb dX0_deliver_21 rfl ?_
    refine am_aald hx hb hK hP (i := 4) (by decide) (am_s_parts ca) (t0 := 4) rfl h dX0_deliver_22 (fun k3 hk3 h => ?_)
    refine lv_iload_n hx hb dX0_deliver_23 rfl (lv_at hl 1 rfl) ?_
    refine am_iald hx hb hK hP (i := (5 + k3)) (by omega) (am_s_part ca hk3) h dX0_deliver_24 (fun k4 hk4 h => ?_)
    refine am_topi h (fun y5 h => ?_)
    refine lv_istore_n hx hb dX0_deliver_25 rfl hl (by decide) rfl (fun ls hl => ?_)
    have hl : lv_has ls 6 [(2, .int y5), (0, .ref (ad 0)), (1, .int x1)] := hl
    refine lv_aload_n hx hb dX0_deliver_26 rfl (lv_at hl 1 rfl) ?_
    refine gf_X0_26 hx hb hta hown hK hP (am_wo (i := 0) (by decide) (am_s_outer ca)) (am_fvr (j := 3) rfl) dX0_deliver_27 ?_
    refine gf_X0_91 hx hb hta hown hK hP (am_wo (i := 3) (by decide) (am_s_row ca)) (am_fvr (j := 4) rfl) dX0_deliver_30 ?_
    refine lv_iconst (v := (nI 1)) hx hb dX0_deliver_33 rfl ?_
    refine am_aald hx hb hK hP (i := 4) (by decide) (am_s_parts ca) (t0 := 4) rfl h dX0_deliver_34 (fun k6 hk6 h => ?_)
    refine lv_iload_n hx hb dX0_deliver_35 rfl (lv_at hl 2 rfl) ?_
    refine am_iald hx hb hK hP (i := (5 + k6)) (by omega) (am_s_part ca hk6) h dX0_deliver_36 (fun k7 hk7 h => ?_)
    refine am_topi h (fun y8 h => ?_)
    refine lv_istore_n hx hb dX0_deliver_37 rfl hl (by decide) rfl (fun ls hl => ?_)
    have hl : lv_has ls 6 [(3, .int y8), (2, .int y5), (0, .ref (ad 0)), (1, .int x1)] := hl
    refine lv_aload_n hx hb dX0_deliver_38 rfl (lv_at hl 2 rfl) ?_
    refine gf_X0_26 hx hb hta hown hK hP (am_wo (i := 0) (by decide) (am_s_outer ca)) (am_fvr (j := 3) rfl) dX0_deliver_39 ?_
    refine gf_X0_91 hx hb hta hown hK hP (am_wo (i := 3) (by decide) (am_s_row ca)) (am_fvr (j := 4) rfl) dX0_deliver_42 ?_
    refine lv_iconst (v := (nI 2)) hx hb dX0_deliver_45 rfl ?_
    refine am_aald hx hb hK hP (i := 4) (by decide) (am_s_parts ca) (t0 := 4) rfl h dX0_deliver_46 (fun k9 hk9 h => ?_)
    refine lv_iload_n hx hb dX0_deliver_47 rfl (lv_at hl 3 rfl) ?_
    refine am_iald hx hb hK hP (i := (5 + k9)) (by omega) (am_s_part ca hk9) h dX0_deliver_48 (fun k10 hk10 h => ?_)
    refine am_topi h (fun y11 h => ?_)
    refine lv_istore hx hb dX0_deliver_49 hl (by decide) rfl (fun ls hl => ?_)
    have hl : lv_has ls 6 [(4, .int y11), (3, .int y8), (2, .int y5), (0, .ref (ad 0)), (1, .int x1)] := hl
    refine lv_aload_n hx hb dX0_deliver_51 rfl (lv_at hl 3 rfl) ?_
    refine gf_X0_26 hx hb hta hown hK hP (am_wo (i := 0) (by decide) (am_s_outer ca)) (am_fvr (j := 3) rfl) dX0_deliver_52 ?_
    refine gf_X0_91 hx hb hta hown hK hP (am_wo (i := 3) (by decide) (am_s_row ca)) (am_fvr (j := 4) rfl) dX0_deliver_55 ?_
    refine lv_iconst (v := (nI 3)) hx hb dX0_deliver_58 rfl ?_
    refine am_aald hx hb hK hP (i := 4) (by decide) (am_s_parts ca) (t0 := 4) rfl h dX0_deliver_59 (fun k12 hk12 h => ?_)
    refine lv_iload_n hx hb dX0_deliver_60 rfl (lv_at hl 4 rfl) ?_
    refine am_iald hx hb hK hP (i := (5 + k12)) (by omega) (am_s_part ca hk12) h dX0_deliver_61 (fun k13 hk13 h => ?_)
    refine am_topi h (fun y14 h => ?_)
    refine lv_istore hx hb dX0_deliver_62 hl (by decide) rfl (fun ls hl => ?_)
    have hl : lv_has ls 6 [(5, .int y14), (4, .int y11), (3, .int y8), (2, .int y5), (0, .ref (ad 0)), (1, .int x1)] := hl
    refine lv_aload_n hx hb dX0_deliver_64 rfl (lv_at hl 4 rfl) ?_
    refine gf_X0_26 hx hb hta hown hK hP (am_wo (i := 0) (by decide) (am_s_outer ca)) (am_fvr (j := 3) rfl) dX0_deliver_65 ?_
    refine lv_iload_n hx hb dX0_deliver_68 rfl (lv_at hl 5 rfl) ?_
    refine am_callv (va_runV (C := RX2) (As := [.int x1]) (rest := []) ⟨hx, hb, hml, hown, hts⟩ (c_X2_takeOut l dC dI ca ad hI M1 x1 _ h) ⟨callB_of 1 hts (am_gd mc_X2_takeOut) rfl rfl rfl (hta _ mn_X2) (hta _ ml_X0_95) dc_X2_takeOut ⟨Nat.le_of_ble_eq_true rfl, Nat.le_of_ble_eq_true rfl⟩, hta _ mi_X2_takeOut, hta _ me_X2_takeOut⟩ (am_preV (q := (RX2, TX2, 2)) hK hN hP rfl (by decide) (am_s_row ca)) rfl rfl hl.1 rfl (lv_room (Nat.le_of_ble_eq_true rfl)) dX0_deliver_69 ⟨Nat.zero_le _, Nat.zero_le _⟩) hS (fun M15 H locs hP hS h => ?_)
    refine lv_aload_n hx hb dX0_deliver_72 rfl (lv_at hl 4 rfl) ?_
    refine gf_X0_11 hx hb hta hown hK hP (am_wo (i := 0) (by decide) (am_s_outer ca)) (am_fvr (j := 1) rfl) dX0_deliver_73 ?_
    refine lv_iload hx hb dX0_deliver_76 (lv_at hl 1 rfl) ?_
    refine am_aald hx hb hK hP (i := 1) (by decide) (am_s_nodes ca) (t0 := 2) rfl h dX0_deliver_78 (fun k16 hk16 h => ?_)
    refine gf_X0_38 hx hb hta hown hK hP (am_wo (i := (9 + 6 * k16)) (by omega) (am_s_node ca hk16)) (am_fvi rfl) dX0_deliver_79 ?_
    refine lv_if_eq (tgt := 95) hx hb dX0_deliver_82 rfl (fun hc => ?_) (fun hc => ?_)
    · replace h := h.1 hc
      clear hc
      refine lv_iload_n hx hb dX0_deliver_95 rfl (lv_at hl 3 rfl) ?_
      exact am_iret hx hb hr hK hN hP hS h hlocks dX0_deliver_96
    · replace h := h.2 hc
      clear hc
      refine lv_aload_n hx hb dX0_deliver_85 rfl (lv_at hl 4 rfl) ?_
      refine lv_iload_n hx hb dX0_deliver_86 rfl (lv_at hl 3 rfl) ?_
      refine lv_iload_n hx hb dX0_deliver_87 rfl (lv_at hl 2 rfl) ?_
      refine lv_iload hx hb dX0_deliver_88 (lv_at hl 1 rfl) ?_
      refine lv_iload hx hb dX0_deliver_90 (lv_at hl 0 rfl) ?_
      refine am_callv (va_runV (C := RX0) (As := [.int y5, .int y8, .int y11, .int y14]) (rest := []) ⟨hx, hb, hml, hown, hts⟩ (c_X0_hear l dC dI ca ad hI M15 y5 y8 y11 y14 _ h) ⟨callB_of 4 hts (am_gd mc_X0_hear) rfl rfl rfl (hta _ mn_X0) (hta _ ml_X0_99) dc_X0_hear ⟨Nat.le_of_ble_eq_true rfl, Nat.le_of_ble_eq_true rfl⟩, hta _ mi_X0_hear, hta _ me_X0_hear⟩ (am_preV (q := (RX0, TX0, 4)) hK hN hP rfl (by decide) (am_s_outer ca)) rfl rfl hl.1 rfl (lv_room (Nat.le_of_ble_eq_true rfl)) dX0_deliver_92 ⟨Nat.zero_le _, Nat.zero_le _⟩) hS (fun M17 H locs hP hS h => ?_)
      refine lv_iload_n hx hb dX0_deliver_95 rfl (lv_at hl 3 rfl) ?_
      exact am_iret hx hb hr hK hN hP hS h hlocks dX0_deliver_96
  · replace h := h.2 hc
    clear hc
    refine lv_bipush (v := (-2)) hx hb dX0_deliver_11 rfl ?_
    exact am_iret hx hb hr hK hN hP hS h hlocks dX0_deliver_13
abbrev rmX0_lose : Room := { frames := 1, cells := 0, slots := 0, locals := 23 }
set_option maxHeartbeats 4000000 in
set_option maxRecDepth 100000 in
theorem c_X0_lose (l : Launch) (dC : Nat → ClassId) (dI : Nat → Nat → Nat) (ca : Nat → ClassId) (ad : Nat → Nat) (hI : am_inj ad) (M : am_M) (x1 : Int32) (Q : Int32 → am_M → Prop) (h : w_X0_lose M x1 Q) : Met l yX0_lose wsX0_lose rmX0_lose (va_Pc [.ref (ad 0), .int x1] (am_B dC dI ca ad M)) (am_Qi dC dI ca ad Q) 0 0 (am_A ad 63) := by
  refine Met.ofW (cc := cX0_lose) (maxL := 3) (ret := (some .int)) (by decide) rfl ?_
  intro p e s m args below meth c s₁ B hml hv
  obtain ⟨rfl, hP, hK, hN⟩ := hv
  have hx := B.exec
  have hb := B.bytes
  have hr := B.returns
  have hts := atoms_spec (ws := wsX0_lose) B.pre
  have hta : ∀ w ∈ am_all, w.before _ s = true := fun w hw => hts w (List.mem_cons_of_mem _ hw)
  have hown : s.vm.findClass RX0 = some m.cls := findClass_of_methodNamed B.named
  have hlocks := B.notSynchronized
  have hl := lv_entry ([.ref (ad 0), .int x1]) (n := 3) (Nat.le_of_ble_eq_true rfl)
  rw [lg_entry_eq]
  generalize (lg_sl ([.ref (ad 0), .int x1]) ++ List.replicate (3 - (lg_sl ([.ref (ad 0), .int x1])).length) Slot.unset).toArray = ls at hl ⊢
  have hl : lv_has ls 3 [(0, .ref (ad 0)), (1, .int x1)] := hl
  replace h := w_X0_lose_s h
  refine am_enter (A := am_A ad 63) hP (fun H locs hP hS => ?_)
  refine lv_aload_n hx hb dX0_lose_0 rfl (lv_at hl 0 rfl) ?_
  refine gf_X0_26 hx hb hta hown hK hP (am_wo (i := 0) (by decide) (am_s_outer ca)) (am_fvr (j := 3) rfl) dX0_lose_1 ?_
  refine lv_iload_n hx hb dX0_lose_4 rfl (lv_at hl 1 rfl) ?_
  refine am_calli (va_runV (C := RX2) (As := [.int x1]) (rest := []) ⟨hx, hb, hml, hown, hts⟩ (c_X2_has l dC dI ca ad hI M x1 _ h) ⟨callB_of 1 hts (am_gd mc_X2_has) rfl rfl rfl (hta _ mn_X2) (hta _ ml_X0_88) dc_X2_has ⟨Nat.le_of_ble_eq_true rfl, Nat.le_of_ble_eq_true rfl⟩, hta _ mi_X2_has, hta _ me_X2_has⟩ (am_preV (q := (RX2, TX2, 2)) hK hN hP rfl (by decide) (am_s_row ca)) rfl rfl hl.1 rfl (lv_room (Nat.le_of_ble_eq_true rfl)) dX0_lose_5 ⟨Nat.zero_le _, Nat.zero_le _⟩) hS (fun y2 M1 H locs hP hS h => ?_)
  refine lv_if_ne (tgt := 14) hx hb dX0_lose_8 rfl (fun hc => ?_) (fun hc => ?_)
  · replace h := h.1 hc
    clear hc
    refine lv_aload_n hx hb dX0_lose_14 rfl (lv_at hl 0 rfl) ?_
    refine gf_X0_26 hx hb hta hown hK hP (am_wo (i := 0) (by decide) (am_s_outer ca)) (am_fvr (j := 3) rfl) dX0_lose_15 ?_
    refine gf_X0_91 hx hb hta hown hK hP (am_wo (i := 3) (by decide) (am_s_row ca)) (am_fvr (j := 4) rfl) dX0_lose_18 ?_
    refine lv_iconst (v := (nI 0)) hx hb dX0_lose_21 rfl ?_
    refine am_aald hx hb hK hP (i := 4) (by decide) (am_s_parts ca) (t0 := 4) rfl h dX0_lose_22 (fun k3 hk3 h => ?_)
    refine lv_iload_n hx hb dX0_lose_23 rfl (lv_at hl 1 rfl) ?_
    refine am_iald hx hb hK hP (i := (5 + k3)) (by omega) (am_s_part ca hk3) h dX0_lose_24 (fun k4 hk4 h => ?_)
    refine am_topi h (fun y5 h => ?_)
    refine lv_istore_n hx hb dX0_lose_25 rfl hl (by decide) rfl (fun ls hl => ?_)
    have hl : lv_has ls 3 [(2, .int y5), (0, .ref (ad 0)), (1, .int x1)] := hl
    refine lv_aload_n hx hb dX0_lose_26 rfl (lv_at hl 1 rfl) ?_
    refine gf_X0_26 hx hb hta hown hK hP (am_wo (i := 0) (by decide) (am_s_outer ca)) (am_fvr (j := 3) rfl) dX0_lose_27 ?_
    refine lv_iload_n hx hb dX0_lose_30 rfl (lv_at hl 2 rfl) ?_
    refine am_callv (va_runV (C := RX2) (As := [.int x1]) (rest := []) ⟨hx, hb, hml, hown, hts⟩ (c_X2_takeOut l dC dI ca ad hI M1 x1 _ h) ⟨callB_of 1 hts (am_gd mc_X2_takeOut) rfl rfl rfl (hta _ mn_X2) (hta _ ml_X0_95) dc_X2_takeOut ⟨Nat.le_of_ble_eq_true rfl, Nat.le_of_ble_eq_true rfl⟩, hta _ mi_X2_takeOut, hta _ me_X2_takeOut⟩ (am_preV (q := (RX2, TX2, 2)) hK hN hP rfl (by decide) (am_s_row ca)) rfl rfl hl.1 rfl (lv_room (Nat.le_of_ble_eq_true rfl)) dX0_lose_31 ⟨Nat.zero_le _, Nat.zero_le _⟩) hS (fun M6 H locs hP hS h => ?_)
    refine lv_iload_n hx hb dX0_lose_34 rfl (lv_at hl 0 rfl) ?_
    exact am_iret hx hb hr hK hN hP hS h hlocks dX0_lose_35
  · replace h := h.2 hc
    clear hc
    refine lv_bipush (v := (-2)) hx hb dX0_lose_11 rfl ?_
    exact am_iret hx hb hr hK hN hP hS h hlocks dX0_lose_13
abbrev rmX0_expireAsMember : Room := { frames := 3, cells := 0, slots := 0, locals := 65 }
set_option maxHeartbeats 4000000 in
set_option maxRecDepth 100000 in
theorem c_X0_expireAsMember (l : Launch) (dC : Nat → ClassId) (dI : Nat → Nat → Nat) (ca : Nat → ClassId) (ad : Nat → Nat) (hI : am_inj ad) (M : am_M) (x1 : Int32) (x2 : Int32) (Q : Int32 → am_M → Prop) (h : w_X0_expireAsMember M x1 x2 Q) : Met l yX0_expireAsMember wsX0_expireAsMember rmX0_expireAsMember (va_Pc [.ref (ad 0), .int x1, .int x2] (am_B dC dI ca ad M)) (am_Qi dC dI ca ad Q) 0 0 (am_A ad 63) := by
  refine Met.ofW (cc := cX0_expireAsMember) (maxL := 4) (ret := (some .int)) (by decide) rfl ?_
  intro p e s m args below meth c s₁ B hml hv
  obtain ⟨rfl, hP, hK, hN⟩ := hv
  have hx := B.exec
  have hb := B.bytes
  have hr := B.returns
  have hts := atoms_spec (ws := wsX0_expireAsMember) B.pre
  have hta : ∀ w ∈ am_all, w.before _ s = true := fun w hw => hts w (List.mem_cons_of_mem _ hw)
  have hown : s.vm.findClass RX0 = some m.cls := findClass_of_methodNamed B.named
  have hlocks := B.notSynchronized
  have hl := lv_entry ([.ref (ad 0), .int x1, .int x2]) (n := 4) (Nat.le_of_ble_eq_true rfl)
  rw [lg_entry_eq]
  generalize (lg_sl ([.ref (ad 0), .int x1, .int x2]) ++ List.replicate (4 - (lg_sl ([.ref (ad 0), .int x1, .int x2])).length) Slot.unset).toArray = ls at hl ⊢
  have hl : lv_has ls 4 [(0, .ref (ad 0)), (1, .int x1), (2, .int x2)] := hl
  replace h := w_X0_expireAsMember_s h
  refine am_enter (A := am_A ad 63) hP (fun H locs hP hS => ?_)
  refine lv_aload_n hx hb dX0_expireAsMember_0 rfl (lv_at hl 0 rfl) ?_
  refine gf_X0_11 hx hb hta hown hK hP (am_wo (i := 0) (by decide) (am_s_outer ca)) (am_fvr (j := 1) rfl) dX0_expireAsMember_1 ?_
  refine lv_iload_n hx hb dX0_expireAsMember_4 rfl (lv_at hl 1 rfl) ?_
  refine am_aald hx hb hK hP (i := 1) (by decide) (am_s_nodes ca) (t0 := 2) rfl h dX0_expireAsMember_5 (fun k1 hk1 h => ?_)
  refine lv_astore_n hx hb dX0_expireAsMember_6 rfl hl (by decide) rfl (fun ls hl => ?_)
  have hl : lv_has ls 4 [(3, .ref (ad (9 + 6 * k1))), (0, .ref (ad 0)), (1, .int x1), (2, .int x2)] := hl
  refine lv_aload_n hx hb dX0_expireAsMember_7 rfl (lv_at hl 0 rfl) ?_
  refine gf_X0_61 hx hb hta hown hK hP (am_wo (i := (9 + 6 * k1)) (by omega) (am_s_node ca hk1)) (am_fvr (j := (10 + 6 * k1)) rfl) dX0_expireAsMember_8 ?_
  refine lv_iload_n hx hb dX0_expireAsMember_11 rfl (lv_at hl 3 rfl) ?_
  refine am_iald hx hb hK hP (i := (10 + 6 * k1)) (by omega) (am_s_states ca hk1) h dX0_expireAsMember_12 (fun k2 hk2 h => ?_)
  refine lv_if_ne (tgt := 19) hx hb dX0_expireAsMember_13 rfl (fun hc => ?_) (fun hc => ?_)
  · replace h := h.1 hc
    clear hc
    refine lv_aload_n hx hb dX0_expireAsMember_19 rfl (lv_at hl 0 rfl) ?_
    refine gf_X0_61 hx hb hta hown hK hP (am_wo (i := (9 + 6 * k1)) (by omega) (am_s_node ca hk1)) (am_fvr (j := (10 + 6 * k1)) rfl) dX0_expireAsMember_20 ?_
    refine lv_iload_n hx hb dX0_expireAsMember_23 rfl (lv_at hl 3 rfl) ?_
    refine am_iald hx hb hK hP (i := (10 + 6 * k1)) (by omega) (am_s_states ca hk1) h dX0_expireAsMember_24 (fun k3 hk3 h => ?_)
    refine lv_iconst (v := (nI 3)) hx hb dX0_expireAsMember_25 rfl ?_
    refine lv_icmp_ne (tgt := 52) hx hb dX0_expireAsMember_26 rfl (fun hc => ?_) (fun hc => ?_)
    · replace h := h.1 hc
      clear hc
      refine lv_aload_n hx hb dX0_expireAsMember_52 rfl (lv_at hl 0 rfl) ?_
      refine lv_iload_n hx hb dX0_expireAsMember_53 rfl (lv_at hl 3 rfl) ?_
      refine am_callv (va_runV (C := RX3) (As := [.int x2]) (rest := []) ⟨hx, hb, hml, hown, hts⟩ (c_X3_abort l dC dI ca ad hI M k1 hk1 x2 _ h) ⟨callB_of 1 hts (am_gd mc_X3_abort) rfl rfl rfl (hta _ mn_X3) (hta _ ml_X0_169) dc_X3_abort ⟨Nat.le_of_ble_eq_true rfl, Nat.le_of_ble_eq_true rfl⟩, hta _ mi_X3_abort, hta _ me_X3_abort⟩ (am_preV (q := (RX3, TX3, 4)) hK hN hP rfl (by omega) (am_s_node ca hk1)) rfl rfl hl.1 rfl (lv_room (Nat.le_of_ble_eq_true rfl)) dX0_expireAsMember_54 ⟨Nat.zero_le _, Nat.zero_le _⟩) hS (fun M4 H locs hP hS h => ?_)
      refine lv_iconst (v := (nI 1)) hx hb dX0_expireAsMember_57 rfl ?_
      exact am_iret hx hb hr hK hN hP hS h hlocks dX0_expireAsMember_58
    · replace h := h.2 hc
      clear hc
      refine lv_aload_n hx hb dX0_expireAsMember_29 rfl (lv_at hl 1 rfl) ?_
      refine gf_X0_26 hx hb hta hown hK hP (am_wo (i := 0) (by decide) (am_s_outer ca)) (am_fvr (j := 3) rfl) dX0_expireAsMember_30 ?_
      refine lv_bipush (v := (nI 8)) hx hb dX0_expireAsMember_33 rfl ?_
      refine lv_iload_n hx hb dX0_expireAsMember_35 rfl (lv_at hl 2 rfl) ?_
      refine lv_aload_n hx hb dX0_expireAsMember_36 rfl (lv_at hl 1 rfl) ?_
      refine gf_X0_18 hx hb hta hown hK hP (am_wo (i := 0) (by decide) (am_s_outer ca)) (am_fvr (j := 2) rfl) dX0_expireAsMember_37 ?_
      refine lv_iload_n hx hb dX0_expireAsMember_40 rfl (lv_at hl 3 rfl) ?_
      refine am_aald hx hb hK hP (i := 2) (by decide) (am_s_trans ca) (t0 := 3) rfl h dX0_expireAsMember_41 (fun k5 hk5 h => ?_)
      refine gf_X0_42 hx hb hta hown hK hP (am_wo (i := (33 + k5)) (by omega) (am_s_tx ca hk5)) (am_fvi rfl) dX0_expireAsMember_42 ?_
      refine lv_iload_n hx hb dX0_expireAsMember_45 rfl (lv_at hl 3 rfl) ?_
      refine am_callv (va_runV (C := RX2) (As := [.int (nI 8), .int x1, .int (nI (M.1 9 k5 0)), .int x2]) (rest := []) ⟨hx, hb, hml, hown, hts⟩ (c_X2_send l dC dI ca ad hI M (nI 8) x1 (nI (M.1 9 k5 0)) x2 _ h) ⟨callB_of 4 hts (am_gd mc_X2_send) rfl rfl rfl (hta _ mn_X2) (hta _ ml_X0_159) dc_X2_send ⟨Nat.le_of_ble_eq_true rfl, Nat.le_of_ble_eq_true rfl⟩, hta _ mi_X2_send, hta _ me_X2_send⟩ (am_preV (q := (RX2, TX2, 2)) hK hN hP rfl (by decide) (am_s_row ca)) rfl rfl hl.1 rfl (lv_room (Nat.le_of_ble_eq_true rfl)) dX0_expireAsMember_46 ⟨Nat.zero_le _, Nat.zero_le _⟩) hS (fun M6 H locs hP hS h => ?_)
      refine lv_goto (tgt := 57) hx hb dX0_expireAsMember_49 rfl ?_
      refine lv_iconst (v := (nI 1)) hx hb dX0_expireAsMember_57 rfl ?_
      exact am_iret hx hb hr hK hN hP hS h hlocks dX0_expireAsMember_58
  · replace h := h.2 hc
    clear hc
    refine lv_bipush (v := (-4)) hx hb dX0_expireAsMember_16 rfl ?_
    exact am_iret hx hb hr hK hN hP hS h hlocks dX0_expireAsMember_18
abbrev rmX0_expireAsCoordinator : Room := { frames := 4, cells := 0, slots := 0, locals := 90 }
set_option maxHeartbeats 4000000 in
set_option maxRecDepth 100000 in
theorem c_X0_expireAsCoordinator (l : Launch) (dC : Nat → ClassId) (dI : Nat → Nat → Nat) (ca : Nat → ClassId) (ad : Nat → Nat) (hI : am_inj ad) (M : am_M) (x1 : Int32) (Q : Int32 → am_M → Prop) (h : w_X0_expireAsCoordinator M x1 Q) : Met l yX0_expireAsCoordinator wsX0_expireAsCoordinator rmX0_expireAsCoordinator (va_Pc [.ref (ad 0), .int x1] (am_B dC dI ca ad M)) (am_Qi dC dI ca ad Q) 0 0 (am_A ad 63) := by
  refine Met.ofW (cc := cX0_expireAsCoordinator) (maxL := 3) (ret := (some .int)) (by decide) rfl ?_
  intro p e s m args below meth c s₁ B hml hv
  obtain ⟨rfl, hP, hK, hN⟩ := hv
  have hx := B.exec
  have hb := B.bytes
  have hr := B.returns
  have hts := atoms_spec (ws := wsX0_expireAsCoordinator) B.pre
  have hta : ∀ w ∈ am_all, w.before _ s = true := fun w hw => hts w (List.mem_cons_of_mem _ hw)
  have hown : s.vm.findClass RX0 = some m.cls := findClass_of_methodNamed B.named
  have hlocks := B.notSynchronized
  have hl := lv_entry ([.ref (ad 0), .int x1]) (n := 3) (Nat.le_of_ble_eq_true rfl)
  rw [lg_entry_eq]
  generalize (lg_sl ([.ref (ad 0), .int x1]) ++ List.replicate (3 - (lg_sl ([.ref (ad 0), .int x1])).length) Slot.unset).toArray = ls at hl ⊢
  have hl : lv_has ls 3 [(0, .ref (ad 0)), (1, .int x1)] := hl
  replace h := w_X0_expireAsCoordinator_s h
  refine am_enter (A := am_A ad 63) hP (fun H locs hP hS => ?_)
  refine lv_aload_n hx hb dX0_expireAsCoordinator_0 rfl (lv_at hl 0 rfl) ?_
  refine gf_X0_18 hx hb hta hown hK hP (am_wo (i := 0) (by decide) (am_s_outer ca)) (am_fvr (j := 2) rfl) dX0_expireAsCoordinator_1 ?_
  refine lv_iload_n hx hb dX0_expireAsCoordinator_4 rfl (lv_at hl 1 rfl) ?_
  refine am_aald hx hb hK hP (i := 2) (by decide) (am_s_trans ca) (t0 := 3) rfl h dX0_expireAsCoordinator_5 (fun k1 hk1 h => ?_)
  refine lv_astore_n hx hb dX0_expireAsCoordinator_6 rfl hl (by decide) rfl (fun ls hl => ?_)
  have hl : lv_has ls 3 [(2, .ref (ad (33 + k1))), (0, .ref (ad 0)), (1, .int x1)] := hl
  refine lv_aload_n hx hb dX0_expireAsCoordinator_7 rfl (lv_at hl 0 rfl) ?_
  refine gf_X0_45 hx hb hta hown hK hP (am_wo (i := (33 + k1)) (by omega) (am_s_tx ca hk1)) (am_fvi rfl) dX0_expireAsCoordinator_8 ?_
  refine lv_iconst (v := (nI 2)) hx hb dX0_expireAsCoordinator_11 rfl ?_
  refine lv_icmp_ne (tgt := 24) hx hb dX0_expireAsCoordinator_12 rfl (fun hc => ?_) (fun hc => ?_)
  · replace h := h.1 hc
    clear hc
    refine lv_aload_n hx hb dX0_expireAsCoordinator_24 rfl (lv_at hl 0 rfl) ?_
    refine gf_X0_45 hx hb hta hown hK hP (am_wo (i := (33 + k1)) (by omega) (am_s_tx ca hk1)) (am_fvi rfl) dX0_expireAsCoordinator_25 ?_
    refine lv_iconst (v := (nI 3)) hx hb dX0_expireAsCoordinator_28 rfl ?_
    refine lv_icmp_ne (tgt := 51) hx hb dX0_expireAsCoordinator_29 rfl (fun hc => ?_) (fun hc => ?_)
    · replace h := h.1 hc
      clear hc
      refine lv_bipush (v := (-4)) hx hb dX0_expireAsCoordinator_51 rfl ?_
      exact am_iret hx hb hr hK hN hP hS h hlocks dX0_expireAsCoordinator_53
    · replace h := h.2 hc
      clear hc
      refine lv_aload_n hx hb dX0_expireAsCoordinator_32 rfl (lv_at hl 1 rfl) ?_
      refine gf_X0_26 hx hb hta hown hK hP (am_wo (i := 0) (by decide) (am_s_outer ca)) (am_fvr (j := 3) rfl) dX0_expireAsCoordinator_33 ?_
      refine lv_iconst (v := (nI 5)) hx hb dX0_expireAsCoordinator_36 rfl ?_
      refine lv_aload_n hx hb dX0_expireAsCoordinator_37 rfl (lv_at hl 0 rfl) ?_
      refine gf_X0_42 hx hb hta hown hK hP (am_wo (i := (33 + k1)) (by omega) (am_s_tx ca hk1)) (am_fvi rfl) dX0_expireAsCoordinator_38 ?_
      refine lv_aload_n hx hb dX0_expireAsCoordinator_41 rfl (lv_at hl 0 rfl) ?_
      refine gf_X0_133 hx hb hta hown hK hP (am_wo (i := (33 + k1)) (by omega) (am_s_tx ca hk1)) (am_fvi rfl) dX0_expireAsCoordinator_42 ?_
      refine lv_iload_n hx hb dX0_expireAsCoordinator_45 rfl (lv_at hl 2 rfl) ?_
      refine am_callv (va_runV (C := RX2) (As := [.int (nI 5), .int (nI (M.1 9 k1 0)), .int (nI (M.1 9 k1 5)), .int x1]) (rest := []) ⟨hx, hb, hml, hown, hts⟩ (c_X2_sendToEach l dC dI ca ad hI M (nI 5) (nI (M.1 9 k1 0)) (nI (M.1 9 k1 5)) x1 _ h) ⟨callB_of 4 hts (am_gd mc_X2_sendToEach) rfl rfl rfl (hta _ mn_X2) (hta _ ml_X0_75) dc_X2_sendToEach ⟨Nat.le_of_ble_eq_true rfl, Nat.le_of_ble_eq_true rfl⟩, hta _ mi_X2_sendToEach, hta _ me_X2_sendToEach⟩ (am_preV (q := (RX2, TX2, 2)) hK hN hP rfl (by decide) (am_s_row ca)) rfl rfl hl.1 rfl (lv_room (Nat.le_of_ble_eq_true rfl)) dX0_expireAsCoordinator_46 ⟨Nat.zero_le _, Nat.zero_le _⟩) hS (fun M2 H locs hP hS h => ?_)
      refine lv_iconst (v := (nI 1)) hx hb dX0_expireAsCoordinator_49 rfl ?_
      exact am_iret hx hb hr hK hN hP hS h hlocks dX0_expireAsCoordinator_50
  · replace h := h.2 hc
    clear hc
    refine lv_aload_n hx hb dX0_expireAsCoordinator_15 rfl (lv_at hl 1 rfl) ?_
    refine lv_iload_n hx hb dX0_expireAsCoordinator_16 rfl (lv_at hl 2 rfl) ?_
    refine lv_iconst (v := (nI 0)) hx hb dX0_expireAsCoordinator_17 rfl ?_
    refine am_calli (va_runV (C := RX0) (As := [.int x1, .int (nI 0)]) (rest := []) ⟨hx, hb, hml, hown, hts⟩ (c_X0_giveUp l dC dI ca ad hI M x1 (nI 0) _ h) ⟨callB_of 2 hts (am_gd mc_X0_giveUp) rfl rfl rfl (hta _ mn_X0) (hta _ ml_X0_84) dc_X0_giveUp ⟨Nat.le_of_ble_eq_true rfl, Nat.le_of_ble_eq_true rfl⟩, hta _ mi_X0_giveUp, hta _ me_X0_giveUp⟩ (am_preV (q := (RX0, TX0, 4)) hK hN hP rfl (by decide) (am_s_outer ca)) rfl rfl hl.1 rfl (lv_room (Nat.le_of_ble_eq_true rfl)) dX0_expireAsCoordinator_18 ⟨Nat.zero_le _, Nat.zero_le _⟩) hS (fun y4 M3 H locs hP hS h => ?_)
    refine lv_pop hx hb dX0_expireAsCoordinator_21 rfl ?_
    refine lv_iconst (v := (nI 1)) hx hb dX0_expireAsCoordinator_22 rfl ?_
    exact am_iret hx hb hr hK hN hP hS h hlocks dX0_expireAsCoordinator_23
abbrev rmX0_expire : Room := { frames := 5, cells := 0, slots := 0, locals := 112 }
set_option maxHeartbeats 4000000 in
set_option maxRecDepth 100000 in
theorem c_X0_expire (l : Launch) (dC : Nat → ClassId) (dI : Nat → Nat → Nat) (ca : Nat → ClassId) (ad : Nat → Nat) (hI : am_inj ad) (M : am_M) (x1 : Int32) (x2 : Int32) (x3 : Int32) (Q : Int32 → am_M → Prop) (h : w_X0_expire M x1 x2 x3 Q) : Met l yX0_expire wsX0_expire rmX0_expire (va_Pc [.ref (ad 0), .int x1, .int x2, .int x3] (am_B dC dI ca ad M)) (am_Qi dC dI ca ad Q) 0 0 (am_A ad 63) := by
  refine Met.ofW (cc := cX0_expire) (maxL := 4) (ret := (some .int)) (by decide) rfl ?_
  intro p e s m args below meth c s₁ B hml hv
  obtain ⟨rfl, hP, hK, hN⟩ := hv
  have hx := B.exec
  have hb := B.bytes
  have hr := B.returns
  have hts := atoms_spec (ws := wsX0_expire) B.pre
  have hta : ∀ w ∈ am_all, w.before _ s = true := fun w hw => hts w (List.mem_cons_of_mem _ hw)
  have hown : s.vm.findClass RX0 = some m.cls := findClass_of_methodNamed B.named
  have hlocks := B.notSynchronized
  have hl := lv_entry ([.ref (ad 0), .int x1, .int x2, .int x3]) (n := 4) (Nat.le_of_ble_eq_true rfl)
  rw [lg_entry_eq]
  generalize (lg_sl ([.ref (ad 0), .int x1, .int x2, .int x3]) ++ List.replicate (4 - (lg_sl ([.ref (ad 0), .int x1, .int x2, .int x3])).length) Slot.unset).toArray = ls at hl ⊢
  have hl : lv_has ls 4 [(0, .ref (ad 0)), (1, .int x1), (2, .int x2), (3, .int x3)] := hl
  replace h := w_X0_expire_s h
  have J38 : ∀ (M8 : am_M) (y5 : Int32) (y6 : Int32) (y7 : Int32) (ls : Array Slot) (H : Heap) (locs : List Loc), w_X0_expire_J38 M8 y5 y6 y7 Q → va_P (dC, dI) vwCl (am_w ad (am_sh ca) 63 M8) H → va_S (am_A ad 63) s.heap H locs → lv_has ls 4 [(0, .ref (ad 0)), (1, .int y5), (2, .int y6), (3, .int y7)] → am_Wi p l e wsX0_expire rmX0_expire s m ([.ref (ad 0), .int x1, .int x2, .int x3] : List Value).toArray below meth c H locs dC dI ca ad Q (F0 m 38 ls []) := by
      intro M8 y5 y6 y7 ls H locs h hP hS hl
      replace h := w_X0_expire_J38_s h
      refine lv_aload_n hx hb dX0_expire_38 rfl (lv_at hl 0 rfl) ?_
      refine gf_X0_11 hx hb hta hown hK hP (am_wo (i := 0) (by decide) (am_s_outer ca)) (am_fvr (j := 1) rfl) dX0_expire_39 ?_
      refine lv_iload_n hx hb dX0_expire_42 rfl (lv_at hl 1 rfl) ?_
      refine am_aald hx hb hK hP (i := 1) (by decide) (am_s_nodes ca) (t0 := 2) rfl h dX0_expire_43 (fun k9 hk9 h => ?_)
      refine gf_X0_38 hx hb hta hown hK hP (am_wo (i := (9 + 6 * k9)) (by omega) (am_s_node ca hk9)) (am_fvi rfl) dX0_expire_44 ?_
      refine lv_if_ne (tgt := 53) hx hb dX0_expire_47 rfl (fun hc => ?_) (fun hc => ?_)
      · replace h := h.1 hc
        clear hc
        refine lv_iload_n hx hb dX0_expire_53 rfl (lv_at hl 3 rfl) ?_
        refine lv_if_eq (tgt := 66) hx hb dX0_expire_54 rfl (fun hc => ?_) (fun hc => ?_)
        · replace h := h.1 hc
          clear hc
          refine lv_aload_n hx hb dX0_expire_66 rfl (lv_at hl 0 rfl) ?_
          refine lv_iload_n hx hb dX0_expire_67 rfl (lv_at hl 2 rfl) ?_
          refine am_calli (va_runV (C := RX0) (As := [.int y6]) (rest := []) ⟨hx, hb, hml, hown, hts⟩ (c_X0_expireAsCoordinator l dC dI ca ad hI M8 y6 _ h) ⟨callB_of 1 hts (am_gd mc_X0_expireAsCoordinator) rfl rfl rfl (hta _ mn_X0) (hta _ ml_X0_105) dc_X0_expireAsCoordinator ⟨Nat.le_of_ble_eq_true rfl, Nat.le_of_ble_eq_true rfl⟩, hta _ mi_X0_expireAsCoordinator, hta _ me_X0_expireAsCoordinator⟩ (am_preV (q := (RX0, TX0, 4)) hK hN hP rfl (by decide) (am_s_outer ca)) rfl rfl hl.1 rfl (lv_room (Nat.le_of_ble_eq_true rfl)) dX0_expire_68 ⟨Nat.zero_le _, Nat.zero_le _⟩) hS (fun y11 M10 H locs hP hS h => ?_)
          exact am_iret hx hb hr hK hN hP hS h hlocks dX0_expire_71
        · replace h := h.2 hc
          clear hc
          refine lv_aload_n hx hb dX0_expire_57 rfl (lv_at hl 0 rfl) ?_
          refine lv_iload_n hx hb dX0_expire_58 rfl (lv_at hl 1 rfl) ?_
          refine lv_iload_n hx hb dX0_expire_59 rfl (lv_at hl 2 rfl) ?_
          refine am_calli (va_runV (C := RX0) (As := [.int y5, .int y6]) (rest := []) ⟨hx, hb, hml, hown, hts⟩ (c_X0_expireAsMember l dC dI ca ad hI M8 y5 y6 _ h) ⟨callB_of 2 hts (am_gd mc_X0_expireAsMember) rfl rfl rfl (hta _ mn_X0) (hta _ ml_X0_102) dc_X0_expireAsMember ⟨Nat.le_of_ble_eq_true rfl, Nat.le_of_ble_eq_true rfl⟩, hta _ mi_X0_expireAsMember, hta _ me_X0_expireAsMember⟩ (am_preV (q := (RX0, TX0, 4)) hK hN hP rfl (by decide) (am_s_outer ca)) rfl rfl hl.1 rfl (lv_room (Nat.le_of_ble_eq_true rfl)) dX0_expire_60 ⟨Nat.zero_le _, Nat.zero_le _⟩) hS (fun y13 M12 H locs hP hS h => ?_)
          refine lv_goto (tgt := 71) hx hb dX0_expire_63 rfl ?_
          exact am_iret hx hb hr hK hN hP hS h hlocks dX0_expire_71
      · replace h := h.2 hc
        clear hc
        refine lv_bipush (v := (-3)) hx hb dX0_expire_50 rfl ?_
        exact am_iret hx hb hr hK hN hP hS h hlocks dX0_expire_52
  refine am_enter (A := am_A ad 63) hP (fun H locs hP hS => ?_)
  refine lv_iload_n hx hb dX0_expire_0 rfl (lv_at hl 1 rfl) ?_
  refine am_calli (va_runS (As := [.int x1]) (rest := []) ⟨hx, hb, hml, hown, hts⟩ (c_X0_isNode l dC dI ca ad hI M x1 _ h) ⟨callB_of 1 hts (am_gd mc_X0_isNode) rfl rfl rfl (hta _ mn_X0) (hta _ ml_X0_34) dc_X0_isNode ⟨Nat.le_of_ble_eq_true rfl, Nat.le_of_ble_eq_true rfl⟩, hta _ ms_X0_isNode⟩ (am_preS hK hN hP) rfl rfl hl.1 rfl (lv_room (Nat.le_of_ble_eq_true rfl)) dX0_expire_1 ⟨Nat.zero_le _, Nat.zero_le _⟩) hS (fun y2 M1 H locs hP hS h => ?_)
  refine lv_if_eq (tgt := 15) hx hb dX0_expire_4 rfl (fun hc => ?_) (fun hc => ?_)
  · replace h := h.1 hc
    clear hc
    refine lv_bipush (v := (-2)) hx hb dX0_expire_15 rfl ?_
    exact am_iret hx hb hr hK hN hP hS h hlocks dX0_expire_17
  · replace h := h.2 hc
    clear hc
    refine lv_aload_n hx hb dX0_expire_7 rfl (lv_at hl 0 rfl) ?_
    refine lv_iload_n hx hb dX0_expire_8 rfl (lv_at hl 2 rfl) ?_
    refine am_calli (va_runV (C := RX0) (As := [.int x2]) (rest := []) ⟨hx, hb, hml, hown, hts⟩ (c_X0_isTransaction l dC dI ca ad hI M1 x2 _ h) ⟨callB_of 1 hts (am_gd mc_X0_isTransaction) rfl rfl rfl (hta _ mn_X0) (hta _ ml_X0_48) dc_X0_isTransaction ⟨Nat.le_of_ble_eq_true rfl, Nat.le_of_ble_eq_true rfl⟩, hta _ mi_X0_isTransaction, hta _ me_X0_isTransaction⟩ (am_preV (q := (RX0, TX0, 4)) hK hN hP rfl (by decide) (am_s_outer ca)) rfl rfl hl.1 rfl (lv_room (Nat.le_of_ble_eq_true rfl)) dX0_expire_9 ⟨Nat.zero_le _, Nat.zero_le _⟩) hS (fun y4 M3 H locs hP hS h => ?_)
    refine lv_if_ne (tgt := 18) hx hb dX0_expire_12 rfl (fun hc => ?_) (fun hc => ?_)
    · replace h := h.1 hc
      clear hc
      refine lv_iload_n hx hb dX0_expire_18 rfl (lv_at hl 3 rfl) ?_
      refine lv_if_ne (tgt := 38) hx hb dX0_expire_19 rfl (fun hc => ?_) (fun hc => ?_)
      · replace h := h.1 hc
        clear hc
        exact J38 M3 x1 x2 x3 ls H locs h hP hS (lv_sub hl [0, 1, 2, 3] rfl)
      · replace h := h.2 hc
        clear hc
        refine lv_aload_n hx hb dX0_expire_22 rfl (lv_at hl 0 rfl) ?_
        refine gf_X0_18 hx hb hta hown hK hP (am_wo (i := 0) (by decide) (am_s_outer ca)) (am_fvr (j := 2) rfl) dX0_expire_23 ?_
        refine lv_iload_n hx hb dX0_expire_26 rfl (lv_at hl 2 rfl) ?_
        refine am_aald hx hb hK hP (i := 2) (by decide) (am_s_trans ca) (t0 := 3) rfl h dX0_expire_27 (fun k14 hk14 h => ?_)
        refine gf_X0_42 hx hb hta hown hK hP (am_wo (i := (33 + k14)) (by omega) (am_s_tx ca hk14)) (am_fvi rfl) dX0_expire_28 ?_
        refine lv_iload_n hx hb dX0_expire_31 rfl (lv_at hl 1 rfl) ?_
        refine lv_icmp_eq (tgt := 38) hx hb dX0_expire_32 rfl (fun hc => ?_) (fun hc => ?_)
        · replace h := h.1 hc
          clear hc
          exact J38 M3 x1 x2 x3 ls H locs h hP hS (lv_sub hl [0, 1, 2, 3] rfl)
        · replace h := h.2 hc
          clear hc
          refine lv_bipush (v := (-2)) hx hb dX0_expire_35 rfl ?_
          exact am_iret hx hb hr hK hN hP hS h hlocks dX0_expire_37
    · replace h := h.2 hc
      clear hc
      refine lv_bipush (v := (-2)) hx hb dX0_expire_15 rfl ?_
      exact am_iret hx hb hr hK hN hP hS h hlocks dX0_expire_17
abbrev rmX1_dropUnsafe : Room := { frames := 0, cells := 0, slots := 0, locals := 0 }
set_option maxHeartbeats 4000000 in
set_option maxRecDepth 100000 in
theorem c_X1_dropUnsafe (l : Launch) (dC : Nat → ClassId) (dI : Nat → Nat → Nat) (ca : Nat → ClassId) (ad : Nat → Nat) (hI : am_inj ad) (M : am_M) (n : Nat) (hn : n < 4) (Q : Int32 → am_M → Prop) (h : w_X1_dropUnsafe M n Q) : Met l yX1_dropUnsafe wsX1_dropUnsafe rmX1_dropUnsafe (va_Pc [.ref (ad (12 + 6 * n))] (am_B dC dI ca ad M)) (am_Qi dC dI ca ad Q) 0 0 (am_A ad 63) := by
  refine Met.ofW (cc := cX1_dropUnsafe) (maxL := 2) (ret := (some .int)) (by decide) rfl ?_
  intro p e s m args below meth c s₁ B hml hv
  obtain ⟨rfl, hP, hK, hN⟩ := hv
  have hx := B.exec
  have hb := B.bytes
  have hr := B.returns
  have hts := atoms_spec (ws := wsX1_dropUnsafe) B.pre
  have hta : ∀ w ∈ am_all, w.before _ s = true := fun w hw => hts w (List.mem_cons_of_mem _ hw)
  have hown : s.vm.findClass RX1 = some m.cls := findClass_of_methodNamed B.named
  have hlocks := B.notSynchronized
  have hl := lv_entry ([.ref (ad (12 + 6 * n))]) (n := 2) (Nat.le_of_ble_eq_true rfl)
  rw [lg_entry_eq]
  generalize (lg_sl ([.ref (ad (12 + 6 * n))]) ++ List.replicate (2 - (lg_sl ([.ref (ad (12 + 6 * n))])).length) Slot.unset).toArray = ls at hl ⊢
  have hl : lv_has ls 2 [(0, .ref (ad (12 + 6 * n)))] := hl
  replace h := w_X1_dropUnsafe_s h
  refine am_enter (A := am_A ad 63) hP (fun H locs hP hS => ?_)
  refine lv_aload_n hx hb dX1_dropUnsafe_0 rfl (lv_at hl 0 rfl) ?_
  refine gf_X1_18 hx hb hta hown hK hP (am_wo (i := (12 + 6 * n)) (by omega) (am_s_log ca hn)) (am_fvi rfl) dX1_dropUnsafe_1 ?_
  refine lv_aload_n hx hb dX1_dropUnsafe_4 rfl (lv_at hl 0 rfl) ?_
  refine gf_X1_30 hx hb hta hown hK hP (am_wo (i := (12 + 6 * n)) (by omega) (am_s_log ca hn)) (am_fvi rfl) dX1_dropUnsafe_5 ?_
  refine lv_isub hx hb dX1_dropUnsafe_8 ?_
  refine am_topi h (fun y1 h => ?_)
  refine lv_istore_n hx hb dX1_dropUnsafe_9 rfl hl (by decide) rfl (fun ls hl => ?_)
  have hl : lv_has ls 2 [(1, .int y1), (0, .ref (ad (12 + 6 * n)))] := hl
  refine lv_aload_n hx hb dX1_dropUnsafe_10 rfl (lv_at hl 1 rfl) ?_
  refine lv_aload_n hx hb dX1_dropUnsafe_11 rfl (lv_at hl 1 rfl) ?_
  refine gf_X1_30 hx hb hta hown hK hP (am_wo (i := (12 + 6 * n)) (by omega) (am_s_log ca hn)) (am_fvi rfl) dX1_dropUnsafe_12 ?_
  refine pf_X1_18 hx hb hta hown hK hP hI hS (i := (12 + 6 * n)) (by omega) (am_s_log ca hn) h dX1_dropUnsafe_15 (fun M2 H locs hP hS h => ?_)
  refine lv_iload_n hx hb dX1_dropUnsafe_18 rfl (lv_at hl 0 rfl) ?_
  exact am_iret hx hb hr hK hN hP hS h hlocks dX1_dropUnsafe_19
abbrev rmX0_crash : Room := { frames := 1, cells := 0, slots := 0, locals := 21 }
set_option maxHeartbeats 4000000 in
set_option maxRecDepth 100000 in
theorem c_X0_crash (l : Launch) (dC : Nat → ClassId) (dI : Nat → Nat → Nat) (ca : Nat → ClassId) (ad : Nat → Nat) (hI : am_inj ad) (M : am_M) (x1 : Int32) (Q : Int32 → am_M → Prop) (h : w_X0_crash M x1 Q) : Met l yX0_crash wsX0_crash rmX0_crash (va_Pc [.ref (ad 0), .int x1] (am_B dC dI ca ad M)) (am_Qi dC dI ca ad Q) 0 0 (am_A ad 63) := by
  refine Met.ofW (cc := cX0_crash) (maxL := 4) (ret := (some .int)) (by decide) rfl ?_
  intro p e s m args below meth c s₁ B hml hv
  obtain ⟨rfl, hP, hK, hN⟩ := hv
  have hx := B.exec
  have hb := B.bytes
  have hr := B.returns
  have hts := atoms_spec (ws := wsX0_crash) B.pre
  have hta : ∀ w ∈ am_all, w.before _ s = true := fun w hw => hts w (List.mem_cons_of_mem _ hw)
  have hown : s.vm.findClass RX0 = some m.cls := findClass_of_methodNamed B.named
  have hlocks := B.notSynchronized
  have hl := lv_entry ([.ref (ad 0), .int x1]) (n := 4) (Nat.le_of_ble_eq_true rfl)
  rw [lg_entry_eq]
  generalize (lg_sl ([.ref (ad 0), .int x1]) ++ List.replicate (4 - (lg_sl ([.ref (ad 0), .int x1])).length) Slot.unset).toArray = ls at hl ⊢
  have hl : lv_has ls 4 [(0, .ref (ad 0)), (1, .int x1)] := hl
  replace h := w_X0_crash_s h
  refine am_enter (A := am_A ad 63) hP (fun H locs hP hS => ?_)
  refine lv_iload_n hx hb dX0_crash_0 rfl (lv_at hl 1 rfl) ?_
  refine am_calli (va_runS (As := [.int x1]) (rest := []) ⟨hx, hb, hml, hown, hts⟩ (c_X0_isNode l dC dI ca ad hI M x1 _ h) ⟨callB_of 1 hts (am_gd mc_X0_isNode) rfl rfl rfl (hta _ mn_X0) (hta _ ml_X0_34) dc_X0_isNode ⟨Nat.le_of_ble_eq_true rfl, Nat.le_of_ble_eq_true rfl⟩, hta _ ms_X0_isNode⟩ (am_preS hK hN hP) rfl rfl hl.1 rfl (lv_room (Nat.le_of_ble_eq_true rfl)) dX0_crash_1 ⟨Nat.zero_le _, Nat.zero_le _⟩) hS (fun y2 M1 H locs hP hS h => ?_)
  refine lv_if_ne (tgt := 10) hx hb dX0_crash_4 rfl (fun hc => ?_) (fun hc => ?_)
  · replace h := h.1 hc
    clear hc
    refine lv_aload_n hx hb dX0_crash_10 rfl (lv_at hl 0 rfl) ?_
    refine gf_X0_11 hx hb hta hown hK hP (am_wo (i := 0) (by decide) (am_s_outer ca)) (am_fvr (j := 1) rfl) dX0_crash_11 ?_
    refine lv_iload_n hx hb dX0_crash_14 rfl (lv_at hl 1 rfl) ?_
    refine am_aald hx hb hK hP (i := 1) (by decide) (am_s_nodes ca) (t0 := 2) rfl h dX0_crash_15 (fun k3 hk3 h => ?_)
    refine lv_astore_n hx hb dX0_crash_16 rfl hl (by decide) rfl (fun ls hl => ?_)
    have hl : lv_has ls 4 [(2, .ref (ad (9 + 6 * k3))), (0, .ref (ad 0)), (1, .int x1)] := hl
    refine lv_aload_n hx hb dX0_crash_17 rfl (lv_at hl 0 rfl) ?_
    refine gf_X0_38 hx hb hta hown hK hP (am_wo (i := (9 + 6 * k3)) (by omega) (am_s_node ca hk3)) (am_fvi rfl) dX0_crash_18 ?_
    refine lv_if_ne (tgt := 27) hx hb dX0_crash_21 rfl (fun hc => ?_) (fun hc => ?_)
    · replace h := h.1 hc
      clear hc
      refine lv_aload_n hx hb dX0_crash_27 rfl (lv_at hl 0 rfl) ?_
      refine lv_iconst (v := (nI 0)) hx hb dX0_crash_28 rfl ?_
      refine pf_X0_38 hx hb hta hown hK hP hI hS (i := (9 + 6 * k3)) (by omega) (am_s_node ca hk3) h dX0_crash_29 (fun M4 H locs hP hS h => ?_)
      refine lv_iconst (v := (nI 0)) hx hb dX0_crash_32 rfl ?_
      refine am_topi h (fun y5 h => ?_)
      refine lv_istore_n hx hb dX0_crash_33 rfl hl (by decide) rfl (fun ls hl => ?_)
      have hl : lv_has ls 4 [(3, .int y5), (2, .ref (ad (9 + 6 * k3))), (0, .ref (ad 0)), (1, .int x1)] := hl
      obtain ⟨f34, h⟩ := h
      have key34 : ∀ (K : am_M → Int32 → Prop), (∀ (M7 : am_M) (z6 : Int32) (ls : Array Slot) (H : Heap) (locs : List Loc), K M7 z6 → va_P (dC, dI) vwCl (am_w ad (am_sh ca) 63 M7) H → va_S (am_A ad 63) s.heap H locs → lv_has ls 4 [(3, .int z6), (2, .ref (ad (9 + 6 * k3))), (0, .ref (ad 0)), (1, .int x1)] → am_Wi p l e wsX0_crash rmX0_crash s m ([.ref (ad 0), .int x1] : List Value).toArray below meth c H locs dC dI ca ad Q (F0 m 75 ls [])) → ∀ (f34 : Nat) (M7 : am_M) (z6 : Int32) (ls : Array Slot) (H : Heap) (locs : List Loc), w_X0_crash_L34 k3 x1 Q K f34 M7 z6 → va_P (dC, dI) vwCl (am_w ad (am_sh ca) 63 M7) H → va_S (am_A ad 63) s.heap H locs → lv_has ls 4 [(3, .int z6), (2, .ref (ad (9 + 6 * k3))), (0, .ref (ad 0)), (1, .int x1)] → am_Wi p l e wsX0_crash rmX0_crash s m ([.ref (ad 0), .int x1] : List Value).toArray below meth c H locs dC dI ca ad Q (F0 m 34 ls []) := by
        intro K hex34 f34
        induction f34 with
        | zero => intro _ _ _ _ _ h; exact False.elim h
        | succ f34 ih34 =>
          intro M7 z6 ls H locs h hP hS hl
          replace h := w_X0_crash_L34_s h
          refine lv_iload_n hx hb dX0_crash_34 rfl (lv_at hl 0 rfl) ?_
          refine lv_aload_n hx hb dX0_crash_35 rfl (lv_at hl 2 rfl) ?_
          refine gf_X0_30 hx hb hta hown hK hP (am_wo (i := 0) (by decide) (am_s_outer ca)) (am_fvi rfl) dX0_crash_36 ?_
          refine lv_icmp_ge (tgt := 75) hx hb dX0_crash_39 rfl (fun hc => ?_) (fun hc => ?_)
          · replace h := h.1 hc
            clear hc
            exact hex34 M7 z6 ls H locs h hP hS (lv_sub hl [0, 1, 2, 3] rfl)
          · replace h := h.2 hc
            clear hc
            refine lv_aload_n hx hb dX0_crash_42 rfl (lv_at hl 1 rfl) ?_
            refine lv_iload_n hx hb dX0_crash_43 rfl (lv_at hl 0 rfl) ?_
            refine am_callv (va_runV (C := RX3) (As := [.int z6]) (rest := []) ⟨hx, hb, hml, hown, hts⟩ (c_X3_letGo l dC dI ca ad hI M7 k3 hk3 z6 _ h) ⟨callB_of 1 hts (am_gd mc_X3_letGo) rfl rfl rfl (hta _ mn_X3) (hta _ ml_X0_108) dc_X3_letGo ⟨Nat.le_of_ble_eq_true rfl, Nat.le_of_ble_eq_true rfl⟩, hta _ mi_X3_letGo, hta _ me_X3_letGo⟩ (am_preV (q := (RX3, TX3, 4)) hK hN hP rfl (by omega) (am_s_node ca hk3)) rfl rfl hl.1 rfl (lv_room (Nat.le_of_ble_eq_true rfl)) dX0_crash_44 ⟨Nat.zero_le _, Nat.zero_le _⟩) hS (fun M8 H locs hP hS h => ?_)
            refine lv_aload_n hx hb dX0_crash_47 rfl (lv_at hl 2 rfl) ?_
            refine gf_X0_18 hx hb hta hown hK hP (am_wo (i := 0) (by decide) (am_s_outer ca)) (am_fvr (j := 2) rfl) dX0_crash_48 ?_
            refine lv_iload_n hx hb dX0_crash_51 rfl (lv_at hl 0 rfl) ?_
            refine am_aald hx hb hK hP (i := 2) (by decide) (am_s_trans ca) (t0 := 3) rfl h dX0_crash_52 (fun k9 hk9 h => ?_)
            refine gf_X0_42 hx hb hta hown hK hP (am_wo (i := (33 + k9)) (by omega) (am_s_tx ca hk9)) (am_fvi rfl) dX0_crash_53 ?_
            refine lv_iload_n hx hb dX0_crash_56 rfl (lv_at hl 3 rfl) ?_
            refine lv_icmp_ne (tgt := 69) hx hb dX0_crash_57 rfl (fun hc => ?_) (fun hc => ?_)
            · replace h := h.1 hc
              clear hc
              refine am_iinc (k := 0) (d := nI 1) hx hb dX0_crash_69 hl rfl rfl (by decide) h (fun y10 ls h hl => ?_)
              have hl : lv_has ls 4 [(3, .int y10), (2, .ref (ad (9 + 6 * k3))), (0, .ref (ad 0)), (1, .int x1)] := hl
              refine lv_goto (tgt := 34) hx hb dX0_crash_72 rfl ?_
              exact ih34 M8 y10 ls H locs h hP hS (lv_sub hl [0, 1, 2, 3] rfl)
            · replace h := h.2 hc
              clear hc
              refine lv_aload_n hx hb dX0_crash_60 rfl (lv_at hl 2 rfl) ?_
              refine gf_X0_18 hx hb hta hown hK hP (am_wo (i := 0) (by decide) (am_s_outer ca)) (am_fvr (j := 2) rfl) dX0_crash_61 ?_
              refine lv_iload_n hx hb dX0_crash_64 rfl (lv_at hl 0 rfl) ?_
              refine am_aald hx hb hK hP (i := 2) (by decide) (am_s_trans ca) (t0 := 3) rfl h dX0_crash_65 (fun k11 hk11 h => ?_)
              refine am_callv (va_runV (C := RX4) (As := []) (rest := []) ⟨hx, hb, hml, hown, hts⟩ (c_X4_forget l dC dI ca ad hI M8 k11 hk11 _ h) ⟨callB_of 0 hts (am_gd mc_X4_forget) rfl rfl rfl (hta _ mn_X4) (hta _ ml_X0_72) dc_X4_forget ⟨Nat.le_of_ble_eq_true rfl, Nat.le_of_ble_eq_true rfl⟩, hta _ mi_X4_forget, hta _ me_X4_forget⟩ (am_preV (q := (RX4, TX4, 6)) hK hN hP rfl (by omega) (am_s_tx ca hk11)) rfl rfl hl.1 rfl (lv_room (Nat.le_of_ble_eq_true rfl)) dX0_crash_66 ⟨Nat.zero_le _, Nat.zero_le _⟩) hS (fun M12 H locs hP hS h => ?_)
              refine am_iinc (k := 0) (d := nI 1) hx hb dX0_crash_69 hl rfl rfl (by decide) h (fun y13 ls h hl => ?_)
              have hl : lv_has ls 4 [(3, .int y13), (2, .ref (ad (9 + 6 * k3))), (0, .ref (ad 0)), (1, .int x1)] := hl
              refine lv_goto (tgt := 34) hx hb dX0_crash_72 rfl ?_
              exact ih34 M12 y13 ls H locs h hP hS (lv_sub hl [0, 1, 2, 3] rfl)
      refine key34 _ ?_ f34 M4 y5 ls H locs h hP hS hl
      intro M14 z15 ls H locs h hP hS hl
      refine lv_aload_n hx hb dX0_crash_75 rfl (lv_at hl 1 rfl) ?_
      refine gf_X0_111 hx hb hta hown hK hP (am_wo (i := (9 + 6 * k3)) (by omega) (am_s_node ca hk3)) (am_fvr (j := (12 + 6 * k3)) rfl) dX0_crash_76 ?_
      refine am_calli (va_runV (C := RX1) (As := []) (rest := []) ⟨hx, hb, hml, hown, hts⟩ (c_X1_dropUnsafe l dC dI ca ad hI M14 k3 hk3 _ h) ⟨callB_of 0 hts (am_gd mc_X1_dropUnsafe) rfl rfl rfl (hta _ mn_X1) (hta _ ml_X0_115) dc_X1_dropUnsafe ⟨Nat.le_of_ble_eq_true rfl, Nat.le_of_ble_eq_true rfl⟩, hta _ mi_X1_dropUnsafe, hta _ me_X1_dropUnsafe⟩ (am_preV (q := (RX1, TX1, 5)) hK hN hP rfl (by omega) (am_s_log ca hk3)) rfl rfl hl.1 rfl (lv_room (Nat.le_of_ble_eq_true rfl)) dX0_crash_79 ⟨Nat.zero_le _, Nat.zero_le _⟩) hS (fun y17 M16 H locs hP hS h => ?_)
      exact am_iret hx hb hr hK hN hP hS h hlocks dX0_crash_82
    · replace h := h.2 hc
      clear hc
      refine lv_bipush (v := (-3)) hx hb dX0_crash_24 rfl ?_
      exact am_iret hx hb hr hK hN hP hS h hlocks dX0_crash_26
  · replace h := h.2 hc
    clear hc
    refine lv_bipush (v := (-2)) hx hb dX0_crash_7 rfl ?_
    exact am_iret hx hb hr hK hN hP hS h hlocks dX0_crash_9
abbrev rmX1_find : Room := { frames := 1, cells := 0, slots := 0, locals := 21 }
set_option maxHeartbeats 4000000 in
set_option maxRecDepth 100000 in
theorem c_X1_find (l : Launch) (dC : Nat → ClassId) (dI : Nat → Nat → Nat) (ca : Nat → ClassId) (ad : Nat → Nat) (hI : am_inj ad) (M : am_M) (n : Nat) (hn : n < 4) (x1 : Int32) (x2 : Int32) (Q : Int32 → am_M → Prop) (h : w_X1_find M n x1 x2 Q) : Met l yX1_find wsX1_find rmX1_find (va_Pc [.ref (ad (12 + 6 * n)), .int x1, .int x2] (am_B dC dI ca ad M)) (am_Qi dC dI ca ad Q) 0 0 (am_A ad 63) := by
  refine Met.ofW (cc := cX1_find) (maxL := 5) (ret := (some .int)) (by decide) rfl ?_
  intro p e s m args below meth c s₁ B hml hv
  obtain ⟨rfl, hP, hK, hN⟩ := hv
  have hx := B.exec
  have hb := B.bytes
  have hr := B.returns
  have hts := atoms_spec (ws := wsX1_find) B.pre
  have hta : ∀ w ∈ am_all, w.before _ s = true := fun w hw => hts w (List.mem_cons_of_mem _ hw)
  have hown : s.vm.findClass RX1 = some m.cls := findClass_of_methodNamed B.named
  have hlocks := B.notSynchronized
  have hl := lv_entry ([.ref (ad (12 + 6 * n)), .int x1, .int x2]) (n := 5) (Nat.le_of_ble_eq_true rfl)
  rw [lg_entry_eq]
  generalize (lg_sl ([.ref (ad (12 + 6 * n)), .int x1, .int x2]) ++ List.replicate (5 - (lg_sl ([.ref (ad (12 + 6 * n)), .int x1, .int x2])).length) Slot.unset).toArray = ls at hl ⊢
  have hl : lv_has ls 5 [(0, .ref (ad (12 + 6 * n))), (1, .int x1), (2, .int x2)] := hl
  replace h := w_X1_find_s h
  refine am_enter (A := am_A ad 63) hP (fun H locs hP hS => ?_)
  refine lv_iload_n hx hb dX1_find_0 rfl (lv_at hl 1 rfl) ?_
  refine lv_iload_n hx hb dX1_find_1 rfl (lv_at hl 2 rfl) ?_
  refine am_calli (va_runS (As := [.int x1, .int x2]) (rest := []) ⟨hx, hb, hml, hown, hts⟩ (c_X1_labelOf l dC dI ca ad hI M x1 x2 _ h) ⟨callB_of 2 hts (am_gd mc_X1_labelOf) rfl rfl rfl (hta _ mn_X1) (hta _ ml_X1_22) dc_X1_labelOf ⟨Nat.le_of_ble_eq_true rfl, Nat.le_of_ble_eq_true rfl⟩, hta _ ms_X1_labelOf⟩ (am_preS hK hN hP) rfl rfl hl.1 rfl (lv_room (Nat.le_of_ble_eq_true rfl)) dX1_find_2 ⟨Nat.zero_le _, Nat.zero_le _⟩) hS (fun y2 M1 H locs hP hS h => ?_)
  refine am_topi h (fun y3 h => ?_)
  refine lv_istore_n hx hb dX1_find_5 rfl hl (by decide) rfl (fun ls hl => ?_)
  have hl : lv_has ls 5 [(3, .int y3), (0, .ref (ad (12 + 6 * n))), (1, .int x1), (2, .int x2)] := hl
  refine lv_iconst (v := (nI 0)) hx hb dX1_find_6 rfl ?_
  refine am_topi h (fun y4 h => ?_)
  refine lv_istore hx hb dX1_find_7 hl (by decide) rfl (fun ls hl => ?_)
  have hl : lv_has ls 5 [(4, .int y4), (3, .int y3), (0, .ref (ad (12 + 6 * n))), (1, .int x1), (2, .int x2)] := hl
  obtain ⟨f9, h⟩ := h
  have key9 : ∀ (K : am_M → Int32 → Prop), (∀ (M6 : am_M) (z5 : Int32) (ls : Array Slot) (H : Heap) (locs : List Loc), K M6 z5 → va_P (dC, dI) vwCl (am_w ad (am_sh ca) 63 M6) H → va_S (am_A ad 63) s.heap H locs → lv_has ls 5 [(4, .int z5), (3, .int y3), (0, .ref (ad (12 + 6 * n))), (1, .int x1), (2, .int x2)] → am_Wi p l e wsX1_find rmX1_find s m ([.ref (ad (12 + 6 * n)), .int x1, .int x2] : List Value).toArray below meth c H locs dC dI ca ad Q (F0 m 38 ls [])) → ∀ (f9 : Nat) (M6 : am_M) (z5 : Int32) (ls : Array Slot) (H : Heap) (locs : List Loc), w_X1_find_L9 y3 n x1 x2 Q K f9 M6 z5 → va_P (dC, dI) vwCl (am_w ad (am_sh ca) 63 M6) H → va_S (am_A ad 63) s.heap H locs → lv_has ls 5 [(4, .int z5), (3, .int y3), (0, .ref (ad (12 + 6 * n))), (1, .int x1), (2, .int x2)] → am_Wi p l e wsX1_find rmX1_find s m ([.ref (ad (12 + 6 * n)), .int x1, .int x2] : List Value).toArray below meth c H locs dC dI ca ad Q (F0 m 9 ls []) := by
    intro K hex9 f9
    induction f9 with
    | zero => intro _ _ _ _ _ h; exact False.elim h
    | succ f9 ih9 =>
      intro M6 z5 ls H locs h hP hS hl
      replace h := w_X1_find_L9_s h
      refine lv_iload hx hb dX1_find_9 (lv_at hl 0 rfl) ?_
      refine lv_aload_n hx hb dX1_find_11 rfl (lv_at hl 2 rfl) ?_
      refine gf_X1_18 hx hb hta hown hK hP (am_wo (i := (12 + 6 * n)) (by omega) (am_s_log ca hn)) (am_fvi rfl) dX1_find_12 ?_
      refine lv_icmp_ge (tgt := 38) hx hb dX1_find_15 rfl (fun hc => ?_) (fun hc => ?_)
      · replace h := h.1 hc
        clear hc
        exact hex9 M6 z5 ls H locs h hP hS (lv_sub hl [0, 1, 2, 3, 4] rfl)
      · replace h := h.2 hc
        clear hc
        refine lv_aload_n hx hb dX1_find_18 rfl (lv_at hl 2 rfl) ?_
        refine gf_X1_9 hx hb hta hown hK hP (am_wo (i := (12 + 6 * n)) (by omega) (am_s_log ca hn)) (am_fvr (j := (13 + 6 * n)) rfl) dX1_find_19 ?_
        refine lv_iload hx hb dX1_find_22 (lv_at hl 0 rfl) ?_
        refine am_iald hx hb hK hP (i := (13 + 6 * n)) (by omega) (am_s_labels ca hn) h dX1_find_24 (fun k7 hk7 h => ?_)
        refine lv_iload_n hx hb dX1_find_25 rfl (lv_at hl 1 rfl) ?_
        refine lv_icmp_ne (tgt := 32) hx hb dX1_find_26 rfl (fun hc => ?_) (fun hc => ?_)
        · replace h := h.1 hc
          clear hc
          refine am_iinc (k := 0) (d := nI 1) hx hb dX1_find_32 hl rfl rfl (by decide) h (fun y8 ls h hl => ?_)
          have hl : lv_has ls 5 [(4, .int y8), (3, .int y3), (0, .ref (ad (12 + 6 * n))), (1, .int x1), (2, .int x2)] := hl
          refine lv_goto (tgt := 9) hx hb dX1_find_35 rfl ?_
          exact ih9 M6 y8 ls H locs h hP hS (lv_sub hl [0, 1, 2, 3, 4] rfl)
        · replace h := h.2 hc
          clear hc
          refine lv_iload hx hb dX1_find_29 (lv_at hl 0 rfl) ?_
          exact am_iret hx hb hr hK hN hP hS h hlocks dX1_find_31
  refine key9 _ ?_ f9 M1 y4 ls H locs h hP hS hl
  intro M9 z10 ls H locs h hP hS hl
  refine lv_iconst (v := (-1)) hx hb dX1_find_38 rfl ?_
  exact am_iret hx hb hr hK hN hP hS h hlocks dX1_find_39
abbrev rmX3_restorePrepared : Room := { frames := 2, cells := 0, slots := 0, locals := 45 }
set_option maxHeartbeats 4000000 in
set_option maxRecDepth 100000 in
theorem c_X3_restorePrepared (l : Launch) (dC : Nat → ClassId) (dI : Nat → Nat → Nat) (ca : Nat → ClassId) (ad : Nat → Nat) (hI : am_inj ad) (M : am_M) (n : Nat) (hn : n < 4) (x1 : Int32) (Q : Int32 → am_M → Prop) (h : w_X3_restorePrepared M n x1 Q) : Met l yX3_restorePrepared wsX3_restorePrepared rmX3_restorePrepared (va_Pc [.ref (ad (9 + 6 * n)), .int x1] (am_B dC dI ca ad M)) (am_Qi dC dI ca ad Q) 0 0 (am_A ad 63) := by
  refine Met.ofW (cc := cX3_restorePrepared) (maxL := 3) (ret := (some .boolean)) (by decide) rfl ?_
  intro p e s m args below meth c s₁ B hml hv
  obtain ⟨rfl, hP, hK, hN⟩ := hv
  have hx := B.exec
  have hb := B.bytes
  have hr := B.returns
  have hts := atoms_spec (ws := wsX3_restorePrepared) B.pre
  have hta : ∀ w ∈ am_all, w.before _ s = true := fun w hw => hts w (List.mem_cons_of_mem _ hw)
  have hown : s.vm.findClass RX3 = some m.cls := findClass_of_methodNamed B.named
  have hlocks := B.notSynchronized
  have hl := lv_entry ([.ref (ad (9 + 6 * n)), .int x1]) (n := 3) (Nat.le_of_ble_eq_true rfl)
  rw [lg_entry_eq]
  generalize (lg_sl ([.ref (ad (9 + 6 * n)), .int x1]) ++ List.replicate (3 - (lg_sl ([.ref (ad (9 + 6 * n)), .int x1])).length) Slot.unset).toArray = ls at hl ⊢
  have hl : lv_has ls 3 [(0, .ref (ad (9 + 6 * n))), (1, .int x1)] := hl
  replace h := w_X3_restorePrepared_s h
  refine am_enter (A := am_A ad 63) hP (fun H locs hP hS => ?_)
  refine lv_aload_n hx hb dX3_restorePrepared_0 rfl (lv_at hl 0 rfl) ?_
  refine gf_X3_25 hx hb hta hown hK hP (am_wo (i := (9 + 6 * n)) (by omega) (am_s_node ca hn)) (am_fvr (j := (12 + 6 * n)) rfl) dX3_restorePrepared_1 ?_
  refine lv_iload_n hx hb dX3_restorePrepared_4 rfl (lv_at hl 1 rfl) ?_
  refine lv_iconst (v := (nI 1)) hx hb dX3_restorePrepared_5 rfl ?_
  refine am_calli (va_runV (C := RX1) (As := [.int x1, .int (nI 1)]) (rest := []) ⟨hx, hb, hml, hown, hts⟩ (c_X1_find l dC dI ca ad hI M n hn x1 (nI 1) _ h) ⟨callB_of 2 hts (am_gd mc_X1_find) rfl rfl rfl (hta _ mn_X1) (hta _ ml_X3_57) dc_X1_find ⟨Nat.le_of_ble_eq_true rfl, Nat.le_of_ble_eq_true rfl⟩, hta _ mi_X1_find, hta _ me_X1_find⟩ (am_preV (q := (RX1, TX1, 5)) hK hN hP rfl (by omega) (am_s_log ca hn)) rfl rfl hl.1 rfl (lv_room (Nat.le_of_ble_eq_true rfl)) dX3_restorePrepared_6 ⟨Nat.zero_le _, Nat.zero_le _⟩) hS (fun y2 M1 H locs hP hS h => ?_)
  refine am_topi h (fun y3 h => ?_)
  refine lv_istore_n hx hb dX3_restorePrepared_9 rfl hl (by decide) rfl (fun ls hl => ?_)
  have hl : lv_has ls 3 [(2, .int y3), (0, .ref (ad (9 + 6 * n))), (1, .int x1)] := hl
  refine lv_iload_n hx hb dX3_restorePrepared_10 rfl (lv_at hl 0 rfl) ?_
  refine lv_iconst (v := (-1)) hx hb dX3_restorePrepared_11 rfl ?_
  refine lv_icmp_eq (tgt := 41) hx hb dX3_restorePrepared_12 rfl (fun hc => ?_) (fun hc => ?_)
  · replace h := h.1 hc
    clear hc
    refine lv_iconst (v := (nI 0)) hx hb dX3_restorePrepared_41 rfl ?_
    exact am_zret hx hb hr (rfl) hK hN hP hS h hlocks dX3_restorePrepared_42
  · replace h := h.2 hc
    clear hc
    refine lv_aload_n hx hb dX3_restorePrepared_15 rfl (lv_at hl 1 rfl) ?_
    refine gf_X3_25 hx hb hta hown hK hP (am_wo (i := (9 + 6 * n)) (by omega) (am_s_node ca hn)) (am_fvr (j := (12 + 6 * n)) rfl) dX3_restorePrepared_16 ?_
    refine lv_iload_n hx hb dX3_restorePrepared_19 rfl (lv_at hl 2 rfl) ?_
    refine lv_iconst (v := (nI 2)) hx hb dX3_restorePrepared_20 rfl ?_
    refine am_calli (va_runV (C := RX1) (As := [.int x1, .int (nI 2)]) (rest := []) ⟨hx, hb, hml, hown, hts⟩ (c_X1_find l dC dI ca ad hI M1 n hn x1 (nI 2) _ h) ⟨callB_of 2 hts (am_gd mc_X1_find) rfl rfl rfl (hta _ mn_X1) (hta _ ml_X3_57) dc_X1_find ⟨Nat.le_of_ble_eq_true rfl, Nat.le_of_ble_eq_true rfl⟩, hta _ mi_X1_find, hta _ me_X1_find⟩ (am_preV (q := (RX1, TX1, 5)) hK hN hP rfl (by omega) (am_s_log ca hn)) rfl rfl hl.1 rfl (lv_room (Nat.le_of_ble_eq_true rfl)) dX3_restorePrepared_21 ⟨Nat.zero_le _, Nat.zero_le _⟩) hS (fun y5 M4 H locs hP hS h => ?_)
    refine lv_iconst (v := (-1)) hx hb dX3_restorePrepared_24 rfl ?_
    refine lv_icmp_ne (tgt := 41) hx hb dX3_restorePrepared_25 rfl (fun hc => ?_) (fun hc => ?_)
    · replace h := h.1 hc
      clear hc
      refine lv_iconst (v := (nI 0)) hx hb dX3_restorePrepared_41 rfl ?_
      exact am_zret hx hb hr (rfl) hK hN hP hS h hlocks dX3_restorePrepared_42
    · replace h := h.2 hc
      clear hc
      refine lv_aload_n hx hb dX3_restorePrepared_28 rfl (lv_at hl 1 rfl) ?_
      refine gf_X3_25 hx hb hta hown hK hP (am_wo (i := (9 + 6 * n)) (by omega) (am_s_node ca hn)) (am_fvr (j := (12 + 6 * n)) rfl) dX3_restorePrepared_29 ?_
      refine lv_iload_n hx hb dX3_restorePrepared_32 rfl (lv_at hl 2 rfl) ?_
      refine lv_iconst (v := (nI 3)) hx hb dX3_restorePrepared_33 rfl ?_
      refine am_calli (va_runV (C := RX1) (As := [.int x1, .int (nI 3)]) (rest := []) ⟨hx, hb, hml, hown, hts⟩ (c_X1_find l dC dI ca ad hI M4 n hn x1 (nI 3) _ h) ⟨callB_of 2 hts (am_gd mc_X1_find) rfl rfl rfl (hta _ mn_X1) (hta _ ml_X3_57) dc_X1_find ⟨Nat.le_of_ble_eq_true rfl, Nat.le_of_ble_eq_true rfl⟩, hta _ mi_X1_find, hta _ me_X1_find⟩ (am_preV (q := (RX1, TX1, 5)) hK hN hP rfl (by omega) (am_s_log ca hn)) rfl rfl hl.1 rfl (lv_room (Nat.le_of_ble_eq_true rfl)) dX3_restorePrepared_34 ⟨Nat.zero_le _, Nat.zero_le _⟩) hS (fun y7 M6 H locs hP hS h => ?_)
      refine lv_iconst (v := (-1)) hx hb dX3_restorePrepared_37 rfl ?_
      refine lv_icmp_eq (tgt := 43) hx hb dX3_restorePrepared_38 rfl (fun hc => ?_) (fun hc => ?_)
      · replace h := h.1 hc
        clear hc
        refine lv_aload_n hx hb dX3_restorePrepared_43 rfl (lv_at hl 1 rfl) ?_
        refine gf_X3_15 hx hb hta hown hK hP (am_wo (i := (9 + 6 * n)) (by omega) (am_s_node ca hn)) (am_fvr (j := (10 + 6 * n)) rfl) dX3_restorePrepared_44 ?_
        refine lv_iload_n hx hb dX3_restorePrepared_47 rfl (lv_at hl 2 rfl) ?_
        refine lv_iconst (v := (nI 3)) hx hb dX3_restorePrepared_48 rfl ?_
        refine am_iast hx hb hK hP hI hS (i := (10 + 6 * n)) (by omega) (am_s_states ca hn) h dX3_restorePrepared_49 (fun M8 H locs hP hS h => ?_)
        refine lv_aload_n hx hb dX3_restorePrepared_50 rfl (lv_at hl 1 rfl) ?_
        refine gf_X3_19 hx hb hta hown hK hP (am_wo (i := (9 + 6 * n)) (by omega) (am_s_node ca hn)) (am_fvr (j := (11 + 6 * n)) rfl) dX3_restorePrepared_51 ?_
        refine lv_iload_n hx hb dX3_restorePrepared_54 rfl (lv_at hl 2 rfl) ?_
        refine lv_aload_n hx hb dX3_restorePrepared_55 rfl (lv_at hl 1 rfl) ?_
        refine gf_X3_25 hx hb hta hown hK hP (am_wo (i := (9 + 6 * n)) (by omega) (am_s_node ca hn)) (am_fvr (j := (12 + 6 * n)) rfl) dX3_restorePrepared_56 ?_
        refine gf_X3_61 hx hb hta hown hK hP (am_wo (i := (12 + 6 * n)) (by omega) (am_s_log ca hn)) (am_fvr (j := (14 + 6 * n)) rfl) dX3_restorePrepared_59 ?_
        refine lv_iload_n hx hb dX3_restorePrepared_62 rfl (lv_at hl 0 rfl) ?_
        refine am_iald hx hb hK hP (i := (14 + 6 * n)) (by omega) (am_s_contents ca hn) h dX3_restorePrepared_63 (fun k9 hk9 h => ?_)
        refine am_iast hx hb hK hP hI hS (i := (11 + 6 * n)) (by omega) (am_s_held ca hn) h dX3_restorePrepared_64 (fun M10 H locs hP hS h => ?_)
        refine lv_iconst (v := (nI 1)) hx hb dX3_restorePrepared_65 rfl ?_
        exact am_zret hx hb hr (rfl) hK hN hP hS h hlocks dX3_restorePrepared_66
      · replace h := h.2 hc
        clear hc
        refine lv_iconst (v := (nI 0)) hx hb dX3_restorePrepared_41 rfl ?_
        exact am_zret hx hb hr (rfl) hK hN hP hS h hlocks dX3_restorePrepared_42
abbrev rmX0_restoreCommitting : Room := { frames := 3, cells := 0, slots := 0, locals := 66 }
set_option maxHeartbeats 4000000 in
set_option maxRecDepth 100000 in
theorem c_X0_restoreCommitting (l : Launch) (dC : Nat → ClassId) (dI : Nat → Nat → Nat) (ca : Nat → ClassId) (ad : Nat → Nat) (hI : am_inj ad) (M : am_M) (x1 : Int32) (x2 : Int32) (Q : Int32 → am_M → Prop) (h : w_X0_restoreCommitting M x1 x2 Q) : Met l yX0_restoreCommitting wsX0_restoreCommitting rmX0_restoreCommitting (va_Pc [.ref (ad 0), .int x1, .int x2] (am_B dC dI ca ad M)) (am_Qi dC dI ca ad Q) 0 0 (am_A ad 63) := by
  refine Met.ofW (cc := cX0_restoreCommitting) (maxL := 7) (ret := (some .boolean)) (by decide) rfl ?_
  intro p e s m args below meth c s₁ B hml hv
  obtain ⟨rfl, hP, hK, hN⟩ := hv
  have hx := B.exec
  have hb := B.bytes
  have hr := B.returns
  have hts := atoms_spec (ws := wsX0_restoreCommitting) B.pre
  have hta : ∀ w ∈ am_all, w.before _ s = true := fun w hw => hts w (List.mem_cons_of_mem _ hw)
  have hown : s.vm.findClass RX0 = some m.cls := findClass_of_methodNamed B.named
  have hlocks := B.notSynchronized
  have hl := lv_entry ([.ref (ad 0), .int x1, .int x2]) (n := 7) (Nat.le_of_ble_eq_true rfl)
  rw [lg_entry_eq]
  generalize (lg_sl ([.ref (ad 0), .int x1, .int x2]) ++ List.replicate (7 - (lg_sl ([.ref (ad 0), .int x1, .int x2])).length) Slot.unset).toArray = ls at hl ⊢
  have hl : lv_has ls 7 [(0, .ref (ad 0)), (1, .int x1), (2, .int x2)] := hl
  replace h := w_X0_restoreCommitting_s h
  refine am_enter (A := am_A ad 63) hP (fun H locs hP hS => ?_)
  refine lv_aload_n hx hb dX0_restoreCommitting_0 rfl (lv_at hl 0 rfl) ?_
  refine gf_X0_11 hx hb hta hown hK hP (am_wo (i := 0) (by decide) (am_s_outer ca)) (am_fvr (j := 1) rfl) dX0_restoreCommitting_1 ?_
  refine lv_iload_n hx hb dX0_restoreCommitting_4 rfl (lv_at hl 1 rfl) ?_
  refine am_aald hx hb hK hP (i := 1) (by decide) (am_s_nodes ca) (t0 := 2) rfl h dX0_restoreCommitting_5 (fun k1 hk1 h => ?_)
  refine gf_X0_111 hx hb hta hown hK hP (am_wo (i := (9 + 6 * k1)) (by omega) (am_s_node ca hk1)) (am_fvr (j := (12 + 6 * k1)) rfl) dX0_restoreCommitting_6 ?_
  refine lv_astore_n hx hb dX0_restoreCommitting_9 rfl hl (by decide) rfl (fun ls hl => ?_)
  have hl : lv_has ls 7 [(3, .ref (ad (12 + 6 * k1))), (0, .ref (ad 0)), (1, .int x1), (2, .int x2)] := hl
  refine lv_aload_n hx hb dX0_restoreCommitting_10 rfl (lv_at hl 0 rfl) ?_
  refine lv_iload_n hx hb dX0_restoreCommitting_11 rfl (lv_at hl 3 rfl) ?_
  refine lv_iconst (v := (nI 4)) hx hb dX0_restoreCommitting_12 rfl ?_
  refine am_calli (va_runV (C := RX1) (As := [.int x2, .int (nI 4)]) (rest := []) ⟨hx, hb, hml, hown, hts⟩ (c_X1_find l dC dI ca ad hI M k1 hk1 x2 (nI 4) _ h) ⟨callB_of 2 hts (am_gd mc_X1_find) rfl rfl rfl (hta _ mn_X1) (hta _ ml_X0_192) dc_X1_find ⟨Nat.le_of_ble_eq_true rfl, Nat.le_of_ble_eq_true rfl⟩, hta _ mi_X1_find, hta _ me_X1_find⟩ (am_preV (q := (RX1, TX1, 5)) hK hN hP rfl (by omega) (am_s_log ca hk1)) rfl rfl hl.1 rfl (lv_room (Nat.le_of_ble_eq_true rfl)) dX0_restoreCommitting_13 ⟨Nat.zero_le _, Nat.zero_le _⟩) hS (fun y3 M2 H locs hP hS h => ?_)
  refine am_topi h (fun y4 h => ?_)
  refine lv_istore hx hb dX0_restoreCommitting_16 hl (by decide) rfl (fun ls hl => ?_)
  have hl : lv_has ls 7 [(4, .int y4), (3, .ref (ad (12 + 6 * k1))), (0, .ref (ad 0)), (1, .int x1), (2, .int x2)] := hl
  refine lv_iload hx hb dX0_restoreCommitting_18 (lv_at hl 0 rfl) ?_
  refine lv_iconst (v := (-1)) hx hb dX0_restoreCommitting_20 rfl ?_
  refine lv_icmp_eq (tgt := 35) hx hb dX0_restoreCommitting_21 rfl (fun hc => ?_) (fun hc => ?_)
  · replace h := h.1 hc
    clear hc
    refine lv_iconst (v := (nI 0)) hx hb dX0_restoreCommitting_35 rfl ?_
    exact am_zret hx hb hr (rfl) hK hN hP hS h hlocks dX0_restoreCommitting_36
  · replace h := h.2 hc
    clear hc
    refine lv_aload_n hx hb dX0_restoreCommitting_24 rfl (lv_at hl 1 rfl) ?_
    refine lv_iload_n hx hb dX0_restoreCommitting_25 rfl (lv_at hl 4 rfl) ?_
    refine lv_bipush (v := (nI 6)) hx hb dX0_restoreCommitting_26 rfl ?_
    refine am_calli (va_runV (C := RX1) (As := [.int x2, .int (nI 6)]) (rest := []) ⟨hx, hb, hml, hown, hts⟩ (c_X1_find l dC dI ca ad hI M2 k1 hk1 x2 (nI 6) _ h) ⟨callB_of 2 hts (am_gd mc_X1_find) rfl rfl rfl (hta _ mn_X1) (hta _ ml_X0_192) dc_X1_find ⟨Nat.le_of_ble_eq_true rfl, Nat.le_of_ble_eq_true rfl⟩, hta _ mi_X1_find, hta _ me_X1_find⟩ (am_preV (q := (RX1, TX1, 5)) hK hN hP rfl (by omega) (am_s_log ca hk1)) rfl rfl hl.1 rfl (lv_room (Nat.le_of_ble_eq_true rfl)) dX0_restoreCommitting_28 ⟨Nat.zero_le _, Nat.zero_le _⟩) hS (fun y6 M5 H locs hP hS h => ?_)
    refine lv_iconst (v := (-1)) hx hb dX0_restoreCommitting_31 rfl ?_
    refine lv_icmp_eq (tgt := 37) hx hb dX0_restoreCommitting_32 rfl (fun hc => ?_) (fun hc => ?_)
    · replace h := h.1 hc
      clear hc
      refine lv_aload_n hx hb dX0_restoreCommitting_37 rfl (lv_at hl 1 rfl) ?_
      refine gf_X0_149 hx hb hta hown hK hP (am_wo (i := (12 + 6 * k1)) (by omega) (am_s_log ca hk1)) (am_fvr (j := (14 + 6 * k1)) rfl) dX0_restoreCommitting_38 ?_
      refine lv_iload hx hb dX0_restoreCommitting_41 (lv_at hl 0 rfl) ?_
      refine am_iald hx hb hK hP (i := (14 + 6 * k1)) (by omega) (am_s_contents ca hk1) h dX0_restoreCommitting_43 (fun k7 hk7 h => ?_)
      refine am_topi h (fun y8 h => ?_)
      refine lv_istore hx hb dX0_restoreCommitting_44 hl (by decide) rfl (fun ls hl => ?_)
      have hl : lv_has ls 7 [(5, .int y8), (4, .int y4), (3, .ref (ad (12 + 6 * k1))), (0, .ref (ad 0)), (1, .int x1), (2, .int x2)] := hl
      refine lv_aload_n hx hb dX0_restoreCommitting_46 rfl (lv_at hl 3 rfl) ?_
      refine gf_X0_18 hx hb hta hown hK hP (am_wo (i := 0) (by decide) (am_s_outer ca)) (am_fvr (j := 2) rfl) dX0_restoreCommitting_47 ?_
      refine lv_iload_n hx hb dX0_restoreCommitting_50 rfl (lv_at hl 5 rfl) ?_
      refine am_aald hx hb hK hP (i := 2) (by decide) (am_s_trans ca) (t0 := 3) rfl h dX0_restoreCommitting_51 (fun k9 hk9 h => ?_)
      refine lv_astore hx hb dX0_restoreCommitting_52 hl (by decide) rfl (fun ls hl => ?_)
      have hl : lv_has ls 7 [(6, .ref (ad (33 + k9))), (5, .int y8), (4, .int y4), (3, .ref (ad (12 + 6 * k1))), (0, .ref (ad 0)), (1, .int x1), (2, .int x2)] := hl
      refine lv_aload hx hb dX0_restoreCommitting_54 (lv_at hl 0 rfl) ?_
      refine lv_iconst (v := (nI 3)) hx hb dX0_restoreCommitting_56 rfl ?_
      refine pf_X0_45 hx hb hta hown hK hP hI hS (i := (33 + k9)) (by omega) (am_s_tx ca hk9) h dX0_restoreCommitting_57 (fun M10 H locs hP hS h => ?_)
      refine lv_aload hx hb dX0_restoreCommitting_60 (lv_at hl 0 rfl) ?_
      refine lv_iload hx hb dX0_restoreCommitting_62 (lv_at hl 1 rfl) ?_
      refine pf_X0_54 hx hb hta hown hK hP hI hS (i := (33 + k9)) (by omega) (am_s_tx ca hk9) h dX0_restoreCommitting_64 (fun M11 H locs hP hS h => ?_)
      refine lv_aload hx hb dX0_restoreCommitting_67 (lv_at hl 0 rfl) ?_
      refine lv_iload hx hb dX0_restoreCommitting_69 (lv_at hl 1 rfl) ?_
      refine pf_X0_127 hx hb hta hown hK hP hI hS (i := (33 + k9)) (by omega) (am_s_tx ca hk9) h dX0_restoreCommitting_71 (fun M12 H locs hP hS h => ?_)
      refine lv_aload hx hb dX0_restoreCommitting_74 (lv_at hl 0 rfl) ?_
      refine lv_iload hx hb dX0_restoreCommitting_76 (lv_at hl 1 rfl) ?_
      refine pf_X0_133 hx hb hta hown hK hP hI hS (i := (33 + k9)) (by omega) (am_s_tx ca hk9) h dX0_restoreCommitting_78 (fun M13 H locs hP hS h => ?_)
      refine lv_aload_n hx hb dX0_restoreCommitting_81 rfl (lv_at hl 4 rfl) ?_
      refine gf_X0_26 hx hb hta hown hK hP (am_wo (i := 0) (by decide) (am_s_outer ca)) (am_fvr (j := 3) rfl) dX0_restoreCommitting_82 ?_
      refine lv_iconst (v := (nI 5)) hx hb dX0_restoreCommitting_85 rfl ?_
      refine lv_iload_n hx hb dX0_restoreCommitting_86 rfl (lv_at hl 5 rfl) ?_
      refine lv_iload hx hb dX0_restoreCommitting_87 (lv_at hl 1 rfl) ?_
      refine lv_iload_n hx hb dX0_restoreCommitting_89 rfl (lv_at hl 6 rfl) ?_
      refine am_callv (va_runV (C := RX2) (As := [.int (nI 5), .int x1, .int y8, .int x2]) (rest := []) ⟨hx, hb, hml, hown, hts⟩ (c_X2_sendToEach l dC dI ca ad hI M13 (nI 5) x1 y8 x2 _ h) ⟨callB_of 4 hts (am_gd mc_X2_sendToEach) rfl rfl rfl (hta _ mn_X2) (hta _ ml_X0_75) dc_X2_sendToEach ⟨Nat.le_of_ble_eq_true rfl, Nat.le_of_ble_eq_true rfl⟩, hta _ mi_X2_sendToEach, hta _ me_X2_sendToEach⟩ (am_preV (q := (RX2, TX2, 2)) hK hN hP rfl (by decide) (am_s_row ca)) rfl rfl hl.1 rfl (lv_room (Nat.le_of_ble_eq_true rfl)) dX0_restoreCommitting_90 ⟨Nat.zero_le _, Nat.zero_le _⟩) hS (fun M14 H locs hP hS h => ?_)
      refine lv_iconst (v := (nI 1)) hx hb dX0_restoreCommitting_93 rfl ?_
      exact am_zret hx hb hr (rfl) hK hN hP hS h hlocks dX0_restoreCommitting_94
    · replace h := h.2 hc
      clear hc
      refine lv_iconst (v := (nI 0)) hx hb dX0_restoreCommitting_35 rfl ?_
      exact am_zret hx hb hr (rfl) hK hN hP hS h hlocks dX0_restoreCommitting_36
abbrev rmX0_recover : Room := { frames := 4, cells := 0, slots := 0, locals := 92 }
set_option maxHeartbeats 4000000 in
set_option maxRecDepth 100000 in
theorem c_X0_recover (l : Launch) (dC : Nat → ClassId) (dI : Nat → Nat → Nat) (ca : Nat → ClassId) (ad : Nat → Nat) (hI : am_inj ad) (M : am_M) (x1 : Int32) (Q : Int32 → am_M → Prop) (h : w_X0_recover M x1 Q) : Met l yX0_recover wsX0_recover rmX0_recover (va_Pc [.ref (ad 0), .int x1] (am_B dC dI ca ad M)) (am_Qi dC dI ca ad Q) 0 0 (am_A ad 63) := by
  refine Met.ofW (cc := cX0_recover) (maxL := 5) (ret := (some .int)) (by decide) rfl ?_
  intro p e s m args below meth c s₁ B hml hv
  obtain ⟨rfl, hP, hK, hN⟩ := hv
  have hx := B.exec
  have hb := B.bytes
  have hr := B.returns
  have hts := atoms_spec (ws := wsX0_recover) B.pre
  have hta : ∀ w ∈ am_all, w.before _ s = true := fun w hw => hts w (List.mem_cons_of_mem _ hw)
  have hown : s.vm.findClass RX0 = some m.cls := findClass_of_methodNamed B.named
  have hlocks := B.notSynchronized
  have hl := lv_entry ([.ref (ad 0), .int x1]) (n := 5) (Nat.le_of_ble_eq_true rfl)
  rw [lg_entry_eq]
  generalize (lg_sl ([.ref (ad 0), .int x1]) ++ List.replicate (5 - (lg_sl ([.ref (ad 0), .int x1])).length) Slot.unset).toArray = ls at hl ⊢
  have hl : lv_has ls 5 [(0, .ref (ad 0)), (1, .int x1)] := hl
  replace h := w_X0_recover_s h
  refine am_enter (A := am_A ad 63) hP (fun H locs hP hS => ?_)
  refine lv_iload_n hx hb dX0_recover_0 rfl (lv_at hl 1 rfl) ?_
  refine am_calli (va_runS (As := [.int x1]) (rest := []) ⟨hx, hb, hml, hown, hts⟩ (c_X0_isNode l dC dI ca ad hI M x1 _ h) ⟨callB_of 1 hts (am_gd mc_X0_isNode) rfl rfl rfl (hta _ mn_X0) (hta _ ml_X0_34) dc_X0_isNode ⟨Nat.le_of_ble_eq_true rfl, Nat.le_of_ble_eq_true rfl⟩, hta _ ms_X0_isNode⟩ (am_preS hK hN hP) rfl rfl hl.1 rfl (lv_room (Nat.le_of_ble_eq_true rfl)) dX0_recover_1 ⟨Nat.zero_le _, Nat.zero_le _⟩) hS (fun y2 M1 H locs hP hS h => ?_)
  refine lv_if_ne (tgt := 10) hx hb dX0_recover_4 rfl (fun hc => ?_) (fun hc => ?_)
  · replace h := h.1 hc
    clear hc
    refine lv_aload_n hx hb dX0_recover_10 rfl (lv_at hl 0 rfl) ?_
    refine gf_X0_11 hx hb hta hown hK hP (am_wo (i := 0) (by decide) (am_s_outer ca)) (am_fvr (j := 1) rfl) dX0_recover_11 ?_
    refine lv_iload_n hx hb dX0_recover_14 rfl (lv_at hl 1 rfl) ?_
    refine am_aald hx hb hK hP (i := 1) (by decide) (am_s_nodes ca) (t0 := 2) rfl h dX0_recover_15 (fun k3 hk3 h => ?_)
    refine lv_astore_n hx hb dX0_recover_16 rfl hl (by decide) rfl (fun ls hl => ?_)
    have hl : lv_has ls 5 [(2, .ref (ad (9 + 6 * k3))), (0, .ref (ad 0)), (1, .int x1)] := hl
    refine lv_aload_n hx hb dX0_recover_17 rfl (lv_at hl 0 rfl) ?_
    refine gf_X0_38 hx hb hta hown hK hP (am_wo (i := (9 + 6 * k3)) (by omega) (am_s_node ca hk3)) (am_fvi rfl) dX0_recover_18 ?_
    refine lv_if_eq (tgt := 27) hx hb dX0_recover_21 rfl (fun hc => ?_) (fun hc => ?_)
    · replace h := h.1 hc
      clear hc
      refine lv_aload_n hx hb dX0_recover_27 rfl (lv_at hl 0 rfl) ?_
      refine lv_iconst (v := (nI 1)) hx hb dX0_recover_28 rfl ?_
      refine pf_X0_38 hx hb hta hown hK hP hI hS (i := (9 + 6 * k3)) (by omega) (am_s_node ca hk3) h dX0_recover_29 (fun M4 H locs hP hS h => ?_)
      refine lv_iconst (v := (nI 0)) hx hb dX0_recover_32 rfl ?_
      refine am_topi h (fun y5 h => ?_)
      refine lv_istore_n hx hb dX0_recover_33 rfl hl (by decide) rfl (fun ls hl => ?_)
      have hl : lv_has ls 5 [(3, .int y5), (2, .ref (ad (9 + 6 * k3))), (0, .ref (ad 0)), (1, .int x1)] := hl
      refine lv_iconst (v := (nI 0)) hx hb dX0_recover_34 rfl ?_
      refine am_topi h (fun y6 h => ?_)
      refine lv_istore hx hb dX0_recover_35 hl (by decide) rfl (fun ls hl => ?_)
      have hl : lv_has ls 5 [(4, .int y6), (3, .int y5), (2, .ref (ad (9 + 6 * k3))), (0, .ref (ad 0)), (1, .int x1)] := hl
      obtain ⟨f37, h⟩ := h
      have key37 : ∀ (K : am_M → Int32 → Int32 → Prop), (∀ (M9 : am_M) (z7 : Int32) (z8 : Int32) (ls : Array Slot) (H : Heap) (locs : List Loc), K M9 z7 z8 → va_P (dC, dI) vwCl (am_w ad (am_sh ca) 63 M9) H → va_S (am_A ad 63) s.heap H locs → lv_has ls 5 [(4, .int z8), (3, .int z7), (2, .ref (ad (9 + 6 * k3))), (0, .ref (ad 0)), (1, .int x1)] → am_Wi p l e wsX0_recover rmX0_recover s m ([.ref (ad 0), .int x1] : List Value).toArray below meth c H locs dC dI ca ad Q (F0 m 77 ls [])) → ∀ (f37 : Nat) (M9 : am_M) (z7 : Int32) (z8 : Int32) (ls : Array Slot) (H : Heap) (locs : List Loc), w_X0_recover_L37 k3 x1 Q K f37 M9 z7 z8 → va_P (dC, dI) vwCl (am_w ad (am_sh ca) 63 M9) H → va_S (am_A ad 63) s.heap H locs → lv_has ls 5 [(4, .int z8), (3, .int z7), (2, .ref (ad (9 + 6 * k3))), (0, .ref (ad 0)), (1, .int x1)] → am_Wi p l e wsX0_recover rmX0_recover s m ([.ref (ad 0), .int x1] : List Value).toArray below meth c H locs dC dI ca ad Q (F0 m 37 ls []) := by
        intro K hex37 f37
        induction f37 with
        | zero => intro _ _ _ _ _ _ h; exact False.elim h
        | succ f37 ih37 =>
          intro M9 z7 z8 ls H locs h hP hS hl
          replace h := w_X0_recover_L37_s h
          refine lv_iload hx hb dX0_recover_37 (lv_at hl 0 rfl) ?_
          refine lv_aload_n hx hb dX0_recover_39 rfl (lv_at hl 3 rfl) ?_
          refine gf_X0_30 hx hb hta hown hK hP (am_wo (i := 0) (by decide) (am_s_outer ca)) (am_fvi rfl) dX0_recover_40 ?_
          refine lv_icmp_ge (tgt := 77) hx hb dX0_recover_43 rfl (fun hc => ?_) (fun hc => ?_)
          · replace h := h.1 hc
            clear hc
            exact hex37 M9 z7 z8 ls H locs h hP hS (lv_sub hl [0, 1, 2, 3, 4] rfl)
          · replace h := h.2 hc
            clear hc
            refine lv_aload_n hx hb dX0_recover_46 rfl (lv_at hl 2 rfl) ?_
            refine lv_iload hx hb dX0_recover_47 (lv_at hl 0 rfl) ?_
            refine am_calli (va_runV (C := RX3) (As := [.int z8]) (rest := []) ⟨hx, hb, hml, hown, hts⟩ (c_X3_restorePrepared l dC dI ca ad hI M9 k3 hk3 z8 _ h) ⟨callB_of 1 hts (am_gd mc_X3_restorePrepared) rfl rfl rfl (hta _ mn_X3) (hta _ ml_X0_121) dc_X3_restorePrepared ⟨Nat.le_of_ble_eq_true rfl, Nat.le_of_ble_eq_true rfl⟩, hta _ mi_X3_restorePrepared, hta _ me_X3_restorePrepared⟩ (am_preV (q := (RX3, TX3, 4)) hK hN hP rfl (by omega) (am_s_node ca hk3)) rfl rfl hl.1 rfl (lv_room (Nat.le_of_ble_eq_true rfl)) dX0_recover_49 ⟨Nat.zero_le _, Nat.zero_le _⟩) hS (fun y11 M10 H locs hP hS h => ?_)
            refine lv_if_eq (tgt := 58) hx hb dX0_recover_52 rfl (fun hc => ?_) (fun hc => ?_)
            · replace h := h.1 hc
              clear hc
              refine lv_aload_n hx hb dX0_recover_58 rfl (lv_at hl 3 rfl) ?_
              refine lv_iload_n hx hb dX0_recover_59 rfl (lv_at hl 4 rfl) ?_
              refine lv_iload hx hb dX0_recover_60 (lv_at hl 0 rfl) ?_
              refine am_calli (va_runV (C := RX0) (As := [.int x1, .int z8]) (rest := []) ⟨hx, hb, hml, hown, hts⟩ (c_X0_restoreCommitting l dC dI ca ad hI M10 x1 z8 _ h) ⟨callB_of 2 hts (am_gd mc_X0_restoreCommitting) rfl rfl rfl (hta _ mn_X0) (hta _ ml_X0_124) dc_X0_restoreCommitting ⟨Nat.le_of_ble_eq_true rfl, Nat.le_of_ble_eq_true rfl⟩, hta _ mi_X0_restoreCommitting, hta _ me_X0_restoreCommitting⟩ (am_preV (q := (RX0, TX0, 4)) hK hN hP rfl (by decide) (am_s_outer ca)) rfl rfl hl.1 rfl (lv_room (Nat.le_of_ble_eq_true rfl)) dX0_recover_62 ⟨Nat.zero_le _, Nat.zero_le _⟩) hS (fun y13 M12 H locs hP hS h => ?_)
              refine lv_if_eq (tgt := 71) hx hb dX0_recover_65 rfl (fun hc => ?_) (fun hc => ?_)
              · replace h := h.1 hc
                clear hc
                refine am_iinc (k := 0) (d := nI 1) hx hb dX0_recover_71 hl rfl rfl (by decide) h (fun y14 ls h hl => ?_)
                have hl : lv_has ls 5 [(4, .int y14), (3, .int z7), (2, .ref (ad (9 + 6 * k3))), (0, .ref (ad 0)), (1, .int x1)] := hl
                refine lv_goto (tgt := 37) hx hb dX0_recover_74 rfl ?_
                exact ih37 M12 z7 y14 ls H locs h hP hS (lv_sub hl [0, 1, 2, 3, 4] rfl)
              · replace h := h.2 hc
                clear hc
                refine am_iinc (k := 1) (d := nI 1) hx hb dX0_recover_68 hl rfl rfl (by decide) h (fun y15 ls h hl => ?_)
                have hl : lv_has ls 5 [(3, .int y15), (4, .int z8), (2, .ref (ad (9 + 6 * k3))), (0, .ref (ad 0)), (1, .int x1)] := hl
                refine am_iinc (k := 1) (d := nI 1) hx hb dX0_recover_71 hl rfl rfl (by decide) h (fun y16 ls h hl => ?_)
                have hl : lv_has ls 5 [(4, .int y16), (3, .int y15), (2, .ref (ad (9 + 6 * k3))), (0, .ref (ad 0)), (1, .int x1)] := hl
                refine lv_goto (tgt := 37) hx hb dX0_recover_74 rfl ?_
                exact ih37 M12 y15 y16 ls H locs h hP hS (lv_sub hl [0, 1, 2, 3, 4] rfl)
            · replace h := h.2 hc
              clear hc
              refine am_iinc (k := 1) (d := nI 1) hx hb dX0_recover_55 hl rfl rfl (by decide) h (fun y17 ls h hl => ?_)
              have hl : lv_has ls 5 [(3, .int y17), (4, .int z8), (2, .ref (ad (9 + 6 * k3))), (0, .ref (ad 0)), (1, .int x1)] := hl
              refine lv_aload_n hx hb dX0_recover_58 rfl (lv_at hl 3 rfl) ?_
              refine lv_iload_n hx hb dX0_recover_59 rfl (lv_at hl 4 rfl) ?_
              refine lv_iload hx hb dX0_recover_60 (lv_at hl 1 rfl) ?_
              refine am_calli (va_runV (C := RX0) (As := [.int x1, .int z8]) (rest := []) ⟨hx, hb, hml, hown, hts⟩ (c_X0_restoreCommitting l dC dI ca ad hI M10 x1 z8 _ h) ⟨callB_of 2 hts (am_gd mc_X0_restoreCommitting) rfl rfl rfl (hta _ mn_X0) (hta _ ml_X0_124) dc_X0_restoreCommitting ⟨Nat.le_of_ble_eq_true rfl, Nat.le_of_ble_eq_true rfl⟩, hta _ mi_X0_restoreCommitting, hta _ me_X0_restoreCommitting⟩ (am_preV (q := (RX0, TX0, 4)) hK hN hP rfl (by decide) (am_s_outer ca)) rfl rfl hl.1 rfl (lv_room (Nat.le_of_ble_eq_true rfl)) dX0_recover_62 ⟨Nat.zero_le _, Nat.zero_le _⟩) hS (fun y19 M18 H locs hP hS h => ?_)
              refine lv_if_eq (tgt := 71) hx hb dX0_recover_65 rfl (fun hc => ?_) (fun hc => ?_)
              · replace h := h.1 hc
                clear hc
                refine am_iinc (k := 1) (d := nI 1) hx hb dX0_recover_71 hl rfl rfl (by decide) h (fun y20 ls h hl => ?_)
                have hl : lv_has ls 5 [(4, .int y20), (3, .int y17), (2, .ref (ad (9 + 6 * k3))), (0, .ref (ad 0)), (1, .int x1)] := hl
                refine lv_goto (tgt := 37) hx hb dX0_recover_74 rfl ?_
                exact ih37 M18 y17 y20 ls H locs h hP hS (lv_sub hl [0, 1, 2, 3, 4] rfl)
              · replace h := h.2 hc
                clear hc
                refine am_iinc (k := 0) (d := nI 1) hx hb dX0_recover_68 hl rfl rfl (by decide) h (fun y21 ls h hl => ?_)
                have hl : lv_has ls 5 [(3, .int y21), (4, .int z8), (2, .ref (ad (9 + 6 * k3))), (0, .ref (ad 0)), (1, .int x1)] := hl
                refine am_iinc (k := 1) (d := nI 1) hx hb dX0_recover_71 hl rfl rfl (by decide) h (fun y22 ls h hl => ?_)
                have hl : lv_has ls 5 [(4, .int y22), (3, .int y21), (2, .ref (ad (9 + 6 * k3))), (0, .ref (ad 0)), (1, .int x1)] := hl
                refine lv_goto (tgt := 37) hx hb dX0_recover_74 rfl ?_
                exact ih37 M18 y21 y22 ls H locs h hP hS (lv_sub hl [0, 1, 2, 3, 4] rfl)
      refine key37 _ ?_ f37 M4 y5 y6 ls H locs h hP hS hl
      intro M23 z24 z25 ls H locs h hP hS hl
      refine lv_iload_n hx hb dX0_recover_77 rfl (lv_at hl 1 rfl) ?_
      exact am_iret hx hb hr hK hN hP hS h hlocks dX0_recover_78
    · replace h := h.2 hc
      clear hc
      refine lv_bipush (v := (-4)) hx hb dX0_recover_24 rfl ?_
      exact am_iret hx hb hr hK hN hP hS h hlocks dX0_recover_26
  · replace h := h.2 hc
    clear hc
    refine lv_bipush (v := (-2)) hx hb dX0_recover_7 rfl ?_
    exact am_iret hx hb hr hK hN hP hS h hlocks dX0_recover_9
abbrev rmX0_up : Room := { frames := 1, cells := 0, slots := 0, locals := 20 }
set_option maxHeartbeats 4000000 in
set_option maxRecDepth 100000 in
theorem c_X0_up (l : Launch) (dC : Nat → ClassId) (dI : Nat → Nat → Nat) (ca : Nat → ClassId) (ad : Nat → Nat) (hI : am_inj ad) (M : am_M) (x1 : Int32) (Q : Int32 → am_M → Prop) (h : w_X0_up M x1 Q) : Met l yX0_up wsX0_up rmX0_up (va_Pc [.ref (ad 0), .int x1] (am_B dC dI ca ad M)) (am_Qi dC dI ca ad Q) 0 0 (am_A ad 63) := by
  refine Met.ofW (cc := cX0_up) (maxL := 2) (ret := (some .boolean)) (by decide) rfl ?_
  intro p e s m args below meth c s₁ B hml hv
  obtain ⟨rfl, hP, hK, hN⟩ := hv
  have hx := B.exec
  have hb := B.bytes
  have hr := B.returns
  have hts := atoms_spec (ws := wsX0_up) B.pre
  have hta : ∀ w ∈ am_all, w.before _ s = true := fun w hw => hts w (List.mem_cons_of_mem _ hw)
  have hown : s.vm.findClass RX0 = some m.cls := findClass_of_methodNamed B.named
  have hlocks := B.notSynchronized
  have hl := lv_entry ([.ref (ad 0), .int x1]) (n := 2) (Nat.le_of_ble_eq_true rfl)
  rw [lg_entry_eq]
  generalize (lg_sl ([.ref (ad 0), .int x1]) ++ List.replicate (2 - (lg_sl ([.ref (ad 0), .int x1])).length) Slot.unset).toArray = ls at hl ⊢
  have hl : lv_has ls 2 [(0, .ref (ad 0)), (1, .int x1)] := hl
  replace h := w_X0_up_s h
  refine am_enter (A := am_A ad 63) hP (fun H locs hP hS => ?_)
  refine lv_iload_n hx hb dX0_up_0 rfl (lv_at hl 1 rfl) ?_
  refine am_calli (va_runS (As := [.int x1]) (rest := []) ⟨hx, hb, hml, hown, hts⟩ (c_X0_isNode l dC dI ca ad hI M x1 _ h) ⟨callB_of 1 hts (am_gd mc_X0_isNode) rfl rfl rfl (hta _ mn_X0) (hta _ ml_X0_34) dc_X0_isNode ⟨Nat.le_of_ble_eq_true rfl, Nat.le_of_ble_eq_true rfl⟩, hta _ ms_X0_isNode⟩ (am_preS hK hN hP) rfl rfl hl.1 rfl (lv_room (Nat.le_of_ble_eq_true rfl)) dX0_up_1 ⟨Nat.zero_le _, Nat.zero_le _⟩) hS (fun y2 M1 H locs hP hS h => ?_)
  refine lv_if_eq (tgt := 23) hx hb dX0_up_4 rfl (fun hc => ?_) (fun hc => ?_)
  · replace h := h.1 hc
    clear hc
    refine lv_iconst (v := (nI 0)) hx hb dX0_up_23 rfl ?_
    exact am_zret hx hb hr (rfl) hK hN hP hS h hlocks dX0_up_24
  · replace h := h.2 hc
    clear hc
    refine lv_aload_n hx hb dX0_up_7 rfl (lv_at hl 0 rfl) ?_
    refine gf_X0_11 hx hb hta hown hK hP (am_wo (i := 0) (by decide) (am_s_outer ca)) (am_fvr (j := 1) rfl) dX0_up_8 ?_
    refine lv_iload_n hx hb dX0_up_11 rfl (lv_at hl 1 rfl) ?_
    refine am_aald hx hb hK hP (i := 1) (by decide) (am_s_nodes ca) (t0 := 2) rfl h dX0_up_12 (fun k3 hk3 h => ?_)
    refine gf_X0_38 hx hb hta hown hK hP (am_wo (i := (9 + 6 * k3)) (by omega) (am_s_node ca hk3)) (am_fvi rfl) dX0_up_13 ?_
    refine lv_if_eq (tgt := 23) hx hb dX0_up_16 rfl (fun hc => ?_) (fun hc => ?_)
    · replace h := h.1 hc
      clear hc
      refine lv_iconst (v := (nI 0)) hx hb dX0_up_23 rfl ?_
      exact am_zret hx hb hr (rfl) hK hN hP hS h hlocks dX0_up_24
    · replace h := h.2 hc
      clear hc
      refine lv_iconst (v := (nI 1)) hx hb dX0_up_19 rfl ?_
      refine lv_goto (tgt := 24) hx hb dX0_up_20 rfl ?_
      exact am_zret hx hb hr (rfl) hK hN hP hS h hlocks dX0_up_24
abbrev rmX0_stage : Room := { frames := 1, cells := 0, slots := 0, locals := 21 }
set_option maxHeartbeats 4000000 in
set_option maxRecDepth 100000 in
theorem c_X0_stage (l : Launch) (dC : Nat → ClassId) (dI : Nat → Nat → Nat) (ca : Nat → ClassId) (ad : Nat → Nat) (hI : am_inj ad) (M : am_M) (x1 : Int32) (Q : Int32 → am_M → Prop) (h : w_X0_stage M x1 Q) : Met l yX0_stage wsX0_stage rmX0_stage (va_Pc [.ref (ad 0), .int x1] (am_B dC dI ca ad M)) (am_Qi dC dI ca ad Q) 0 0 (am_A ad 63) := by
  refine Met.ofW (cc := cX0_stage) (maxL := 2) (ret := (some .int)) (by decide) rfl ?_
  intro p e s m args below meth c s₁ B hml hv
  obtain ⟨rfl, hP, hK, hN⟩ := hv
  have hx := B.exec
  have hb := B.bytes
  have hr := B.returns
  have hts := atoms_spec (ws := wsX0_stage) B.pre
  have hta : ∀ w ∈ am_all, w.before _ s = true := fun w hw => hts w (List.mem_cons_of_mem _ hw)
  have hown : s.vm.findClass RX0 = some m.cls := findClass_of_methodNamed B.named
  have hlocks := B.notSynchronized
  have hl := lv_entry ([.ref (ad 0), .int x1]) (n := 2) (Nat.le_of_ble_eq_true rfl)
  rw [lg_entry_eq]
  generalize (lg_sl ([.ref (ad 0), .int x1]) ++ List.replicate (2 - (lg_sl ([.ref (ad 0), .int x1])).length) Slot.unset).toArray = ls at hl ⊢
  have hl : lv_has ls 2 [(0, .ref (ad 0)), (1, .int x1)] := hl
  replace h := w_X0_stage_s h
  refine am_enter (A := am_A ad 63) hP (fun H locs hP hS => ?_)
  refine lv_aload_n hx hb dX0_stage_0 rfl (lv_at hl 0 rfl) ?_
  refine lv_iload_n hx hb dX0_stage_1 rfl (lv_at hl 1 rfl) ?_
  refine am_calli (va_runV (C := RX0) (As := [.int x1]) (rest := []) ⟨hx, hb, hml, hown, hts⟩ (c_X0_isTransaction l dC dI ca ad hI M x1 _ h) ⟨callB_of 1 hts (am_gd mc_X0_isTransaction) rfl rfl rfl (hta _ mn_X0) (hta _ ml_X0_48) dc_X0_isTransaction ⟨Nat.le_of_ble_eq_true rfl, Nat.le_of_ble_eq_true rfl⟩, hta _ mi_X0_isTransaction, hta _ me_X0_isTransaction⟩ (am_preV (q := (RX0, TX0, 4)) hK hN hP rfl (by decide) (am_s_outer ca)) rfl rfl hl.1 rfl (lv_room (Nat.le_of_ble_eq_true rfl)) dX0_stage_2 ⟨Nat.zero_le _, Nat.zero_le _⟩) hS (fun y2 M1 H locs hP hS h => ?_)
  refine lv_if_eq (tgt := 20) hx hb dX0_stage_5 rfl (fun hc => ?_) (fun hc => ?_)
  · replace h := h.1 hc
    clear hc
    refine lv_bipush (v := (-2)) hx hb dX0_stage_20 rfl ?_
    exact am_iret hx hb hr hK hN hP hS h hlocks dX0_stage_22
  · replace h := h.2 hc
    clear hc
    refine lv_aload_n hx hb dX0_stage_8 rfl (lv_at hl 0 rfl) ?_
    refine gf_X0_18 hx hb hta hown hK hP (am_wo (i := 0) (by decide) (am_s_outer ca)) (am_fvr (j := 2) rfl) dX0_stage_9 ?_
    refine lv_iload_n hx hb dX0_stage_12 rfl (lv_at hl 1 rfl) ?_
    refine am_aald hx hb hK hP (i := 2) (by decide) (am_s_trans ca) (t0 := 3) rfl h dX0_stage_13 (fun k3 hk3 h => ?_)
    refine gf_X0_45 hx hb hta hown hK hP (am_wo (i := (33 + k3)) (by omega) (am_s_tx ca hk3)) (am_fvi rfl) dX0_stage_14 ?_
    refine lv_goto (tgt := 22) hx hb dX0_stage_17 rfl ?_
    exact am_iret hx hb hr hK hN hP hS h hlocks dX0_stage_22
abbrev rmX0_nodes : Room := { frames := 1, cells := 0, slots := 0, locals := 21 }
set_option maxHeartbeats 4000000 in
set_option maxRecDepth 100000 in
theorem c_X0_nodes (l : Launch) (dC : Nat → ClassId) (dI : Nat → Nat → Nat) (ca : Nat → ClassId) (ad : Nat → Nat) (hI : am_inj ad) (M : am_M) (x1 : Int32) (x2 : Int32) (Q : Int32 → am_M → Prop) (h : w_X0_nodes M x1 x2 Q) : Met l yX0_nodes wsX0_nodes rmX0_nodes (va_Pc [.ref (ad 0), .int x1, .int x2] (am_B dC dI ca ad M)) (am_Qi dC dI ca ad Q) 0 0 (am_A ad 63) := by
  refine Met.ofW (cc := cX0_nodes) (maxL := 3) (ret := (some .int)) (by decide) rfl ?_
  intro p e s m args below meth c s₁ B hml hv
  obtain ⟨rfl, hP, hK, hN⟩ := hv
  have hx := B.exec
  have hb := B.bytes
  have hr := B.returns
  have hts := atoms_spec (ws := wsX0_nodes) B.pre
  have hta : ∀ w ∈ am_all, w.before _ s = true := fun w hw => hts w (List.mem_cons_of_mem _ hw)
  have hown : s.vm.findClass RX0 = some m.cls := findClass_of_methodNamed B.named
  have hlocks := B.notSynchronized
  have hl := lv_entry ([.ref (ad 0), .int x1, .int x2]) (n := 3) (Nat.le_of_ble_eq_true rfl)
  rw [lg_entry_eq]
  generalize (lg_sl ([.ref (ad 0), .int x1, .int x2]) ++ List.replicate (3 - (lg_sl ([.ref (ad 0), .int x1, .int x2])).length) Slot.unset).toArray = ls at hl ⊢
  have hl : lv_has ls 3 [(0, .ref (ad 0)), (1, .int x1), (2, .int x2)] := hl
  replace h := w_X0_nodes_s h
  refine am_enter (A := am_A ad 63) hP (fun H locs hP hS => ?_)
  refine lv_aload_n hx hb dX0_nodes_0 rfl (lv_at hl 0 rfl) ?_
  refine lv_iload_n hx hb dX0_nodes_1 rfl (lv_at hl 1 rfl) ?_
  refine am_calli (va_runV (C := RX0) (As := [.int x1]) (rest := []) ⟨hx, hb, hml, hown, hts⟩ (c_X0_isTransaction l dC dI ca ad hI M x1 _ h) ⟨callB_of 1 hts (am_gd mc_X0_isTransaction) rfl rfl rfl (hta _ mn_X0) (hta _ ml_X0_48) dc_X0_isTransaction ⟨Nat.le_of_ble_eq_true rfl, Nat.le_of_ble_eq_true rfl⟩, hta _ mi_X0_isTransaction, hta _ me_X0_isTransaction⟩ (am_preV (q := (RX0, TX0, 4)) hK hN hP rfl (by decide) (am_s_outer ca)) rfl rfl hl.1 rfl (lv_room (Nat.le_of_ble_eq_true rfl)) dX0_nodes_2 ⟨Nat.zero_le _, Nat.zero_le _⟩) hS (fun y2 M1 H locs hP hS h => ?_)
  refine lv_if_ne (tgt := 11) hx hb dX0_nodes_5 rfl (fun hc => ?_) (fun hc => ?_)
  · replace h := h.1 hc
    clear hc
    refine lv_iload_n hx hb dX0_nodes_11 rfl (lv_at hl 2 rfl) ?_
    by_cases hc : x2 = (nI 0)
    · replace h := h.1 hc
      refine lv_tableIn (tgt := 44) (off := 32) hx hb dX0_nodes_12 (by rw [hc]; decide) (by rw [hc]; decide) (by rw [hc]; rfl) rfl ?_
      clear hc
      refine lv_aload_n hx hb dX0_nodes_44 rfl (lv_at hl 0 rfl) ?_
      refine gf_X0_18 hx hb hta hown hK hP (am_wo (i := 0) (by decide) (am_s_outer ca)) (am_fvr (j := 2) rfl) dX0_nodes_45 ?_
      refine lv_iload_n hx hb dX0_nodes_48 rfl (lv_at hl 1 rfl) ?_
      refine am_aald hx hb hK hP (i := 2) (by decide) (am_s_trans ca) (t0 := 3) rfl h dX0_nodes_49 (fun k3 hk3 h => ?_)
      refine gf_X0_54 hx hb hta hown hK hP (am_wo (i := (33 + k3)) (by omega) (am_s_tx ca hk3)) (am_fvi rfl) dX0_nodes_50 ?_
      exact am_iret hx hb hr hK hN hP hS h hlocks dX0_nodes_53
    · replace h := h.2 hc
      have hc0 := lv_neT (a := 0) hc rfl
      clear hc
      by_cases hc : x2 = (nI 1)
      · replace h := h.1 hc
        refine lv_tableIn (tgt := 54) (off := 42) hx hb dX0_nodes_12 (by rw [hc]; decide) (by rw [hc]; decide) (by rw [hc]; rfl) rfl ?_
        clear hc
        refine lv_aload_n hx hb dX0_nodes_54 rfl (lv_at hl 0 rfl) ?_
        refine gf_X0_18 hx hb hta hown hK hP (am_wo (i := 0) (by decide) (am_s_outer ca)) (am_fvr (j := 2) rfl) dX0_nodes_55 ?_
        refine lv_iload_n hx hb dX0_nodes_58 rfl (lv_at hl 1 rfl) ?_
        refine am_aald hx hb hK hP (i := 2) (by decide) (am_s_trans ca) (t0 := 3) rfl h dX0_nodes_59 (fun k4 hk4 h => ?_)
        refine gf_X0_127 hx hb hta hown hK hP (am_wo (i := (33 + k4)) (by omega) (am_s_tx ca hk4)) (am_fvi rfl) dX0_nodes_60 ?_
        exact am_iret hx hb hr hK hN hP hS h hlocks dX0_nodes_63
      · replace h := h.2 hc
        have hc1 := lv_neT (a := 1) hc rfl
        clear hc
        by_cases hc : x2 = (nI 2)
        · replace h := h.1 hc
          refine lv_tableIn (tgt := 64) (off := 52) hx hb dX0_nodes_12 (by rw [hc]; decide) (by rw [hc]; decide) (by rw [hc]; rfl) rfl ?_
          clear hc
          refine lv_aload_n hx hb dX0_nodes_64 rfl (lv_at hl 0 rfl) ?_
          refine gf_X0_18 hx hb hta hown hK hP (am_wo (i := 0) (by decide) (am_s_outer ca)) (am_fvr (j := 2) rfl) dX0_nodes_65 ?_
          refine lv_iload_n hx hb dX0_nodes_68 rfl (lv_at hl 1 rfl) ?_
          refine am_aald hx hb hK hP (i := 2) (by decide) (am_s_trans ca) (t0 := 3) rfl h dX0_nodes_69 (fun k5 hk5 h => ?_)
          refine gf_X0_130 hx hb hta hown hK hP (am_wo (i := (33 + k5)) (by omega) (am_s_tx ca hk5)) (am_fvi rfl) dX0_nodes_70 ?_
          exact am_iret hx hb hr hK hN hP hS h hlocks dX0_nodes_73
        · replace h := h.2 hc
          have hc2 := lv_neT (a := 2) hc rfl
          clear hc
          by_cases hc : x2 = (nI 3)
          · replace h := h.1 hc
            refine lv_tableIn (tgt := 74) (off := 62) hx hb dX0_nodes_12 (by rw [hc]; decide) (by rw [hc]; decide) (by rw [hc]; rfl) rfl ?_
            clear hc
            refine lv_aload_n hx hb dX0_nodes_74 rfl (lv_at hl 0 rfl) ?_
            refine gf_X0_18 hx hb hta hown hK hP (am_wo (i := 0) (by decide) (am_s_outer ca)) (am_fvr (j := 2) rfl) dX0_nodes_75 ?_
            refine lv_iload_n hx hb dX0_nodes_78 rfl (lv_at hl 1 rfl) ?_
            refine am_aald hx hb hK hP (i := 2) (by decide) (am_s_trans ca) (t0 := 3) rfl h dX0_nodes_79 (fun k6 hk6 h => ?_)
            refine gf_X0_133 hx hb hta hown hK hP (am_wo (i := (33 + k6)) (by omega) (am_s_tx ca hk6)) (am_fvi rfl) dX0_nodes_80 ?_
            exact am_iret hx hb hr hK hN hP hS h hlocks dX0_nodes_83
          · replace h := h.2 hc
            have hc3 := lv_neT (a := 3) hc rfl
            clear hc
            refine lv_tableOut (tgt := 84) hx hb dX0_nodes_12 (by omega) rfl ?_
            clear hc0 hc1 hc2 hc3
            refine lv_bipush (v := (-2)) hx hb dX0_nodes_84 rfl ?_
            exact am_iret hx hb hr hK hN hP hS h hlocks dX0_nodes_86
  · replace h := h.2 hc
    clear hc
    refine lv_bipush (v := (-2)) hx hb dX0_nodes_8 rfl ?_
    exact am_iret hx hb hr hK hN hP hS h hlocks dX0_nodes_10
abbrev rmX0_state : Room := { frames := 1, cells := 0, slots := 0, locals := 21 }
set_option maxHeartbeats 4000000 in
set_option maxRecDepth 100000 in
theorem c_X0_state (l : Launch) (dC : Nat → ClassId) (dI : Nat → Nat → Nat) (ca : Nat → ClassId) (ad : Nat → Nat) (hI : am_inj ad) (M : am_M) (x1 : Int32) (x2 : Int32) (Q : Int32 → am_M → Prop) (h : w_X0_state M x1 x2 Q) : Met l yX0_state wsX0_state rmX0_state (va_Pc [.ref (ad 0), .int x1, .int x2] (am_B dC dI ca ad M)) (am_Qi dC dI ca ad Q) 0 0 (am_A ad 63) := by
  refine Met.ofW (cc := cX0_state) (maxL := 3) (ret := (some .int)) (by decide) rfl ?_
  intro p e s m args below meth c s₁ B hml hv
  obtain ⟨rfl, hP, hK, hN⟩ := hv
  have hx := B.exec
  have hb := B.bytes
  have hr := B.returns
  have hts := atoms_spec (ws := wsX0_state) B.pre
  have hta : ∀ w ∈ am_all, w.before _ s = true := fun w hw => hts w (List.mem_cons_of_mem _ hw)
  have hown : s.vm.findClass RX0 = some m.cls := findClass_of_methodNamed B.named
  have hlocks := B.notSynchronized
  have hl := lv_entry ([.ref (ad 0), .int x1, .int x2]) (n := 3) (Nat.le_of_ble_eq_true rfl)
  rw [lg_entry_eq]
  generalize (lg_sl ([.ref (ad 0), .int x1, .int x2]) ++ List.replicate (3 - (lg_sl ([.ref (ad 0), .int x1, .int x2])).length) Slot.unset).toArray = ls at hl ⊢
  have hl : lv_has ls 3 [(0, .ref (ad 0)), (1, .int x1), (2, .int x2)] := hl
  replace h := w_X0_state_s h
  refine am_enter (A := am_A ad 63) hP (fun H locs hP hS => ?_)
  refine lv_iload_n hx hb dX0_state_0 rfl (lv_at hl 1 rfl) ?_
  refine am_calli (va_runS (As := [.int x1]) (rest := []) ⟨hx, hb, hml, hown, hts⟩ (c_X0_isNode l dC dI ca ad hI M x1 _ h) ⟨callB_of 1 hts (am_gd mc_X0_isNode) rfl rfl rfl (hta _ mn_X0) (hta _ ml_X0_34) dc_X0_isNode ⟨Nat.le_of_ble_eq_true rfl, Nat.le_of_ble_eq_true rfl⟩, hta _ ms_X0_isNode⟩ (am_preS hK hN hP) rfl rfl hl.1 rfl (lv_room (Nat.le_of_ble_eq_true rfl)) dX0_state_1 ⟨Nat.zero_le _, Nat.zero_le _⟩) hS (fun y2 M1 H locs hP hS h => ?_)
  refine lv_if_eq (tgt := 15) hx hb dX0_state_4 rfl (fun hc => ?_) (fun hc => ?_)
  · replace h := h.1 hc
    clear hc
    refine lv_bipush (v := (-2)) hx hb dX0_state_15 rfl ?_
    exact am_iret hx hb hr hK hN hP hS h hlocks dX0_state_17
  · replace h := h.2 hc
    clear hc
    refine lv_aload_n hx hb dX0_state_7 rfl (lv_at hl 0 rfl) ?_
    refine lv_iload_n hx hb dX0_state_8 rfl (lv_at hl 2 rfl) ?_
    refine am_calli (va_runV (C := RX0) (As := [.int x2]) (rest := []) ⟨hx, hb, hml, hown, hts⟩ (c_X0_isTransaction l dC dI ca ad hI M1 x2 _ h) ⟨callB_of 1 hts (am_gd mc_X0_isTransaction) rfl rfl rfl (hta _ mn_X0) (hta _ ml_X0_48) dc_X0_isTransaction ⟨Nat.le_of_ble_eq_true rfl, Nat.le_of_ble_eq_true rfl⟩, hta _ mi_X0_isTransaction, hta _ me_X0_isTransaction⟩ (am_preV (q := (RX0, TX0, 4)) hK hN hP rfl (by decide) (am_s_outer ca)) rfl rfl hl.1 rfl (lv_room (Nat.le_of_ble_eq_true rfl)) dX0_state_9 ⟨Nat.zero_le _, Nat.zero_le _⟩) hS (fun y4 M3 H locs hP hS h => ?_)
    refine lv_if_ne (tgt := 18) hx hb dX0_state_12 rfl (fun hc => ?_) (fun hc => ?_)
    · replace h := h.1 hc
      clear hc
      refine lv_aload_n hx hb dX0_state_18 rfl (lv_at hl 0 rfl) ?_
      refine gf_X0_11 hx hb hta hown hK hP (am_wo (i := 0) (by decide) (am_s_outer ca)) (am_fvr (j := 1) rfl) dX0_state_19 ?_
      refine lv_iload_n hx hb dX0_state_22 rfl (lv_at hl 1 rfl) ?_
      refine am_aald hx hb hK hP (i := 1) (by decide) (am_s_nodes ca) (t0 := 2) rfl h dX0_state_23 (fun k5 hk5 h => ?_)
      refine gf_X0_61 hx hb hta hown hK hP (am_wo (i := (9 + 6 * k5)) (by omega) (am_s_node ca hk5)) (am_fvr (j := (10 + 6 * k5)) rfl) dX0_state_24 ?_
      refine lv_iload_n hx hb dX0_state_27 rfl (lv_at hl 2 rfl) ?_
      refine am_iald hx hb hK hP (i := (10 + 6 * k5)) (by omega) (am_s_states ca hk5) h dX0_state_28 (fun k6 hk6 h => ?_)
      exact am_iret hx hb hr hK hN hP hS h hlocks dX0_state_29
    · replace h := h.2 hc
      clear hc
      refine lv_bipush (v := (-2)) hx hb dX0_state_15 rfl ?_
      exact am_iret hx hb hr hK hN hP hS h hlocks dX0_state_17
abbrev rmX0_holder : Room := { frames := 3, cells := 0, slots := 0, locals := 63 }
set_option maxHeartbeats 4000000 in
set_option maxRecDepth 100000 in
theorem c_X0_holder (l : Launch) (dC : Nat → ClassId) (dI : Nat → Nat → Nat) (ca : Nat → ClassId) (ad : Nat → Nat) (hI : am_inj ad) (M : am_M) (x1 : Int32) (x2 : Int32) (Q : Int32 → am_M → Prop) (h : w_X0_holder M x1 x2 Q) : Met l yX0_holder wsX0_holder rmX0_holder (va_Pc [.ref (ad 0), .int x1, .int x2] (am_B dC dI ca ad M)) (am_Qi dC dI ca ad Q) 0 0 (am_A ad 63) := by
  refine Met.ofW (cc := cX0_holder) (maxL := 3) (ret := (some .int)) (by decide) rfl ?_
  intro p e s m args below meth c s₁ B hml hv
  obtain ⟨rfl, hP, hK, hN⟩ := hv
  have hx := B.exec
  have hb := B.bytes
  have hr := B.returns
  have hts := atoms_spec (ws := wsX0_holder) B.pre
  have hta : ∀ w ∈ am_all, w.before _ s = true := fun w hw => hts w (List.mem_cons_of_mem _ hw)
  have hown : s.vm.findClass RX0 = some m.cls := findClass_of_methodNamed B.named
  have hlocks := B.notSynchronized
  have hl := lv_entry ([.ref (ad 0), .int x1, .int x2]) (n := 3) (Nat.le_of_ble_eq_true rfl)
  rw [lg_entry_eq]
  generalize (lg_sl ([.ref (ad 0), .int x1, .int x2]) ++ List.replicate (3 - (lg_sl ([.ref (ad 0), .int x1, .int x2])).length) Slot.unset).toArray = ls at hl ⊢
  have hl : lv_has ls 3 [(0, .ref (ad 0)), (1, .int x1), (2, .int x2)] := hl
  replace h := w_X0_holder_s h
  refine am_enter (A := am_A ad 63) hP (fun H locs hP hS => ?_)
  refine lv_iload_n hx hb dX0_holder_0 rfl (lv_at hl 1 rfl) ?_
  refine am_calli (va_runS (As := [.int x1]) (rest := []) ⟨hx, hb, hml, hown, hts⟩ (c_X0_isNode l dC dI ca ad hI M x1 _ h) ⟨callB_of 1 hts (am_gd mc_X0_isNode) rfl rfl rfl (hta _ mn_X0) (hta _ ml_X0_34) dc_X0_isNode ⟨Nat.le_of_ble_eq_true rfl, Nat.le_of_ble_eq_true rfl⟩, hta _ ms_X0_isNode⟩ (am_preS hK hN hP) rfl rfl hl.1 rfl (lv_room (Nat.le_of_ble_eq_true rfl)) dX0_holder_1 ⟨Nat.zero_le _, Nat.zero_le _⟩) hS (fun y2 M1 H locs hP hS h => ?_)
  refine lv_if_eq (tgt := 14) hx hb dX0_holder_4 rfl (fun hc => ?_) (fun hc => ?_)
  · replace h := h.1 hc
    clear hc
    refine lv_bipush (v := (-2)) hx hb dX0_holder_14 rfl ?_
    exact am_iret hx hb hr hK hN hP hS h hlocks dX0_holder_16
  · replace h := h.2 hc
    clear hc
    refine lv_iload_n hx hb dX0_holder_7 rfl (lv_at hl 2 rfl) ?_
    refine am_calli (va_runS (As := [.int x2]) (rest := []) ⟨hx, hb, hml, hown, hts⟩ (c_X0_isResource l dC dI ca ad hI M1 x2 _ h) ⟨callB_of 1 hts (am_gd mc_X0_isResource) rfl rfl rfl (hta _ mn_X0) (hta _ ml_X0_51) dc_X0_isResource ⟨Nat.le_of_ble_eq_true rfl, Nat.le_of_ble_eq_true rfl⟩, hta _ ms_X0_isResource⟩ (am_preS hK hN hP) rfl rfl hl.1 rfl (lv_room (Nat.le_of_ble_eq_true rfl)) dX0_holder_8 ⟨Nat.zero_le _, Nat.zero_le _⟩) hS (fun y4 M3 H locs hP hS h => ?_)
    refine lv_if_ne (tgt := 17) hx hb dX0_holder_11 rfl (fun hc => ?_) (fun hc => ?_)
    · replace h := h.1 hc
      clear hc
      refine lv_aload_n hx hb dX0_holder_17 rfl (lv_at hl 0 rfl) ?_
      refine gf_X0_11 hx hb hta hown hK hP (am_wo (i := 0) (by decide) (am_s_outer ca)) (am_fvr (j := 1) rfl) dX0_holder_18 ?_
      refine lv_iload_n hx hb dX0_holder_21 rfl (lv_at hl 1 rfl) ?_
      refine am_aald hx hb hK hP (i := 1) (by decide) (am_s_nodes ca) (t0 := 2) rfl h dX0_holder_22 (fun k5 hk5 h => ?_)
      refine lv_iload_n hx hb dX0_holder_23 rfl (lv_at hl 2 rfl) ?_
      refine am_calli (va_runV (C := RX3) (As := [.int x2]) (rest := []) ⟨hx, hb, hml, hown, hts⟩ (c_X3_findOwner l dC dI ca ad hI M3 k5 hk5 x2 _ h) ⟨callB_of 1 hts (am_gd mc_X3_findOwner) rfl rfl rfl (hta _ mn_X3) (hta _ ml_X0_136) dc_X3_findOwner ⟨Nat.le_of_ble_eq_true rfl, Nat.le_of_ble_eq_true rfl⟩, hta _ mi_X3_findOwner, hta _ me_X3_findOwner⟩ (am_preV (q := (RX3, TX3, 4)) hK hN hP rfl (by omega) (am_s_node ca hk5)) rfl rfl hl.1 rfl (lv_room (Nat.le_of_ble_eq_true rfl)) dX0_holder_24 ⟨Nat.zero_le _, Nat.zero_le _⟩) hS (fun y7 M6 H locs hP hS h => ?_)
      exact am_iret hx hb hr hK hN hP hS h hlocks dX0_holder_27
    · replace h := h.2 hc
      clear hc
      refine lv_bipush (v := (-2)) hx hb dX0_holder_14 rfl ?_
      exact am_iret hx hb hr hK hN hP hS h hlocks dX0_holder_16
abbrev rmX0_records : Room := { frames := 1, cells := 0, slots := 0, locals := 20 }
set_option maxHeartbeats 4000000 in
set_option maxRecDepth 100000 in
theorem c_X0_records (l : Launch) (dC : Nat → ClassId) (dI : Nat → Nat → Nat) (ca : Nat → ClassId) (ad : Nat → Nat) (hI : am_inj ad) (M : am_M) (x1 : Int32) (x2 : Int32) (Q : Int32 → am_M → Prop) (h : w_X0_records M x1 x2 Q) : Met l yX0_records wsX0_records rmX0_records (va_Pc [.ref (ad 0), .int x1, .int x2] (am_B dC dI ca ad M)) (am_Qi dC dI ca ad Q) 0 0 (am_A ad 63) := by
  refine Met.ofW (cc := cX0_records) (maxL := 4) (ret := (some .int)) (by decide) rfl ?_
  intro p e s m args below meth c s₁ B hml hv
  obtain ⟨rfl, hP, hK, hN⟩ := hv
  have hx := B.exec
  have hb := B.bytes
  have hr := B.returns
  have hts := atoms_spec (ws := wsX0_records) B.pre
  have hta : ∀ w ∈ am_all, w.before _ s = true := fun w hw => hts w (List.mem_cons_of_mem _ hw)
  have hown : s.vm.findClass RX0 = some m.cls := findClass_of_methodNamed B.named
  have hlocks := B.notSynchronized
  have hl := lv_entry ([.ref (ad 0), .int x1, .int x2]) (n := 4) (Nat.le_of_ble_eq_true rfl)
  rw [lg_entry_eq]
  generalize (lg_sl ([.ref (ad 0), .int x1, .int x2]) ++ List.replicate (4 - (lg_sl ([.ref (ad 0), .int x1, .int x2])).length) Slot.unset).toArray = ls at hl ⊢
  have hl : lv_has ls 4 [(0, .ref (ad 0)), (1, .int x1), (2, .int x2)] := hl
  replace h := w_X0_records_s h
  refine am_enter (A := am_A ad 63) hP (fun H locs hP hS => ?_)
  refine lv_iload_n hx hb dX0_records_0 rfl (lv_at hl 1 rfl) ?_
  refine am_calli (va_runS (As := [.int x1]) (rest := []) ⟨hx, hb, hml, hown, hts⟩ (c_X0_isNode l dC dI ca ad hI M x1 _ h) ⟨callB_of 1 hts (am_gd mc_X0_isNode) rfl rfl rfl (hta _ mn_X0) (hta _ ml_X0_34) dc_X0_isNode ⟨Nat.le_of_ble_eq_true rfl, Nat.le_of_ble_eq_true rfl⟩, hta _ ms_X0_isNode⟩ (am_preS hK hN hP) rfl rfl hl.1 rfl (lv_room (Nat.le_of_ble_eq_true rfl)) dX0_records_1 ⟨Nat.zero_le _, Nat.zero_le _⟩) hS (fun y2 M1 H locs hP hS h => ?_)
  refine lv_if_ne (tgt := 10) hx hb dX0_records_4 rfl (fun hc => ?_) (fun hc => ?_)
  · replace h := h.1 hc
    clear hc
    refine lv_aload_n hx hb dX0_records_10 rfl (lv_at hl 0 rfl) ?_
    refine gf_X0_11 hx hb hta hown hK hP (am_wo (i := 0) (by decide) (am_s_outer ca)) (am_fvr (j := 1) rfl) dX0_records_11 ?_
    refine lv_iload_n hx hb dX0_records_14 rfl (lv_at hl 1 rfl) ?_
    refine am_aald hx hb hK hP (i := 1) (by decide) (am_s_nodes ca) (t0 := 2) rfl h dX0_records_15 (fun k3 hk3 h => ?_)
    refine gf_X0_111 hx hb hta hown hK hP (am_wo (i := (9 + 6 * k3)) (by omega) (am_s_node ca hk3)) (am_fvr (j := (12 + 6 * k3)) rfl) dX0_records_16 ?_
    refine lv_astore_n hx hb dX0_records_19 rfl hl (by decide) rfl (fun ls hl => ?_)
    have hl : lv_has ls 4 [(3, .ref (ad (12 + 6 * k3))), (0, .ref (ad 0)), (1, .int x1), (2, .int x2)] := hl
    refine lv_iload_n hx hb dX0_records_20 rfl (lv_at hl 3 rfl) ?_
    refine lv_if_eq (tgt := 31) hx hb dX0_records_21 rfl (fun hc => ?_) (fun hc => ?_)
    · replace h := h.1 hc
      clear hc
      refine lv_aload_n hx hb dX0_records_31 rfl (lv_at hl 0 rfl) ?_
      refine gf_X0_142 hx hb hta hown hK hP (am_wo (i := (12 + 6 * k3)) (by omega) (am_s_log ca hk3)) (am_fvi rfl) dX0_records_32 ?_
      exact am_iret hx hb hr hK hN hP hS h hlocks dX0_records_35
    · replace h := h.2 hc
      clear hc
      refine lv_aload_n hx hb dX0_records_24 rfl (lv_at hl 0 rfl) ?_
      refine gf_X0_139 hx hb hta hown hK hP (am_wo (i := (12 + 6 * k3)) (by omega) (am_s_log ca hk3)) (am_fvi rfl) dX0_records_25 ?_
      refine lv_goto (tgt := 35) hx hb dX0_records_28 rfl ?_
      exact am_iret hx hb hr hK hN hP hS h hlocks dX0_records_35
  · replace h := h.2 hc
    clear hc
    refine lv_bipush (v := (-2)) hx hb dX0_records_7 rfl ?_
    exact am_iret hx hb hr hK hN hP hS h hlocks dX0_records_9
abbrev rmX1_has : Room := { frames := 0, cells := 0, slots := 0, locals := 0 }
set_option maxHeartbeats 4000000 in
set_option maxRecDepth 100000 in
theorem c_X1_has (l : Launch) (dC : Nat → ClassId) (dI : Nat → Nat → Nat) (ca : Nat → ClassId) (ad : Nat → Nat) (hI : am_inj ad) (M : am_M) (n : Nat) (hn : n < 4) (x1 : Int32) (Q : Int32 → am_M → Prop) (h : w_X1_has M n x1 Q) : Met l yX1_has wsX1_has rmX1_has (va_Pc [.ref (ad (12 + 6 * n)), .int x1] (am_B dC dI ca ad M)) (am_Qi dC dI ca ad Q) 0 0 (am_A ad 63) := by
  refine Met.ofW (cc := cX1_has) (maxL := 2) (ret := (some .boolean)) (by decide) rfl ?_
  intro p e s m args below meth c s₁ B hml hv
  obtain ⟨rfl, hP, hK, hN⟩ := hv
  have hx := B.exec
  have hb := B.bytes
  have hr := B.returns
  have hts := atoms_spec (ws := wsX1_has) B.pre
  have hta : ∀ w ∈ am_all, w.before _ s = true := fun w hw => hts w (List.mem_cons_of_mem _ hw)
  have hown : s.vm.findClass RX1 = some m.cls := findClass_of_methodNamed B.named
  have hlocks := B.notSynchronized
  have hl := lv_entry ([.ref (ad (12 + 6 * n)), .int x1]) (n := 2) (Nat.le_of_ble_eq_true rfl)
  rw [lg_entry_eq]
  generalize (lg_sl ([.ref (ad (12 + 6 * n)), .int x1]) ++ List.replicate (2 - (lg_sl ([.ref (ad (12 + 6 * n)), .int x1])).length) Slot.unset).toArray = ls at hl ⊢
  have hl : lv_has ls 2 [(0, .ref (ad (12 + 6 * n))), (1, .int x1)] := hl
  replace h := w_X1_has_s h
  refine am_enter (A := am_A ad 63) hP (fun H locs hP hS => ?_)
  refine lv_iload_n hx hb dX1_has_0 rfl (lv_at hl 1 rfl) ?_
  refine lv_if_lt (tgt := 16) hx hb dX1_has_1 rfl (fun hc => ?_) (fun hc => ?_)
  · replace h := h.1 hc
    clear hc
    refine lv_iconst (v := (nI 0)) hx hb dX1_has_16 rfl ?_
    exact am_zret hx hb hr (rfl) hK hN hP hS h hlocks dX1_has_17
  · replace h := h.2 hc
    clear hc
    refine lv_iload_n hx hb dX1_has_4 rfl (lv_at hl 1 rfl) ?_
    refine lv_aload_n hx hb dX1_has_5 rfl (lv_at hl 0 rfl) ?_
    refine gf_X1_18 hx hb hta hown hK hP (am_wo (i := (12 + 6 * n)) (by omega) (am_s_log ca hn)) (am_fvi rfl) dX1_has_6 ?_
    refine lv_icmp_ge (tgt := 16) hx hb dX1_has_9 rfl (fun hc => ?_) (fun hc => ?_)
    · replace h := h.1 hc
      clear hc
      refine lv_iconst (v := (nI 0)) hx hb dX1_has_16 rfl ?_
      exact am_zret hx hb hr (rfl) hK hN hP hS h hlocks dX1_has_17
    · replace h := h.2 hc
      clear hc
      refine lv_iconst (v := (nI 1)) hx hb dX1_has_12 rfl ?_
      refine lv_goto (tgt := 17) hx hb dX1_has_13 rfl ?_
      exact am_zret hx hb hr (rfl) hK hN hP hS h hlocks dX1_has_17
abbrev rmX0_entry : Room := { frames := 1, cells := 0, slots := 0, locals := 21 }
set_option maxHeartbeats 4000000 in
set_option maxRecDepth 100000 in
theorem c_X0_entry (l : Launch) (dC : Nat → ClassId) (dI : Nat → Nat → Nat) (ca : Nat → ClassId) (ad : Nat → Nat) (hI : am_inj ad) (M : am_M) (x1 : Int32) (x2 : Int32) (Q : Int32 → am_M → Prop) (h : w_X0_entry M x1 x2 Q) : Met l yX0_entry wsX0_entry rmX0_entry (va_Pc [.ref (ad 0), .int x1, .int x2] (am_B dC dI ca ad M)) (am_Qi dC dI ca ad Q) 0 0 (am_A ad 63) := by
  refine Met.ofW (cc := cX0_entry) (maxL := 4) (ret := (some .int)) (by decide) rfl ?_
  intro p e s m args below meth c s₁ B hml hv
  obtain ⟨rfl, hP, hK, hN⟩ := hv
  have hx := B.exec
  have hb := B.bytes
  have hr := B.returns
  have hts := atoms_spec (ws := wsX0_entry) B.pre
  have hta : ∀ w ∈ am_all, w.before _ s = true := fun w hw => hts w (List.mem_cons_of_mem _ hw)
  have hown : s.vm.findClass RX0 = some m.cls := findClass_of_methodNamed B.named
  have hlocks := B.notSynchronized
  have hl := lv_entry ([.ref (ad 0), .int x1, .int x2]) (n := 4) (Nat.le_of_ble_eq_true rfl)
  rw [lg_entry_eq]
  generalize (lg_sl ([.ref (ad 0), .int x1, .int x2]) ++ List.replicate (4 - (lg_sl ([.ref (ad 0), .int x1, .int x2])).length) Slot.unset).toArray = ls at hl ⊢
  have hl : lv_has ls 4 [(0, .ref (ad 0)), (1, .int x1), (2, .int x2)] := hl
  replace h := w_X0_entry_s h
  refine am_enter (A := am_A ad 63) hP (fun H locs hP hS => ?_)
  refine lv_iload_n hx hb dX0_entry_0 rfl (lv_at hl 1 rfl) ?_
  refine am_calli (va_runS (As := [.int x1]) (rest := []) ⟨hx, hb, hml, hown, hts⟩ (c_X0_isNode l dC dI ca ad hI M x1 _ h) ⟨callB_of 1 hts (am_gd mc_X0_isNode) rfl rfl rfl (hta _ mn_X0) (hta _ ml_X0_34) dc_X0_isNode ⟨Nat.le_of_ble_eq_true rfl, Nat.le_of_ble_eq_true rfl⟩, hta _ ms_X0_isNode⟩ (am_preS hK hN hP) rfl rfl hl.1 rfl (lv_room (Nat.le_of_ble_eq_true rfl)) dX0_entry_1 ⟨Nat.zero_le _, Nat.zero_le _⟩) hS (fun y2 M1 H locs hP hS h => ?_)
  refine lv_if_ne (tgt := 10) hx hb dX0_entry_4 rfl (fun hc => ?_) (fun hc => ?_)
  · replace h := h.1 hc
    clear hc
    refine lv_aload_n hx hb dX0_entry_10 rfl (lv_at hl 0 rfl) ?_
    refine gf_X0_11 hx hb hta hown hK hP (am_wo (i := 0) (by decide) (am_s_outer ca)) (am_fvr (j := 1) rfl) dX0_entry_11 ?_
    refine lv_iload_n hx hb dX0_entry_14 rfl (lv_at hl 1 rfl) ?_
    refine am_aald hx hb hK hP (i := 1) (by decide) (am_s_nodes ca) (t0 := 2) rfl h dX0_entry_15 (fun k3 hk3 h => ?_)
    refine gf_X0_111 hx hb hta hown hK hP (am_wo (i := (9 + 6 * k3)) (by omega) (am_s_node ca hk3)) (am_fvr (j := (12 + 6 * k3)) rfl) dX0_entry_16 ?_
    refine lv_astore_n hx hb dX0_entry_19 rfl hl (by decide) rfl (fun ls hl => ?_)
    have hl : lv_has ls 4 [(3, .ref (ad (12 + 6 * k3))), (0, .ref (ad 0)), (1, .int x1), (2, .int x2)] := hl
    refine lv_aload_n hx hb dX0_entry_20 rfl (lv_at hl 0 rfl) ?_
    refine lv_iload_n hx hb dX0_entry_21 rfl (lv_at hl 3 rfl) ?_
    refine am_calli (va_runV (C := RX1) (As := [.int x2]) (rest := []) ⟨hx, hb, hml, hown, hts⟩ (c_X1_has l dC dI ca ad hI M1 k3 hk3 x2 _ h) ⟨callB_of 1 hts (am_gd mc_X1_has) rfl rfl rfl (hta _ mn_X1) (hta _ ml_X0_145) dc_X1_has ⟨Nat.le_of_ble_eq_true rfl, Nat.le_of_ble_eq_true rfl⟩, hta _ mi_X1_has, hta _ me_X1_has⟩ (am_preV (q := (RX1, TX1, 5)) hK hN hP rfl (by omega) (am_s_log ca hk3)) rfl rfl hl.1 rfl (lv_room (Nat.le_of_ble_eq_true rfl)) dX0_entry_22 ⟨Nat.zero_le _, Nat.zero_le _⟩) hS (fun y5 M4 H locs hP hS h => ?_)
    refine lv_if_eq (tgt := 37) hx hb dX0_entry_25 rfl (fun hc => ?_) (fun hc => ?_)
    · replace h := h.1 hc
      clear hc
      refine lv_iconst (v := (-1)) hx hb dX0_entry_37 rfl ?_
      exact am_iret hx hb hr hK hN hP hS h hlocks dX0_entry_38
    · replace h := h.2 hc
      clear hc
      refine lv_aload_n hx hb dX0_entry_28 rfl (lv_at hl 0 rfl) ?_
      refine gf_X0_146 hx hb hta hown hK hP (am_wo (i := (12 + 6 * k3)) (by omega) (am_s_log ca hk3)) (am_fvr (j := (13 + 6 * k3)) rfl) dX0_entry_29 ?_
      refine lv_iload_n hx hb dX0_entry_32 rfl (lv_at hl 3 rfl) ?_
      refine am_iald hx hb hK hP (i := (13 + 6 * k3)) (by omega) (am_s_labels ca hk3) h dX0_entry_33 (fun k6 hk6 h => ?_)
      refine lv_goto (tgt := 38) hx hb dX0_entry_34 rfl ?_
      exact am_iret hx hb hr hK hN hP hS h hlocks dX0_entry_38
  · replace h := h.2 hc
    clear hc
    refine lv_bipush (v := (-2)) hx hb dX0_entry_7 rfl ?_
    exact am_iret hx hb hr hK hN hP hS h hlocks dX0_entry_9
abbrev rmX0_content : Room := { frames := 1, cells := 0, slots := 0, locals := 21 }
set_option maxHeartbeats 4000000 in
set_option maxRecDepth 100000 in
theorem c_X0_content (l : Launch) (dC : Nat → ClassId) (dI : Nat → Nat → Nat) (ca : Nat → ClassId) (ad : Nat → Nat) (hI : am_inj ad) (M : am_M) (x1 : Int32) (x2 : Int32) (Q : Int32 → am_M → Prop) (h : w_X0_content M x1 x2 Q) : Met l yX0_content wsX0_content rmX0_content (va_Pc [.ref (ad 0), .int x1, .int x2] (am_B dC dI ca ad M)) (am_Qi dC dI ca ad Q) 0 0 (am_A ad 63) := by
  refine Met.ofW (cc := cX0_content) (maxL := 4) (ret := (some .int)) (by decide) rfl ?_
  intro p e s m args below meth c s₁ B hml hv
  obtain ⟨rfl, hP, hK, hN⟩ := hv
  have hx := B.exec
  have hb := B.bytes
  have hr := B.returns
  have hts := atoms_spec (ws := wsX0_content) B.pre
  have hta : ∀ w ∈ am_all, w.before _ s = true := fun w hw => hts w (List.mem_cons_of_mem _ hw)
  have hown : s.vm.findClass RX0 = some m.cls := findClass_of_methodNamed B.named
  have hlocks := B.notSynchronized
  have hl := lv_entry ([.ref (ad 0), .int x1, .int x2]) (n := 4) (Nat.le_of_ble_eq_true rfl)
  rw [lg_entry_eq]
  generalize (lg_sl ([.ref (ad 0), .int x1, .int x2]) ++ List.replicate (4 - (lg_sl ([.ref (ad 0), .int x1, .int x2])).length) Slot.unset).toArray = ls at hl ⊢
  have hl : lv_has ls 4 [(0, .ref (ad 0)), (1, .int x1), (2, .int x2)] := hl
  replace h := w_X0_content_s h
  refine am_enter (A := am_A ad 63) hP (fun H locs hP hS => ?_)
  refine lv_iload_n hx hb dX0_content_0 rfl (lv_at hl 1 rfl) ?_
  refine am_calli (va_runS (As := [.int x1]) (rest := []) ⟨hx, hb, hml, hown, hts⟩ (c_X0_isNode l dC dI ca ad hI M x1 _ h) ⟨callB_of 1 hts (am_gd mc_X0_isNode) rfl rfl rfl (hta _ mn_X0) (hta _ ml_X0_34) dc_X0_isNode ⟨Nat.le_of_ble_eq_true rfl, Nat.le_of_ble_eq_true rfl⟩, hta _ ms_X0_isNode⟩ (am_preS hK hN hP) rfl rfl hl.1 rfl (lv_room (Nat.le_of_ble_eq_true rfl)) dX0_content_1 ⟨Nat.zero_le _, Nat.zero_le _⟩) hS (fun y2 M1 H locs hP hS h => ?_)
  refine lv_if_ne (tgt := 10) hx hb dX0_content_4 rfl (fun hc => ?_) (fun hc => ?_)
  · replace h := h.1 hc
    clear hc
    refine lv_aload_n hx hb dX0_content_10 rfl (lv_at hl 0 rfl) ?_
    refine gf_X0_11 hx hb hta hown hK hP (am_wo (i := 0) (by decide) (am_s_outer ca)) (am_fvr (j := 1) rfl) dX0_content_11 ?_
    refine lv_iload_n hx hb dX0_content_14 rfl (lv_at hl 1 rfl) ?_
    refine am_aald hx hb hK hP (i := 1) (by decide) (am_s_nodes ca) (t0 := 2) rfl h dX0_content_15 (fun k3 hk3 h => ?_)
    refine gf_X0_111 hx hb hta hown hK hP (am_wo (i := (9 + 6 * k3)) (by omega) (am_s_node ca hk3)) (am_fvr (j := (12 + 6 * k3)) rfl) dX0_content_16 ?_
    refine lv_astore_n hx hb dX0_content_19 rfl hl (by decide) rfl (fun ls hl => ?_)
    have hl : lv_has ls 4 [(3, .ref (ad (12 + 6 * k3))), (0, .ref (ad 0)), (1, .int x1), (2, .int x2)] := hl
    refine lv_aload_n hx hb dX0_content_20 rfl (lv_at hl 0 rfl) ?_
    refine lv_iload_n hx hb dX0_content_21 rfl (lv_at hl 3 rfl) ?_
    refine am_calli (va_runV (C := RX1) (As := [.int x2]) (rest := []) ⟨hx, hb, hml, hown, hts⟩ (c_X1_has l dC dI ca ad hI M1 k3 hk3 x2 _ h) ⟨callB_of 1 hts (am_gd mc_X1_has) rfl rfl rfl (hta _ mn_X1) (hta _ ml_X0_145) dc_X1_has ⟨Nat.le_of_ble_eq_true rfl, Nat.le_of_ble_eq_true rfl⟩, hta _ mi_X1_has, hta _ me_X1_has⟩ (am_preV (q := (RX1, TX1, 5)) hK hN hP rfl (by omega) (am_s_log ca hk3)) rfl rfl hl.1 rfl (lv_room (Nat.le_of_ble_eq_true rfl)) dX0_content_22 ⟨Nat.zero_le _, Nat.zero_le _⟩) hS (fun y5 M4 H locs hP hS h => ?_)
    refine lv_if_eq (tgt := 37) hx hb dX0_content_25 rfl (fun hc => ?_) (fun hc => ?_)
    · replace h := h.1 hc
      clear hc
      refine lv_iconst (v := (-1)) hx hb dX0_content_37 rfl ?_
      exact am_iret hx hb hr hK hN hP hS h hlocks dX0_content_38
    · replace h := h.2 hc
      clear hc
      refine lv_aload_n hx hb dX0_content_28 rfl (lv_at hl 0 rfl) ?_
      refine gf_X0_149 hx hb hta hown hK hP (am_wo (i := (12 + 6 * k3)) (by omega) (am_s_log ca hk3)) (am_fvr (j := (14 + 6 * k3)) rfl) dX0_content_29 ?_
      refine lv_iload_n hx hb dX0_content_32 rfl (lv_at hl 3 rfl) ?_
      refine am_iald hx hb hK hP (i := (14 + 6 * k3)) (by omega) (am_s_contents ca hk3) h dX0_content_33 (fun k6 hk6 h => ?_)
      refine lv_goto (tgt := 38) hx hb dX0_content_34 rfl ?_
      exact am_iret hx hb hr hK hN hP hS h hlocks dX0_content_38
  · replace h := h.2 hc
    clear hc
    refine lv_bipush (v := (-2)) hx hb dX0_content_7 rfl ?_
    exact am_iret hx hb hr hK hN hP hS h hlocks dX0_content_9
abbrev rmX0_messages : Room := { frames := 0, cells := 0, slots := 0, locals := 0 }
set_option maxHeartbeats 4000000 in
set_option maxRecDepth 100000 in
theorem c_X0_messages (l : Launch) (dC : Nat → ClassId) (dI : Nat → Nat → Nat) (ca : Nat → ClassId) (ad : Nat → Nat) (hI : am_inj ad) (M : am_M) (Q : Int32 → am_M → Prop) (h : w_X0_messages M Q) : Met l yX0_messages wsX0_messages rmX0_messages (va_Pc [.ref (ad 0)] (am_B dC dI ca ad M)) (am_Qi dC dI ca ad Q) 0 0 (am_A ad 63) := by
  refine Met.ofW (cc := cX0_messages) (maxL := 1) (ret := (some .int)) (by decide) rfl ?_
  intro p e s m args below meth c s₁ B hml hv
  obtain ⟨rfl, hP, hK, hN⟩ := hv
  have hx := B.exec
  have hb := B.bytes
  have hr := B.returns
  have hts := atoms_spec (ws := wsX0_messages) B.pre
  have hta : ∀ w ∈ am_all, w.before _ s = true := fun w hw => hts w (List.mem_cons_of_mem _ hw)
  have hown : s.vm.findClass RX0 = some m.cls := findClass_of_methodNamed B.named
  have hlocks := B.notSynchronized
  have hl := lv_entry ([.ref (ad 0)]) (n := 1) (Nat.le_of_ble_eq_true rfl)
  rw [lg_entry_eq]
  generalize (lg_sl ([.ref (ad 0)]) ++ List.replicate (1 - (lg_sl ([.ref (ad 0)])).length) Slot.unset).toArray = ls at hl ⊢
  have hl : lv_has ls 1 [(0, .ref (ad 0))] := hl
  replace h := w_X0_messages_s h
  refine am_enter (A := am_A ad 63) hP (fun H locs hP hS => ?_)
  refine lv_aload_n hx hb dX0_messages_0 rfl (lv_at hl 0 rfl) ?_
  refine gf_X0_26 hx hb hta hown hK hP (am_wo (i := 0) (by decide) (am_s_outer ca)) (am_fvr (j := 3) rfl) dX0_messages_1 ?_
  refine gf_X0_152 hx hb hta hown hK hP (am_wo (i := 3) (by decide) (am_s_row ca)) (am_fvi rfl) dX0_messages_4 ?_
  exact am_iret hx hb hr hK hN hP hS h hlocks dX0_messages_7
abbrev rmX0_message : Room := { frames := 1, cells := 0, slots := 0, locals := 21 }
set_option maxHeartbeats 4000000 in
set_option maxRecDepth 100000 in
theorem c_X0_message (l : Launch) (dC : Nat → ClassId) (dI : Nat → Nat → Nat) (ca : Nat → ClassId) (ad : Nat → Nat) (hI : am_inj ad) (M : am_M) (x1 : Int32) (x2 : Int32) (Q : Int32 → am_M → Prop) (h : w_X0_message M x1 x2 Q) : Met l yX0_message wsX0_message rmX0_message (va_Pc [.ref (ad 0), .int x1, .int x2] (am_B dC dI ca ad M)) (am_Qi dC dI ca ad Q) 0 0 (am_A ad 63) := by
  refine Met.ofW (cc := cX0_message) (maxL := 3) (ret := (some .int)) (by decide) rfl ?_
  intro p e s m args below meth c s₁ B hml hv
  obtain ⟨rfl, hP, hK, hN⟩ := hv
  have hx := B.exec
  have hb := B.bytes
  have hr := B.returns
  have hts := atoms_spec (ws := wsX0_message) B.pre
  have hta : ∀ w ∈ am_all, w.before _ s = true := fun w hw => hts w (List.mem_cons_of_mem _ hw)
  have hown : s.vm.findClass RX0 = some m.cls := findClass_of_methodNamed B.named
  have hlocks := B.notSynchronized
  have hl := lv_entry ([.ref (ad 0), .int x1, .int x2]) (n := 3) (Nat.le_of_ble_eq_true rfl)
  rw [lg_entry_eq]
  generalize (lg_sl ([.ref (ad 0), .int x1, .int x2]) ++ List.replicate (3 - (lg_sl ([.ref (ad 0), .int x1, .int x2])).length) Slot.unset).toArray = ls at hl ⊢
  have hl : lv_has ls 3 [(0, .ref (ad 0)), (1, .int x1), (2, .int x2)] := hl
  replace h := w_X0_message_s h
  refine am_enter (A := am_A ad 63) hP (fun H locs hP hS => ?_)
  refine lv_aload_n hx hb dX0_message_0 rfl (lv_at hl 0 rfl) ?_
  refine gf_X0_26 hx hb hta hown hK hP (am_wo (i := 0) (by decide) (am_s_outer ca)) (am_fvr (j := 3) rfl) dX0_message_1 ?_
  refine lv_iload_n hx hb dX0_message_4 rfl (lv_at hl 1 rfl) ?_
  refine am_calli (va_runV (C := RX2) (As := [.int x1]) (rest := []) ⟨hx, hb, hml, hown, hts⟩ (c_X2_has l dC dI ca ad hI M x1 _ h) ⟨callB_of 1 hts (am_gd mc_X2_has) rfl rfl rfl (hta _ mn_X2) (hta _ ml_X0_88) dc_X2_has ⟨Nat.le_of_ble_eq_true rfl, Nat.le_of_ble_eq_true rfl⟩, hta _ mi_X2_has, hta _ me_X2_has⟩ (am_preV (q := (RX2, TX2, 2)) hK hN hP rfl (by decide) (am_s_row ca)) rfl rfl hl.1 rfl (lv_room (Nat.le_of_ble_eq_true rfl)) dX0_message_5 ⟨Nat.zero_le _, Nat.zero_le _⟩) hS (fun y2 M1 H locs hP hS h => ?_)
  refine lv_if_eq (tgt := 20) hx hb dX0_message_8 rfl (fun hc => ?_) (fun hc => ?_)
  · replace h := h.1 hc
    clear hc
    refine lv_bipush (v := (-2)) hx hb dX0_message_20 rfl ?_
    exact am_iret hx hb hr hK hN hP hS h hlocks dX0_message_22
  · replace h := h.2 hc
    clear hc
    refine lv_iload_n hx hb dX0_message_11 rfl (lv_at hl 2 rfl) ?_
    refine lv_if_lt (tgt := 20) hx hb dX0_message_12 rfl (fun hc => ?_) (fun hc => ?_)
    · replace h := h.1 hc
      clear hc
      refine lv_bipush (v := (-2)) hx hb dX0_message_20 rfl ?_
      exact am_iret hx hb hr hK hN hP hS h hlocks dX0_message_22
    · replace h := h.2 hc
      clear hc
      refine lv_iload_n hx hb dX0_message_15 rfl (lv_at hl 2 rfl) ?_
      refine lv_iconst (v := (nI 4)) hx hb dX0_message_16 rfl ?_
      refine lv_icmp_lt (tgt := 23) hx hb dX0_message_17 rfl (fun hc => ?_) (fun hc => ?_)
      · replace h := h.1 hc
        clear hc
        refine lv_aload_n hx hb dX0_message_23 rfl (lv_at hl 0 rfl) ?_
        refine gf_X0_26 hx hb hta hown hK hP (am_wo (i := 0) (by decide) (am_s_outer ca)) (am_fvr (j := 3) rfl) dX0_message_24 ?_
        refine gf_X0_91 hx hb hta hown hK hP (am_wo (i := 3) (by decide) (am_s_row ca)) (am_fvr (j := 4) rfl) dX0_message_27 ?_
        refine lv_iload_n hx hb dX0_message_30 rfl (lv_at hl 2 rfl) ?_
        refine am_aald hx hb hK hP (i := 4) (by decide) (am_s_parts ca) (t0 := 4) rfl h dX0_message_31 (fun k3 hk3 h => ?_)
        refine lv_iload_n hx hb dX0_message_32 rfl (lv_at hl 1 rfl) ?_
        refine am_iald hx hb hK hP (i := (5 + k3)) (by omega) (am_s_part ca hk3) h dX0_message_33 (fun k4 hk4 h => ?_)
        exact am_iret hx hb hr hK hN hP hS h hlocks dX0_message_34
      · replace h := h.2 hc
        clear hc
        refine lv_bipush (v := (-2)) hx hb dX0_message_20 rfl ?_
        exact am_iret hx hb hr hK hN hP hS h hlocks dX0_message_22
abbrev rmX0_forced : Room := { frames := 1, cells := 0, slots := 0, locals := 20 }
set_option maxHeartbeats 4000000 in
set_option maxRecDepth 100000 in
theorem c_X0_forced (l : Launch) (dC : Nat → ClassId) (dI : Nat → Nat → Nat) (ca : Nat → ClassId) (ad : Nat → Nat) (hI : am_inj ad) (M : am_M) (x1 : Int32) (Q : Int32 → am_M → Prop) (h : w_X0_forced M x1 Q) : Met l yX0_forced wsX0_forced rmX0_forced (va_Pc [.ref (ad 0), .int x1] (am_B dC dI ca ad M)) (am_Qi dC dI ca ad Q) 0 0 (am_A ad 63) := by
  refine Met.ofW (cc := cX0_forced) (maxL := 2) (ret := (some .int)) (by decide) rfl ?_
  intro p e s m args below meth c s₁ B hml hv
  obtain ⟨rfl, hP, hK, hN⟩ := hv
  have hx := B.exec
  have hb := B.bytes
  have hr := B.returns
  have hts := atoms_spec (ws := wsX0_forced) B.pre
  have hta : ∀ w ∈ am_all, w.before _ s = true := fun w hw => hts w (List.mem_cons_of_mem _ hw)
  have hown : s.vm.findClass RX0 = some m.cls := findClass_of_methodNamed B.named
  have hlocks := B.notSynchronized
  have hl := lv_entry ([.ref (ad 0), .int x1]) (n := 2) (Nat.le_of_ble_eq_true rfl)
  rw [lg_entry_eq]
  generalize (lg_sl ([.ref (ad 0), .int x1]) ++ List.replicate (2 - (lg_sl ([.ref (ad 0), .int x1])).length) Slot.unset).toArray = ls at hl ⊢
  have hl : lv_has ls 2 [(0, .ref (ad 0)), (1, .int x1)] := hl
  replace h := w_X0_forced_s h
  refine am_enter (A := am_A ad 63) hP (fun H locs hP hS => ?_)
  refine lv_iload_n hx hb dX0_forced_0 rfl (lv_at hl 1 rfl) ?_
  refine am_calli (va_runS (As := [.int x1]) (rest := []) ⟨hx, hb, hml, hown, hts⟩ (c_X0_isNode l dC dI ca ad hI M x1 _ h) ⟨callB_of 1 hts (am_gd mc_X0_isNode) rfl rfl rfl (hta _ mn_X0) (hta _ ml_X0_34) dc_X0_isNode ⟨Nat.le_of_ble_eq_true rfl, Nat.le_of_ble_eq_true rfl⟩, hta _ ms_X0_isNode⟩ (am_preS hK hN hP) rfl rfl hl.1 rfl (lv_room (Nat.le_of_ble_eq_true rfl)) dX0_forced_1 ⟨Nat.zero_le _, Nat.zero_le _⟩) hS (fun y2 M1 H locs hP hS h => ?_)
  refine lv_if_eq (tgt := 22) hx hb dX0_forced_4 rfl (fun hc => ?_) (fun hc => ?_)
  · replace h := h.1 hc
    clear hc
    refine lv_bipush (v := (-2)) hx hb dX0_forced_22 rfl ?_
    exact am_iret hx hb hr hK hN hP hS h hlocks dX0_forced_24
  · replace h := h.2 hc
    clear hc
    refine lv_aload_n hx hb dX0_forced_7 rfl (lv_at hl 0 rfl) ?_
    refine gf_X0_11 hx hb hta hown hK hP (am_wo (i := 0) (by decide) (am_s_outer ca)) (am_fvr (j := 1) rfl) dX0_forced_8 ?_
    refine lv_iload_n hx hb dX0_forced_11 rfl (lv_at hl 1 rfl) ?_
    refine am_aald hx hb hK hP (i := 1) (by decide) (am_s_nodes ca) (t0 := 2) rfl h dX0_forced_12 (fun k3 hk3 h => ?_)
    refine gf_X0_111 hx hb hta hown hK hP (am_wo (i := (9 + 6 * k3)) (by omega) (am_s_node ca hk3)) (am_fvr (j := (12 + 6 * k3)) rfl) dX0_forced_13 ?_
    refine gf_X0_153 hx hb hta hown hK hP (am_wo (i := (12 + 6 * k3)) (by omega) (am_s_log ca hk3)) (am_fvi rfl) dX0_forced_16 ?_
    refine lv_goto (tgt := 24) hx hb dX0_forced_19 rfl ?_
    exact am_iret hx hb hr hK hN hP hS h hlocks dX0_forced_24
