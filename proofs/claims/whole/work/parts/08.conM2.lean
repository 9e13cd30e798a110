/-! contracts -/
abbrev rmX5_hear : Room := { frames := 4, cells := 0, slots := 0, locals := 97 }
set_option maxHeartbeats 4000000 in
set_option maxRecDepth 100000 in
theorem c_X5_hear (l : Launch) (dC : Nat → ClassId) (dI : Nat → Nat → Nat) (ca : Nat → ClassId) (ad : Nat → Nat) (hI : am_inj ad) (M : am_M) (x1 : Int32) (x2 : Int32) (x3 : Int32) (x4 : Int32) (Q : am_M → Prop) (h : w_X5_hear M x1 x2 x3 x4 Q) : Met l yX5_hear wsX5_hear rmX5_hear (va_Pc [.ref (ad 43), .int x1, .int x2, .int x3, .int x4] (am_B dC dI ca ad M)) (am_Qv dC dI ca ad Q) 0 0 (am_A ad 63) := by
  refine Met.ofW (cc := cX5_hear) (maxL := 5) (ret := none) (by decide) rfl ?_
  intro p e s m args below meth c s₁ B hml hv
  obtain ⟨rfl, hP, hK, hN⟩ := hv
  have hx := B.exec
  have hb := B.bytes
  have hr := B.returns
  have hts := atoms_spec (ws := wsX5_hear) B.pre
  have hta : ∀ w ∈ am_all, w.before _ s = true := fun w hw => hts w (List.mem_cons_of_mem _ hw)
  have hown : s.vm.findClass RX5 = some m.cls := findClass_of_methodNamed B.named
  have hlocks := B.notSynchronized
  have hl := lv_entry ([.ref (ad 43), .int x1, .int x2, .int x3, .int x4]) (n := 5) (Nat.le_of_ble_eq_true rfl)
  rw [lg_entry_eq]
  generalize (lg_sl ([.ref (ad 43), .int x1, .int x2, .int x3, .int x4]) ++ List.replicate (5 - (lg_sl ([.ref (ad 43), .int x1, .int x2, .int x3, .int x4])).length) Slot.unset).toArray = ls at hl ⊢
  have hl : lv_has ls 5 [(0, .ref (ad 43)), (1, .int x1), (2, .int x2), (3, .int x3), (4, .int x4)] := hl
  replace h := w_X5_hear_s h
  refine am_enter (A := am_A ad 63) hP (fun H locs hP hS => ?_)
  refine lv_iload_n hx hb dX5_hear_0 rfl (lv_at hl 1 rfl) ?_
  by_cases hc : x1 = (nI 1)
  · replace h := h.1 hc
    refine lv_tableIn (tgt := 44) (off := 43) hx hb dX5_hear_1 (by rw [hc]; decide) (by rw [hc]; decide) (by rw [hc]; rfl) rfl ?_
    clear hc
    refine lv_aload_n hx hb dX5_hear_44 rfl (lv_at hl 0 rfl) ?_
    refine lv_iload_n hx hb dX5_hear_45 rfl (lv_at hl 3 rfl) ?_
    refine lv_iload_n hx hb dX5_hear_46 rfl (lv_at hl 2 rfl) ?_
    refine lv_iload hx hb dX5_hear_47 (lv_at hl 4 rfl) ?_
    refine am_callv (va_runV (C := RX5) (As := [.int x3, .int x2, .int x4]) (rest := []) ⟨hx, hb, hml, hown, hts⟩ (c_X5_hearPrepare l dC dI ca ad hI M x3 x2 x4 _ h) ⟨callB_of 3 hts (am_gd mc_X5_hearPrepare) rfl rfl rfl (hta _ mn_X5) (hta _ ml_X5_112) dc_X5_hearPrepare ⟨Nat.le_of_ble_eq_true rfl, Nat.le_of_ble_eq_true rfl⟩, hta _ mi_X5_hearPrepare, hta _ me_X5_hearPrepare⟩ (am_preV (q := (RX5, TX5, 21)) hK hN hP rfl (by decide) (am_s_model ca)) rfl rfl hl.1 rfl (lv_room (Nat.le_of_ble_eq_true rfl)) dX5_hear_49 ⟨Nat.zero_le _, Nat.zero_le _⟩) hS (fun M1 H locs hP hS h => ?_)
    refine lv_goto (tgt := 190) hx hb dX5_hear_52 rfl ?_
    exact am_vret hx hb hr hK hN hP hS h hlocks dX5_hear_190
  · replace h := h.2 hc
    have hc1 := lv_neT (a := 1) hc rfl
    clear hc
    by_cases hc : x1 = (nI 2)
    · replace h := h.1 hc
      refine lv_tableIn (tgt := 55) (off := 54) hx hb dX5_hear_1 (by rw [hc]; decide) (by rw [hc]; decide) (by rw [hc]; rfl) rfl ?_
      clear hc
      refine lv_aload_n hx hb dX5_hear_55 rfl (lv_at hl 0 rfl) ?_
      refine lv_iload_n hx hb dX5_hear_56 rfl (lv_at hl 1 rfl) ?_
      refine lv_iload_n hx hb dX5_hear_57 rfl (lv_at hl 2 rfl) ?_
      refine lv_iload hx hb dX5_hear_58 (lv_at hl 4 rfl) ?_
      refine am_callv (va_runV (C := RX5) (As := [.int x1, .int x2, .int x4]) (rest := []) ⟨hx, hb, hml, hown, hts⟩ (c_X5_hearVote l dC dI ca ad hI M x1 x2 x4 _ h) ⟨callB_of 3 hts (am_gd mc_X5_hearVote) rfl rfl rfl (hta _ mn_X5) (hta _ ml_X5_116) dc_X5_hearVote ⟨Nat.le_of_ble_eq_true rfl, Nat.le_of_ble_eq_true rfl⟩, hta _ mi_X5_hearVote, hta _ me_X5_hearVote⟩ (am_preV (q := (RX5, TX5, 21)) hK hN hP rfl (by decide) (am_s_model ca)) rfl rfl hl.1 rfl (lv_room (Nat.le_of_ble_eq_true rfl)) dX5_hear_60 ⟨Nat.zero_le _, Nat.zero_le _⟩) hS (fun M2 H locs hP hS h => ?_)
      refine lv_goto (tgt := 190) hx hb dX5_hear_63 rfl ?_
      exact am_vret hx hb hr hK hN hP hS h hlocks dX5_hear_190
    · replace h := h.2 hc
      have hc2 := lv_neT (a := 2) hc rfl
      clear hc
      by_cases hc : x1 = (nI 3)
      · replace h := h.1 hc
        refine lv_tableIn (tgt := 55) (off := 54) hx hb dX5_hear_1 (by rw [hc]; decide) (by rw [hc]; decide) (by rw [hc]; rfl) rfl ?_
        clear hc
        refine lv_aload_n hx hb dX5_hear_55 rfl (lv_at hl 0 rfl) ?_
        refine lv_iload_n hx hb dX5_hear_56 rfl (lv_at hl 1 rfl) ?_
        refine lv_iload_n hx hb dX5_hear_57 rfl (lv_at hl 2 rfl) ?_
        refine lv_iload hx hb dX5_hear_58 (lv_at hl 4 rfl) ?_
        refine am_callv (va_runV (C := RX5) (As := [.int x1, .int x2, .int x4]) (rest := []) ⟨hx, hb, hml, hown, hts⟩ (c_X5_hearVote l dC dI ca ad hI M x1 x2 x4 _ h) ⟨callB_of 3 hts (am_gd mc_X5_hearVote) rfl rfl rfl (hta _ mn_X5) (hta _ ml_X5_116) dc_X5_hearVote ⟨Nat.le_of_ble_eq_true rfl, Nat.le_of_ble_eq_true rfl⟩, hta _ mi_X5_hearVote, hta _ me_X5_hearVote⟩ (am_preV (q := (RX5, TX5, 21)) hK hN hP rfl (by decide) (am_s_model ca)) rfl rfl hl.1 rfl (lv_room (Nat.le_of_ble_eq_true rfl)) dX5_hear_60 ⟨Nat.zero_le _, Nat.zero_le _⟩) hS (fun M3 H locs hP hS h => ?_)
        refine lv_goto (tgt := 190) hx hb dX5_hear_63 rfl ?_
        exact am_vret hx hb hr hK hN hP hS h hlocks dX5_hear_190
      · replace h := h.2 hc
        have hc3 := lv_neT (a := 3) hc rfl
        clear hc
        by_cases hc : x1 = (nI 4)
        · replace h := h.1 hc
          refine lv_tableIn (tgt := 55) (off := 54) hx hb dX5_hear_1 (by rw [hc]; decide) (by rw [hc]; decide) (by rw [hc]; rfl) rfl ?_
          clear hc
          refine lv_aload_n hx hb dX5_hear_55 rfl (lv_at hl 0 rfl) ?_
          refine lv_iload_n hx hb dX5_hear_56 rfl (lv_at hl 1 rfl) ?_
          refine lv_iload_n hx hb dX5_hear_57 rfl (lv_at hl 2 rfl) ?_
          refine lv_iload hx hb dX5_hear_58 (lv_at hl 4 rfl) ?_
          refine am_callv (va_runV (C := RX5) (As := [.int x1, .int x2, .int x4]) (rest := []) ⟨hx, hb, hml, hown, hts⟩ (c_X5_hearVote l dC dI ca ad hI M x1 x2 x4 _ h) ⟨callB_of 3 hts (am_gd mc_X5_hearVote) rfl rfl rfl (hta _ mn_X5) (hta _ ml_X5_116) dc_X5_hearVote ⟨Nat.le_of_ble_eq_true rfl, Nat.le_of_ble_eq_true rfl⟩, hta _ mi_X5_hearVote, hta _ me_X5_hearVote⟩ (am_preV (q := (RX5, TX5, 21)) hK hN hP rfl (by decide) (am_s_model ca)) rfl rfl hl.1 rfl (lv_room (Nat.le_of_ble_eq_true rfl)) dX5_hear_60 ⟨Nat.zero_le _, Nat.zero_le _⟩) hS (fun M4 H locs hP hS h => ?_)
          refine lv_goto (tgt := 190) hx hb dX5_hear_63 rfl ?_
          exact am_vret hx hb hr hK hN hP hS h hlocks dX5_hear_190
        · replace h := h.2 hc
          have hc4 := lv_neT (a := 4) hc rfl
          clear hc
          by_cases hc : x1 = (nI 5)
          · replace h := h.1 hc
            refine lv_tableIn (tgt := 66) (off := 65) hx hb dX5_hear_1 (by rw [hc]; decide) (by rw [hc]; decide) (by rw [hc]; rfl) rfl ?_
            clear hc
            refine lv_aload_n hx hb dX5_hear_66 rfl (lv_at hl 0 rfl) ?_
            refine gf_X5_35 hx hb hta hown hK hP (am_wo (i := 43) (by decide) (am_s_model ca)) (am_fvr (j := 52) rfl) dX5_hear_67 ?_
            refine lv_iconst (v := (nI 4)) hx hb dX5_hear_70 rfl ?_
            refine lv_iload hx hb dX5_hear_71 (lv_at hl 4 rfl) ?_
            refine lv_imul hx hb dX5_hear_73 ?_
            refine lv_iload_n hx hb dX5_hear_74 rfl (lv_at hl 3 rfl) ?_
            refine lv_iadd hx hb dX5_hear_75 ?_
            refine am_iald hx hb hK hP (i := 52) (by decide) (am_s_m_states ca) h dX5_hear_76 (fun k5 hk5 h => ?_)
            refine lv_iconst (v := (nI 3)) hx hb dX5_hear_77 rfl ?_
            refine lv_icmp_ne (tgt := 97) hx hb dX5_hear_78 rfl (fun hc => ?_) (fun hc => ?_)
            · replace h := h.1 hc
              clear hc
              refine lv_aload_n hx hb dX5_hear_97 rfl (lv_at hl 0 rfl) ?_
              refine lv_bipush (v := (nI 7)) hx hb dX5_hear_98 rfl ?_
              refine lv_iload_n hx hb dX5_hear_100 rfl (lv_at hl 3 rfl) ?_
              refine lv_iload_n hx hb dX5_hear_101 rfl (lv_at hl 2 rfl) ?_
              refine lv_iload hx hb dX5_hear_102 (lv_at hl 4 rfl) ?_
              refine am_callv (va_runV (C := RX5) (As := [.int (nI 7), .int x3, .int x2, .int x4]) (rest := []) ⟨hx, hb, hml, hown, hts⟩ (c_X5_send l dC dI ca ad hI M (nI 7) x3 x2 x4 _ h) ⟨callB_of 4 hts (am_gd mc_X5_send) rfl rfl rfl (hta _ mn_X5) (hta _ ml_X5_83) dc_X5_send ⟨Nat.le_of_ble_eq_true rfl, Nat.le_of_ble_eq_true rfl⟩, hta _ mi_X5_send, hta _ me_X5_send⟩ (am_preV (q := (RX5, TX5, 21)) hK hN hP rfl (by decide) (am_s_model ca)) rfl rfl hl.1 rfl (lv_room (Nat.le_of_ble_eq_true rfl)) dX5_hear_104 ⟨Nat.zero_le _, Nat.zero_le _⟩) hS (fun M6 H locs hP hS h => ?_)
              refine lv_goto (tgt := 190) hx hb dX5_hear_107 rfl ?_
              exact am_vret hx hb hr hK hN hP hS h hlocks dX5_hear_190
            · replace h := h.2 hc
              clear hc
              refine lv_aload_n hx hb dX5_hear_81 rfl (lv_at hl 0 rfl) ?_
              refine lv_iload_n hx hb dX5_hear_82 rfl (lv_at hl 3 rfl) ?_
              refine lv_iload hx hb dX5_hear_83 (lv_at hl 4 rfl) ?_
              refine lv_iconst (v := (nI 2)) hx hb dX5_hear_85 rfl ?_
              refine lv_iconst (v := (nI 0)) hx hb dX5_hear_86 rfl ?_
              refine am_callv (va_runV (C := RX5) (As := [.int x3, .int x4, .int (nI 2), .int (nI 0)]) (rest := []) ⟨hx, hb, hml, hown, hts⟩ (c_X5_force l dC dI ca ad hI M x3 x4 (nI 2) (nI 0) _ h) ⟨callB_of 4 hts (am_gd mc_X5_force) rfl rfl rfl (hta _ mn_X5) (hta _ ml_X5_94) dc_X5_force ⟨Nat.le_of_ble_eq_true rfl, Nat.le_of_ble_eq_true rfl⟩, hta _ mi_X5_force, hta _ me_X5_force⟩ (am_preV (q := (RX5, TX5, 21)) hK hN hP rfl (by decide) (am_s_model ca)) rfl rfl hl.1 rfl (lv_room (Nat.le_of_ble_eq_true rfl)) dX5_hear_87 ⟨Nat.zero_le _, Nat.zero_le _⟩) hS (fun M7 H locs hP hS h => ?_)
              refine lv_aload_n hx hb dX5_hear_90 rfl (lv_at hl 0 rfl) ?_
              refine lv_iload_n hx hb dX5_hear_91 rfl (lv_at hl 3 rfl) ?_
              refine lv_iload hx hb dX5_hear_92 (lv_at hl 4 rfl) ?_
              refine am_callv (va_runV (C := RX5) (As := [.int x3, .int x4]) (rest := []) ⟨hx, hb, hml, hown, hts⟩ (c_X5_letGo l dC dI ca ad hI M7 x3 x4 _ h) ⟨callB_of 2 hts (am_gd mc_X5_letGo) rfl rfl rfl (hta _ mn_X5) (hta _ ml_X5_79) dc_X5_letGo ⟨Nat.le_of_ble_eq_true rfl, Nat.le_of_ble_eq_true rfl⟩, hta _ mi_X5_letGo, hta _ me_X5_letGo⟩ (am_preV (q := (RX5, TX5, 21)) hK hN hP rfl (by decide) (am_s_model ca)) rfl rfl hl.1 rfl (lv_room (Nat.le_of_ble_eq_true rfl)) dX5_hear_94 ⟨Nat.zero_le _, Nat.zero_le _⟩) hS (fun M8 H locs hP hS h => ?_)
              refine lv_aload_n hx hb dX5_hear_97 rfl (lv_at hl 0 rfl) ?_
              refine lv_bipush (v := (nI 7)) hx hb dX5_hear_98 rfl ?_
              refine lv_iload_n hx hb dX5_hear_100 rfl (lv_at hl 3 rfl) ?_
              refine lv_iload_n hx hb dX5_hear_101 rfl (lv_at hl 2 rfl) ?_
              refine lv_iload hx hb dX5_hear_102 (lv_at hl 4 rfl) ?_
              refine am_callv (va_runV (C := RX5) (As := [.int (nI 7), .int x3, .int x2, .int x4]) (rest := []) ⟨hx, hb, hml, hown, hts⟩ (c_X5_send l dC dI ca ad hI M8 (nI 7) x3 x2 x4 _ h) ⟨callB_of 4 hts (am_gd mc_X5_send) rfl rfl rfl (hta _ mn_X5) (hta _ ml_X5_83) dc_X5_send ⟨Nat.le_of_ble_eq_true rfl, Nat.le_of_ble_eq_true rfl⟩, hta _ mi_X5_send, hta _ me_X5_send⟩ (am_preV (q := (RX5, TX5, 21)) hK hN hP rfl (by decide) (am_s_model ca)) rfl rfl hl.1 rfl (lv_room (Nat.le_of_ble_eq_true rfl)) dX5_hear_104 ⟨Nat.zero_le _, Nat.zero_le _⟩) hS (fun M9 H locs hP hS h => ?_)
              refine lv_goto (tgt := 190) hx hb dX5_hear_107 rfl ?_
              exact am_vret hx hb hr hK hN hP hS h hlocks dX5_hear_190
          · replace h := h.2 hc
            have hc5 := lv_neT (a := 5) hc rfl
            clear hc
            by_cases hc : x1 = (nI 6)
            · replace h := h.1 hc
              refine lv_tableIn (tgt := 110) (off := 109) hx hb dX5_hear_1 (by rw [hc]; decide) (by rw [hc]; decide) (by rw [hc]; rfl) rfl ?_
              clear hc
              refine lv_aload_n hx hb dX5_hear_110 rfl (lv_at hl 0 rfl) ?_
              refine gf_X5_35 hx hb hta hown hK hP (am_wo (i := 43) (by decide) (am_s_model ca)) (am_fvr (j := 52) rfl) dX5_hear_111 ?_
              refine lv_iconst (v := (nI 4)) hx hb dX5_hear_114 rfl ?_
              refine lv_iload hx hb dX5_hear_115 (lv_at hl 4 rfl) ?_
              refine lv_imul hx hb dX5_hear_117 ?_
              refine lv_iload_n hx hb dX5_hear_118 rfl (lv_at hl 3 rfl) ?_
              refine lv_iadd hx hb dX5_hear_119 ?_
              refine am_iald hx hb hK hP (i := 52) (by decide) (am_s_m_states ca) h dX5_hear_120 (fun k10 hk10 h => ?_)
              refine lv_if_eq (tgt := 190) hx hb dX5_hear_121 rfl (fun hc => ?_) (fun hc => ?_)
              · replace h := h.1 hc
                clear hc
                exact am_vret hx hb hr hK hN hP hS h hlocks dX5_hear_190
              · replace h := h.2 hc
                clear hc
                refine lv_aload_n hx hb dX5_hear_124 rfl (lv_at hl 0 rfl) ?_
                refine lv_iload_n hx hb dX5_hear_125 rfl (lv_at hl 3 rfl) ?_
                refine lv_iload hx hb dX5_hear_126 (lv_at hl 4 rfl) ?_
                refine am_callv (va_runV (C := RX5) (As := [.int x3, .int x4]) (rest := []) ⟨hx, hb, hml, hown, hts⟩ (c_X5_giveUp l dC dI ca ad hI M x3 x4 _ h) ⟨callB_of 2 hts (am_gd mc_X5_giveUp) rfl rfl rfl (hta _ mn_X5) (hta _ ml_X5_100) dc_X5_giveUp ⟨Nat.le_of_ble_eq_true rfl, Nat.le_of_ble_eq_true rfl⟩, hta _ mi_X5_giveUp, hta _ me_X5_giveUp⟩ (am_preV (q := (RX5, TX5, 21)) hK hN hP rfl (by decide) (am_s_model ca)) rfl rfl hl.1 rfl (lv_room (Nat.le_of_ble_eq_true rfl)) dX5_hear_128 ⟨Nat.zero_le _, Nat.zero_le _⟩) hS (fun M11 H locs hP hS h => ?_)
                refine lv_goto (tgt := 190) hx hb dX5_hear_131 rfl ?_
                exact am_vret hx hb hr hK hN hP hS h hlocks dX5_hear_190
            · replace h := h.2 hc
              have hc6 := lv_neT (a := 6) hc rfl
              clear hc
              by_cases hc : x1 = (nI 7)
              · replace h := h.1 hc
                refine lv_tableIn (tgt := 134) (off := 133) hx hb dX5_hear_1 (by rw [hc]; decide) (by rw [hc]; decide) (by rw [hc]; rfl) rfl ?_
                clear hc
                refine lv_aload_n hx hb dX5_hear_134 rfl (lv_at hl 0 rfl) ?_
                refine lv_iload_n hx hb dX5_hear_135 rfl (lv_at hl 2 rfl) ?_
                refine lv_iload hx hb dX5_hear_136 (lv_at hl 4 rfl) ?_
                refine am_callv (va_runV (C := RX5) (As := [.int x2, .int x4]) (rest := []) ⟨hx, hb, hml, hown, hts⟩ (c_X5_hearAck l dC dI ca ad hI M x2 x4 _ h) ⟨callB_of 2 hts (am_gd mc_X5_hearAck) rfl rfl rfl (hta _ mn_X5) (hta _ ml_X5_119) dc_X5_hearAck ⟨Nat.le_of_ble_eq_true rfl, Nat.le_of_ble_eq_true rfl⟩, hta _ mi_X5_hearAck, hta _ me_X5_hearAck⟩ (am_preV (q := (RX5, TX5, 21)) hK hN hP rfl (by decide) (am_s_model ca)) rfl rfl hl.1 rfl (lv_room (Nat.le_of_ble_eq_true rfl)) dX5_hear_138 ⟨Nat.zero_le _, Nat.zero_le _⟩) hS (fun M12 H locs hP hS h => ?_)
                refine lv_goto (tgt := 190) hx hb dX5_hear_141 rfl ?_
                exact am_vret hx hb hr hK hN hP hS h hlocks dX5_hear_190
              · replace h := h.2 hc
                have hc7 := lv_neT (a := 7) hc rfl
                clear hc
                refine lv_tableOut (tgt := 144) hx hb dX5_hear_1 (by omega) rfl ?_
                clear hc1 hc2 hc3 hc4 hc5 hc6 hc7
                refine lv_aload_n hx hb dX5_hear_144 rfl (lv_at hl 0 rfl) ?_
                refine gf_X5_20 hx hb hta hown hK hP (am_wo (i := 43) (by decide) (am_s_model ca)) (am_fvr (j := 47) rfl) dX5_hear_145 ?_
                refine lv_iload hx hb dX5_hear_148 (lv_at hl 4 rfl) ?_
                refine am_iald hx hb hK hP (i := 47) (by decide) (am_s_m_stages ca) h dX5_hear_150 (fun k13 hk13 h => ?_)
                refine lv_iconst (v := (nI 3)) hx hb dX5_hear_151 rfl ?_
                refine lv_icmp_eq (tgt := 165) hx hb dX5_hear_152 rfl (fun hc => ?_) (fun hc => ?_)
                · replace h := h.1 hc
                  clear hc
                  refine lv_aload_n hx hb dX5_hear_165 rfl (lv_at hl 0 rfl) ?_
                  refine lv_aload_n hx hb dX5_hear_166 rfl (lv_at hl 0 rfl) ?_
                  refine gf_X5_20 hx hb hta hown hK hP (am_wo (i := 43) (by decide) (am_s_model ca)) (am_fvr (j := 47) rfl) dX5_hear_167 ?_
                  refine lv_iload hx hb dX5_hear_170 (lv_at hl 4 rfl) ?_
                  refine am_iald hx hb hK hP (i := 47) (by decide) (am_s_m_stages ca) h dX5_hear_172 (fun k14 hk14 h => ?_)
                  refine lv_iconst (v := (nI 3)) hx hb dX5_hear_173 rfl ?_
                  refine lv_icmp_ne (tgt := 181) hx hb dX5_hear_174 rfl (fun hc => ?_) (fun hc => ?_)
                  · replace h := h.1 hc
                    clear hc
                    refine lv_bipush (v := (nI 6)) hx hb dX5_hear_181 rfl ?_
                    refine lv_iload_n hx hb dX5_hear_183 rfl (lv_at hl 3 rfl) ?_
                    refine lv_iload_n hx hb dX5_hear_184 rfl (lv_at hl 2 rfl) ?_
                    refine lv_iload hx hb dX5_hear_185 (lv_at hl 4 rfl) ?_
                    refine am_callv (va_runV (C := RX5) (As := [.int (nI 6), .int x3, .int x2, .int x4]) (rest := []) ⟨hx, hb, hml, hown, hts⟩ (c_X5_send l dC dI ca ad hI M (nI 6) x3 x2 x4 _ h) ⟨callB_of 4 hts (am_gd mc_X5_send) rfl rfl rfl (hta _ mn_X5) (hta _ ml_X5_83) dc_X5_send ⟨Nat.le_of_ble_eq_true rfl, Nat.le_of_ble_eq_true rfl⟩, hta _ mi_X5_send, hta _ me_X5_send⟩ (am_preV (q := (RX5, TX5, 21)) hK hN hP rfl (by decide) (am_s_model ca)) rfl rfl hl.1 rfl (lv_room (Nat.le_of_ble_eq_true rfl)) dX5_hear_187 ⟨Nat.zero_le _, Nat.zero_le _⟩) hS (fun M15 H locs hP hS h => ?_)
                    exact am_vret hx hb hr hK hN hP hS h hlocks dX5_hear_190
                  · replace h := h.2 hc
                    clear hc
                    refine lv_iconst (v := (nI 5)) hx hb dX5_hear_177 rfl ?_
                    refine lv_goto (tgt := 183) hx hb dX5_hear_178 rfl ?_
                    refine lv_iload_n hx hb dX5_hear_183 rfl (lv_at hl 3 rfl) ?_
                    refine lv_iload_n hx hb dX5_hear_184 rfl (lv_at hl 2 rfl) ?_
                    refine lv_iload hx hb dX5_hear_185 (lv_at hl 4 rfl) ?_
                    refine am_callv (va_runV (C := RX5) (As := [.int (nI 5), .int x3, .int x2, .int x4]) (rest := []) ⟨hx, hb, hml, hown, hts⟩ (c_X5_send l dC dI ca ad hI M (nI 5) x3 x2 x4 _ h) ⟨callB_of 4 hts (am_gd mc_X5_send) rfl rfl rfl (hta _ mn_X5) (hta _ ml_X5_83) dc_X5_send ⟨Nat.le_of_ble_eq_true rfl, Nat.le_of_ble_eq_true rfl⟩, hta _ mi_X5_send, hta _ me_X5_send⟩ (am_preV (q := (RX5, TX5, 21)) hK hN hP rfl (by decide) (am_s_model ca)) rfl rfl hl.1 rfl (lv_room (Nat.le_of_ble_eq_true rfl)) dX5_hear_187 ⟨Nat.zero_le _, Nat.zero_le _⟩) hS (fun M16 H locs hP hS h => ?_)
                    exact am_vret hx hb hr hK hN hP hS h hlocks dX5_hear_190
                · replace h := h.2 hc
                  clear hc
                  refine lv_aload_n hx hb dX5_hear_155 rfl (lv_at hl 0 rfl) ?_
                  refine gf_X5_20 hx hb hta hown hK hP (am_wo (i := 43) (by decide) (am_s_model ca)) (am_fvr (j := 47) rfl) dX5_hear_156 ?_
                  refine lv_iload hx hb dX5_hear_159 (lv_at hl 4 rfl) ?_
                  refine am_iald hx hb hK hP (i := 47) (by decide) (am_s_m_stages ca) h dX5_hear_161 (fun k17 hk17 h => ?_)
                  refine lv_if_ne (tgt := 190) hx hb dX5_hear_162 rfl (fun hc => ?_) (fun hc => ?_)
                  · replace h := h.1 hc
                    clear hc
                    exact am_vret hx hb hr hK hN hP hS h hlocks dX5_hear_190
                  · replace h := h.2 hc
                    clear hc
                    refine lv_aload_n hx hb dX5_hear_165 rfl (lv_at hl 0 rfl) ?_
                    refine lv_aload_n hx hb dX5_hear_166 rfl (lv_at hl 0 rfl) ?_
                    refine gf_X5_20 hx hb hta hown hK hP (am_wo (i := 43) (by decide) (am_s_model ca)) (am_fvr (j := 47) rfl) dX5_hear_167 ?_
                    refine lv_iload hx hb dX5_hear_170 (lv_at hl 4 rfl) ?_
                    refine am_iald hx hb hK hP (i := 47) (by decide) (am_s_m_stages ca) h dX5_hear_172 (fun k18 hk18 h => ?_)
                    refine lv_iconst (v := (nI 3)) hx hb dX5_hear_173 rfl ?_
                    refine lv_icmp_ne (tgt := 181) hx hb dX5_hear_174 rfl (fun hc => ?_) (fun hc => ?_)
                    · replace h := h.1 hc
                      clear hc
                      refine lv_bipush (v := (nI 6)) hx hb dX5_hear_181 rfl ?_
                      refine lv_iload_n hx hb dX5_hear_183 rfl (lv_at hl 3 rfl) ?_
                      refine lv_iload_n hx hb dX5_hear_184 rfl (lv_at hl 2 rfl) ?_
                      refine lv_iload hx hb dX5_hear_185 (lv_at hl 4 rfl) ?_
                      refine am_callv (va_runV (C := RX5) (As := [.int (nI 6), .int x3, .int x2, .int x4]) (rest := []) ⟨hx, hb, hml, hown, hts⟩ (c_X5_send l dC dI ca ad hI M (nI 6) x3 x2 x4 _ h) ⟨callB_of 4 hts (am_gd mc_X5_send) rfl rfl rfl (hta _ mn_X5) (hta _ ml_X5_83) dc_X5_send ⟨Nat.le_of_ble_eq_true rfl, Nat.le_of_ble_eq_true rfl⟩, hta _ mi_X5_send, hta _ me_X5_send⟩ (am_preV (q := (RX5, TX5, 21)) hK hN hP rfl (by decide) (am_s_model ca)) rfl rfl hl.1 rfl (lv_room (Nat.le_of_ble_eq_true rfl)) dX5_hear_187 ⟨Nat.zero_le _, Nat.zero_le _⟩) hS (fun M19 H locs hP hS h => ?_)
                      exact am_vret hx hb hr hK hN hP hS h hlocks dX5_hear_190
                    · replace h := h.2 hc
                      clear hc
                      refine lv_iconst (v := (nI 5)) hx hb dX5_hear_177 rfl ?_
                      refine lv_goto (tgt := 183) hx hb dX5_hear_178 rfl ?_
                      refine lv_iload_n hx hb dX5_hear_183 rfl (lv_at hl 3 rfl) ?_
                      refine lv_iload_n hx hb dX5_hear_184 rfl (lv_at hl 2 rfl) ?_
                      refine lv_iload hx hb dX5_hear_185 (lv_at hl 4 rfl) ?_
                      refine am_callv (va_runV (C := RX5) (As := [.int (nI 5), .int x3, .int x2, .int x4]) (rest := []) ⟨hx, hb, hml, hown, hts⟩ (c_X5_send l dC dI ca ad hI M (nI 5) x3 x2 x4 _ h) ⟨callB_of 4 hts (am_gd mc_X5_send) rfl rfl rfl (hta _ mn_X5) (hta _ ml_X5_83) dc_X5_send ⟨Nat.le_of_ble_eq_true rfl, Nat.le_of_ble_eq_true rfl⟩, hta _ mi_X5_send, hta _ me_X5_send⟩ (am_preV (q := (RX5, TX5, 21)) hK hN hP rfl (by decide) (am_s_model ca)) rfl rfl hl.1 rfl (lv_room (Nat.le_of_ble_eq_true rfl)) dX5_hear_187 ⟨Nat.zero_le _, Nat.zero_le _⟩) hS (fun M20 H locs hP hS h => ?_)
                      exact am_vret hx hb hr hK hN hP hS h hlocks dX5_hear_190
abbrev rmX5_deliver : Room := { frames := 5, cells := 0, slots := 0, locals := 121 }
set_option maxHeartbeats 4000000 in
set_option maxRecDepth 100000 in
theorem c_X5_deliver (l : Launch) (dC : Nat → ClassId) (dI : Nat → Nat → Nat) (ca : Nat → ClassId) (ad : Nat → Nat) (hI : am_inj ad) (M : am_M) (x1 : Int32) (Q : Int32 → am_M → Prop) (h : w_X5_deliver M x1 Q) : Met l yX5_deliver wsX5_deliver rmX5_deliver (va_Pc [.ref (ad 43), .int x1] (am_B dC dI ca ad M)) (am_Qi dC dI ca ad Q) 0 0 (am_A ad 63) := by
  refine Met.ofW (cc := cX5_deliver) (maxL := 6) (ret := (some .int)) (by decide) rfl ?_
  intro p e s m args below meth c s₁ B hml hv
  obtain ⟨rfl, hP, hK, hN⟩ := hv
  have hx := B.exec
  have hb := B.bytes
  have hr := B.returns
  have hts := atoms_spec (ws := wsX5_deliver) B.pre
  have hta : ∀ w ∈ am_all, w.before _ s = true := fun w hw => hts w (List.mem_cons_of_mem _ hw)
  have hown : s.vm.findClass RX5 = some m.cls := findClass_of_methodNamed B.named
  have hlocks := B.notSynchronized
  have hl := lv_entry ([.ref (ad 43), .int x1]) (n := 6) (Nat.le_of_ble_eq_true rfl)
  rw [lg_entry_eq]
  generalize (lg_sl ([.ref (ad 43), .int x1]) ++ List.replicate (6 - (lg_sl ([.ref (ad 43), .int x1])).length) Slot.unset).toArray = ls at hl ⊢
  have hl : lv_has ls 6 [(0, .ref (ad 43)), (1, .int x1)] := hl
  replace h := w_X5_deliver_s h
  refine am_enter (A := am_A ad 63) hP (fun H locs hP hS => ?_)
  refine lv_iload_n hx hb dX5_deliver_0 rfl (lv_at hl 1 rfl) ?_
  refine lv_if_lt (tgt := 12) hx hb dX5_deliver_1 rfl (fun hc => ?_) (fun hc => ?_)
  · replace h := h.1 hc
    clear hc
    refine lv_bipush (v := (-2)) hx hb dX5_deliver_12 rfl ?_
    exact am_iret hx hb hr hK hN hP hS h hlocks dX5_deliver_14
  · replace h := h.2 hc
    clear hc
    refine lv_iload_n hx hb dX5_deliver_4 rfl (lv_at hl 1 rfl) ?_
    refine lv_aload_n hx hb dX5_deliver_5 rfl (lv_at hl 0 rfl) ?_
    refine gf_X5_72 hx hb hta hown hK hP (am_wo (i := 43) (by decide) (am_s_model ca)) (am_fvi rfl) dX5_deliver_6 ?_
    refine lv_icmp_lt (tgt := 15) hx hb dX5_deliver_9 rfl (fun hc => ?_) (fun hc => ?_)
    · replace h := h.1 hc
      clear hc
      refine lv_aload_n hx hb dX5_deliver_15 rfl (lv_at hl 0 rfl) ?_
      refine gf_X5_56 hx hb hta hown hK hP (am_wo (i := 43) (by decide) (am_s_model ca)) (am_fvr (j := 59) rfl) dX5_deliver_16 ?_
      refine lv_iload_n hx hb dX5_deliver_19 rfl (lv_at hl 1 rfl) ?_
      refine am_iald hx hb hK hP (i := 59) (by decide) (am_s_m_kinds ca) h dX5_deliver_20 (fun k1 hk1 h => ?_)
      refine am_topi h (fun y2 h => ?_)
      refine lv_istore_n hx hb dX5_deliver_21 rfl hl (by decide) rfl (fun ls hl => ?_)
      have hl : lv_has ls 6 [(2, .int y2), (0, .ref (ad 43)), (1, .int x1)] := hl
      refine lv_aload_n hx hb dX5_deliver_22 rfl (lv_at hl 1 rfl) ?_
      refine gf_X5_59 hx hb hta hown hK hP (am_wo (i := 43) (by decide) (am_s_model ca)) (am_fvr (j := 60) rfl) dX5_deliver_23 ?_
      refine lv_iload_n hx hb dX5_deliver_26 rfl (lv_at hl 2 rfl) ?_
      refine am_iald hx hb hK hP (i := 60) (by decide) (am_s_m_from ca) h dX5_deliver_27 (fun k3 hk3 h => ?_)
      refine am_topi h (fun y4 h => ?_)
      refine lv_istore_n hx hb dX5_deliver_28 rfl hl (by decide) rfl (fun ls hl => ?_)
      have hl : lv_has ls 6 [(3, .int y4), (2, .int y2), (0, .ref (ad 43)), (1, .int x1)] := hl
      refine lv_aload_n hx hb dX5_deliver_29 rfl (lv_at hl 2 rfl) ?_
      refine gf_X5_62 hx hb hta hown hK hP (am_wo (i := 43) (by decide) (am_s_model ca)) (am_fvr (j := 61) rfl) dX5_deliver_30 ?_
      refine lv_iload_n hx hb dX5_deliver_33 rfl (lv_at hl 3 rfl) ?_
      refine am_iald hx hb hK hP (i := 61) (by decide) (am_s_m_to ca) h dX5_deliver_34 (fun k5 hk5 h => ?_)
      refine am_topi h (fun y6 h => ?_)
      refine lv_istore hx hb dX5_deliver_35 hl (by decide) rfl (fun ls hl => ?_)
      have hl : lv_has ls 6 [(4, .int y6), (3, .int y4), (2, .int y2), (0, .ref (ad 43)), (1, .int x1)] := hl
      refine lv_aload_n hx hb dX5_deliver_37 rfl (lv_at hl 3 rfl) ?_
      refine gf_X5_65 hx hb hta hown hK hP (am_wo (i := 43) (by decide) (am_s_model ca)) (am_fvr (j := 62) rfl) dX5_deliver_38 ?_
      refine lv_iload_n hx hb dX5_deliver_41 rfl (lv_at hl 4 rfl) ?_
      refine am_iald hx hb hK hP (i := 62) (by decide) (am_s_m_about ca) h dX5_deliver_42 (fun k7 hk7 h => ?_)
      refine am_topi h (fun y8 h => ?_)
      refine lv_istore hx hb dX5_deliver_43 hl (by decide) rfl (fun ls hl => ?_)
      have hl : lv_has ls 6 [(5, .int y8), (4, .int y6), (3, .int y4), (2, .int y2), (0, .ref (ad 43)), (1, .int x1)] := hl
      refine lv_aload_n hx hb dX5_deliver_45 rfl (lv_at hl 4 rfl) ?_
      refine lv_iload_n hx hb dX5_deliver_46 rfl (lv_at hl 5 rfl) ?_
      refine am_callv (va_runV (C := RX5) (As := [.int x1]) (rest := []) ⟨hx, hb, hml, hown, hts⟩ (c_X5_take l dC dI ca ad hI M x1 _ h) ⟨callB_of 1 hts (am_gd mc_X5_take) rfl rfl rfl (hta _ mn_X5) (hta _ ml_X5_129) dc_X5_take ⟨Nat.le_of_ble_eq_true rfl, Nat.le_of_ble_eq_true rfl⟩, hta _ mi_X5_take, hta _ me_X5_take⟩ (am_preV (q := (RX5, TX5, 21)) hK hN hP rfl (by decide) (am_s_model ca)) rfl rfl hl.1 rfl (lv_room (Nat.le_of_ble_eq_true rfl)) dX5_deliver_47 ⟨Nat.zero_le _, Nat.zero_le _⟩) hS (fun M9 H locs hP hS h => ?_)
      refine lv_aload_n hx hb dX5_deliver_50 rfl (lv_at hl 4 rfl) ?_
      refine gf_X5_7 hx hb hta hown hK hP (am_wo (i := 43) (by decide) (am_s_model ca)) (am_fvr (j := 44) rfl) dX5_deliver_51 ?_
      refine lv_iload hx hb dX5_deliver_54 (lv_at hl 1 rfl) ?_
      refine am_zald hx hb hK hP (i := 44) (by decide) (am_s_m_down ca) h dX5_deliver_56 (fun k10 hk10 h => ?_)
      refine lv_if_ne (tgt := 70) hx hb dX5_deliver_57 rfl (fun hc => ?_) (fun hc => ?_)
      · replace h := h.1 hc
        clear hc
        refine lv_iload_n hx hb dX5_deliver_70 rfl (lv_at hl 3 rfl) ?_
        exact am_iret hx hb hr hK hN hP hS h hlocks dX5_deliver_71
      · replace h := h.2 hc
        clear hc
        refine lv_aload_n hx hb dX5_deliver_60 rfl (lv_at hl 4 rfl) ?_
        refine lv_iload_n hx hb dX5_deliver_61 rfl (lv_at hl 3 rfl) ?_
        refine lv_iload_n hx hb dX5_deliver_62 rfl (lv_at hl 2 rfl) ?_
        refine lv_iload hx hb dX5_deliver_63 (lv_at hl 1 rfl) ?_
        refine lv_iload hx hb dX5_deliver_65 (lv_at hl 0 rfl) ?_
        refine am_callv (va_runV (C := RX5) (As := [.int y2, .int y4, .int y6, .int y8]) (rest := []) ⟨hx, hb, hml, hown, hts⟩ (c_X5_hear l dC dI ca ad hI M9 y2 y4 y6 y8 _ h) ⟨callB_of 4 hts (am_gd mc_X5_hear) rfl rfl rfl (hta _ mn_X5) (hta _ ml_X5_132) dc_X5_hear ⟨Nat.le_of_ble_eq_true rfl, Nat.le_of_ble_eq_true rfl⟩, hta _ mi_X5_hear, hta _ me_X5_hear⟩ (am_preV (q := (RX5, TX5, 21)) hK hN hP rfl (by decide) (am_s_model ca)) rfl rfl hl.1 rfl (lv_room (Nat.le_of_ble_eq_true rfl)) dX5_deliver_67 ⟨Nat.zero_le _, Nat.zero_le _⟩) hS (fun M11 H locs hP hS h => ?_)
        refine lv_iload_n hx hb dX5_deliver_70 rfl (lv_at hl 3 rfl) ?_
        exact am_iret hx hb hr hK hN hP hS h hlocks dX5_deliver_71
    · replace h := h.2 hc
      clear hc
      refine lv_bipush (v := (-2)) hx hb dX5_deliver_12 rfl ?_
      exact am_iret hx hb hr hK hN hP hS h hlocks dX5_deliver_14
abbrev rmX5_lose : Room := { frames := 1, cells := 0, slots := 0, locals := 22 }
set_option maxHeartbeats 4000000 in
set_option maxRecDepth 100000 in
theorem c_X5_lose (l : Launch) (dC : Nat → ClassId) (dI : Nat → Nat → Nat) (ca : Nat → ClassId) (ad : Nat → Nat) (hI : am_inj ad) (M : am_M) (x1 : Int32) (Q : Int32 → am_M → Prop) (h : w_X5_lose M x1 Q) : Met l yX5_lose wsX5_lose rmX5_lose (va_Pc [.ref (ad 43), .int x1] (am_B dC dI ca ad M)) (am_Qi dC dI ca ad Q) 0 0 (am_A ad 63) := by
  refine Met.ofW (cc := cX5_lose) (maxL := 3) (ret := (some .int)) (by decide) rfl ?_
  intro p e s m args below meth c s₁ B hml hv
  obtain ⟨rfl, hP, hK, hN⟩ := hv
  have hx := B.exec
  have hb := B.bytes
  have hr := B.returns
  have hts := atoms_spec (ws := wsX5_lose) B.pre
  have hta : ∀ w ∈ am_all, w.before _ s = true := fun w hw => hts w (List.mem_cons_of_mem _ hw)
  have hown : s.vm.findClass RX5 = some m.cls := findClass_of_methodNamed B.named
  have hlocks := B.notSynchronized
  have hl := lv_entry ([.ref (ad 43), .int x1]) (n := 3) (Nat.le_of_ble_eq_true rfl)
  rw [lg_entry_eq]
  generalize (lg_sl ([.ref (ad 43), .int x1]) ++ List.replicate (3 - (lg_sl ([.ref (ad 43), .int x1])).length) Slot.unset).toArray = ls at hl ⊢
  have hl : lv_has ls 3 [(0, .ref (ad 43)), (1, .int x1)] := hl
  replace h := w_X5_lose_s h
  refine am_enter (A := am_A ad 63) hP (fun H locs hP hS => ?_)
  refine lv_iload_n hx hb dX5_lose_0 rfl (lv_at hl 1 rfl) ?_
  refine lv_if_lt (tgt := 12) hx hb dX5_lose_1 rfl (fun hc => ?_) (fun hc => ?_)
  · replace h := h.1 hc
    clear hc
    refine lv_bipush (v := (-2)) hx hb dX5_lose_12 rfl ?_
    exact am_iret hx hb hr hK hN hP hS h hlocks dX5_lose_14
  · replace h := h.2 hc
    clear hc
    refine lv_iload_n hx hb dX5_lose_4 rfl (lv_at hl 1 rfl) ?_
    refine lv_aload_n hx hb dX5_lose_5 rfl (lv_at hl 0 rfl) ?_
    refine gf_X5_72 hx hb hta hown hK hP (am_wo (i := 43) (by decide) (am_s_model ca)) (am_fvi rfl) dX5_lose_6 ?_
    refine lv_icmp_lt (tgt := 15) hx hb dX5_lose_9 rfl (fun hc => ?_) (fun hc => ?_)
    · replace h := h.1 hc
      clear hc
      refine lv_aload_n hx hb dX5_lose_15 rfl (lv_at hl 0 rfl) ?_
      refine gf_X5_56 hx hb hta hown hK hP (am_wo (i := 43) (by decide) (am_s_model ca)) (am_fvr (j := 59) rfl) dX5_lose_16 ?_
      refine lv_iload_n hx hb dX5_lose_19 rfl (lv_at hl 1 rfl) ?_
      refine am_iald hx hb hK hP (i := 59) (by decide) (am_s_m_kinds ca) h dX5_lose_20 (fun k1 hk1 h => ?_)
      refine am_topi h (fun y2 h => ?_)
      refine lv_istore_n hx hb dX5_lose_21 rfl hl (by decide) rfl (fun ls hl => ?_)
      have hl : lv_has ls 3 [(2, .int y2), (0, .ref (ad 43)), (1, .int x1)] := hl
      refine lv_aload_n hx hb dX5_lose_22 rfl (lv_at hl 1 rfl) ?_
      refine lv_iload_n hx hb dX5_lose_23 rfl (lv_at hl 2 rfl) ?_
      refine am_callv (va_runV (C := RX5) (As := [.int x1]) (rest := []) ⟨hx, hb, hml, hown, hts⟩ (c_X5_take l dC dI ca ad hI M x1 _ h) ⟨callB_of 1 hts (am_gd mc_X5_take) rfl rfl rfl (hta _ mn_X5) (hta _ ml_X5_129) dc_X5_take ⟨Nat.le_of_ble_eq_true rfl, Nat.le_of_ble_eq_true rfl⟩, hta _ mi_X5_take, hta _ me_X5_take⟩ (am_preV (q := (RX5, TX5, 21)) hK hN hP rfl (by decide) (am_s_model ca)) rfl rfl hl.1 rfl (lv_room (Nat.le_of_ble_eq_true rfl)) dX5_lose_24 ⟨Nat.zero_le _, Nat.zero_le _⟩) hS (fun M3 H locs hP hS h => ?_)
      refine lv_iload_n hx hb dX5_lose_27 rfl (lv_at hl 0 rfl) ?_
      exact am_iret hx hb hr hK hN hP hS h hlocks dX5_lose_28
    · replace h := h.2 hc
      clear hc
      refine lv_bipush (v := (-2)) hx hb dX5_lose_12 rfl ?_
      exact am_iret hx hb hr hK hN hP hS h hlocks dX5_lose_14
abbrev rmX5_expire : Room := { frames := 2, cells := 0, slots := 0, locals := 49 }
set_option maxHeartbeats 4000000 in
set_option maxRecDepth 100000 in
theorem c_X5_expire (l : Launch) (dC : Nat → ClassId) (dI : Nat → Nat → Nat) (ca : Nat → ClassId) (ad : Nat → Nat) (hI : am_inj ad) (M : am_M) (x1 : Int32) (x2 : Int32) (x3 : Int32) (Q : Int32 → am_M → Prop) (h : w_X5_expire M x1 x2 x3 Q) : Met l yX5_expire wsX5_expire rmX5_expire (va_Pc [.ref (ad 43), .int x1, .int x2, .int x3] (am_B dC dI ca ad M)) (am_Qi dC dI ca ad Q) 0 0 (am_A ad 63) := by
  refine Met.ofW (cc := cX5_expire) (maxL := 6) (ret := (some .int)) (by decide) rfl ?_
  intro p e s m args below meth c s₁ B hml hv
  obtain ⟨rfl, hP, hK, hN⟩ := hv
  have hx := B.exec
  have hb := B.bytes
  have hr := B.returns
  have hts := atoms_spec (ws := wsX5_expire) B.pre
  have hta : ∀ w ∈ am_all, w.before _ s = true := fun w hw => hts w (List.mem_cons_of_mem _ hw)
  have hown : s.vm.findClass RX5 = some m.cls := findClass_of_methodNamed B.named
  have hlocks := B.notSynchronized
  have hl := lv_entry ([.ref (ad 43), .int x1, .int x2, .int x3]) (n := 6) (Nat.le_of_ble_eq_true rfl)
  rw [lg_entry_eq]
  generalize (lg_sl ([.ref (ad 43), .int x1, .int x2, .int x3]) ++ List.replicate (6 - (lg_sl ([.ref (ad 43), .int x1, .int x2, .int x3])).length) Slot.unset).toArray = ls at hl ⊢
  have hl : lv_has ls 6 [(0, .ref (ad 43)), (1, .int x1), (2, .int x2), (3, .int x3)] := hl
  replace h := w_X5_expire_s h
  have J148 : ∀ (M19 : am_M) (y14 : Int32) (y15 : Int32) (y16 : Int32) (y17 : Int32) (y18 : Int32) (ls : Array Slot) (H : Heap) (locs : List Loc), w_X5_expire_J148 M19 y14 y15 y16 y17 y18 Q → va_P (dC, dI) vwCl (am_w ad (am_sh ca) 63 M19) H → va_S (am_A ad 63) s.heap H locs → lv_has ls 6 [(0, .ref (ad 43)), (1, .int y14), (2, .int y15), (3, .int y16), (4, .int y17), (5, .int y18)] → am_Wi p l e wsX5_expire rmX5_expire s m ([.ref (ad 43), .int x1, .int x2, .int x3] : List Value).toArray below meth c H locs dC dI ca ad Q (F0 m 148 ls []) := by
      intro M19 y14 y15 y16 y17 y18 ls H locs h hP hS hl
      replace h := w_X5_expire_J148_s h
      refine lv_iload hx hb dX5_expire_148 (lv_at hl 5 rfl) ?_
      refine lv_iconst (v := (nI 2)) hx hb dX5_expire_150 rfl ?_
      refine lv_icmp_ge (tgt := 159) hx hb dX5_expire_151 rfl (fun hc => ?_) (fun hc => ?_)
      · replace h := h.1 hc
        clear hc
        refine lv_iconst (v := (nI 1)) hx hb dX5_expire_159 rfl ?_
        exact am_iret hx hb hr hK hN hP hS h hlocks dX5_expire_160
      · replace h := h.2 hc
        clear hc
        refine lv_bipush (v := (-4)) hx hb dX5_expire_154 rfl ?_
        refine lv_goto (tgt := 160) hx hb dX5_expire_156 rfl ?_
        exact am_iret hx hb hr hK hN hP hS h hlocks dX5_expire_160
  have J101 : ∀ (M28 : am_M) (y24 : Int32) (y25 : Int32) (y26 : Int32) (y27 : Int32) (ls : Array Slot) (H : Heap) (locs : List Loc), w_X5_expire_J101 M28 y24 y25 y26 y27 Q → va_P (dC, dI) vwCl (am_w ad (am_sh ca) 63 M28) H → va_S (am_A ad 63) s.heap H locs → lv_has ls 6 [(0, .ref (ad 43)), (1, .int y24), (2, .int y25), (3, .int y26), (4, .int y27)] → am_Wi p l e wsX5_expire rmX5_expire s m ([.ref (ad 43), .int x1, .int x2, .int x3] : List Value).toArray below meth c H locs dC dI ca ad Q (F0 m 101 ls []) := by
      intro M28 y24 y25 y26 y27 ls H locs h hP hS hl
      replace h := w_X5_expire_J101_s h
      refine lv_iload hx hb dX5_expire_101 (lv_at hl 4 rfl) ?_
      refine lv_if_ne (tgt := 111) hx hb dX5_expire_103 rfl (fun hc => ?_) (fun hc => ?_)
      · replace h := h.1 hc
        clear hc
        refine lv_iconst (v := (nI 1)) hx hb dX5_expire_111 rfl ?_
        exact am_iret hx hb hr hK hN hP hS h hlocks dX5_expire_112
      · replace h := h.2 hc
        clear hc
        refine lv_bipush (v := (-4)) hx hb dX5_expire_106 rfl ?_
        refine lv_goto (tgt := 112) hx hb dX5_expire_108 rfl ?_
        exact am_iret hx hb hr hK hN hP hS h hlocks dX5_expire_112
  have J32 : ∀ (M8 : am_M) (y5 : Int32) (y6 : Int32) (y7 : Int32) (ls : Array Slot) (H : Heap) (locs : List Loc), w_X5_expire_J32 M8 y5 y6 y7 Q → va_P (dC, dI) vwCl (am_w ad (am_sh ca) 63 M8) H → va_S (am_A ad 63) s.heap H locs → lv_has ls 6 [(0, .ref (ad 43)), (1, .int y5), (2, .int y6), (3, .int y7)] → am_Wi p l e wsX5_expire rmX5_expire s m ([.ref (ad 43), .int x1, .int x2, .int x3] : List Value).toArray below meth c H locs dC dI ca ad Q (F0 m 32 ls []) := by
      intro M8 y5 y6 y7 ls H locs h hP hS hl
      replace h := w_X5_expire_J32_s h
      refine lv_aload_n hx hb dX5_expire_32 rfl (lv_at hl 0 rfl) ?_
      refine gf_X5_7 hx hb hta hown hK hP (am_wo (i := 43) (by decide) (am_s_model ca)) (am_fvr (j := 44) rfl) dX5_expire_33 ?_
      refine lv_iload_n hx hb dX5_expire_36 rfl (lv_at hl 1 rfl) ?_
      refine am_zald hx hb hK hP (i := 44) (by decide) (am_s_m_down ca) h dX5_expire_37 (fun k9 hk9 h => ?_)
      refine lv_if_eq (tgt := 44) hx hb dX5_expire_38 rfl (fun hc => ?_) (fun hc => ?_)
      · replace h := h.1 hc
        clear hc
        refine lv_aload_n hx hb dX5_expire_44 rfl (lv_at hl 0 rfl) ?_
        refine gf_X5_35 hx hb hta hown hK hP (am_wo (i := 43) (by decide) (am_s_model ca)) (am_fvr (j := 52) rfl) dX5_expire_45 ?_
        refine lv_iconst (v := (nI 4)) hx hb dX5_expire_48 rfl ?_
        refine lv_iload_n hx hb dX5_expire_49 rfl (lv_at hl 2 rfl) ?_
        refine lv_imul hx hb dX5_expire_50 ?_
        refine lv_iload_n hx hb dX5_expire_51 rfl (lv_at hl 1 rfl) ?_
        refine lv_iadd hx hb dX5_expire_52 ?_
        refine am_iald hx hb hK hP (i := 52) (by decide) (am_s_m_states ca) h dX5_expire_53 (fun k10 hk10 h => ?_)
        refine am_topi h (fun y11 h => ?_)
        refine lv_istore hx hb dX5_expire_54 hl (by decide) rfl (fun ls hl => ?_)
        have hl : lv_has ls 6 [(4, .int y11), (0, .ref (ad 43)), (1, .int y5), (2, .int y6), (3, .int y7)] := hl
        refine lv_iload_n hx hb dX5_expire_56 rfl (lv_at hl 4 rfl) ?_
        refine lv_if_eq (tgt := 113) hx hb dX5_expire_57 rfl (fun hc => ?_) (fun hc => ?_)
        · replace h := h.1 hc
          clear hc
          refine lv_aload_n hx hb dX5_expire_113 rfl (lv_at hl 1 rfl) ?_
          refine gf_X5_20 hx hb hta hown hK hP (am_wo (i := 43) (by decide) (am_s_model ca)) (am_fvr (j := 47) rfl) dX5_expire_114 ?_
          refine lv_iload_n hx hb dX5_expire_117 rfl (lv_at hl 3 rfl) ?_
          refine am_iald hx hb hK hP (i := 47) (by decide) (am_s_m_stages ca) h dX5_expire_118 (fun k12 hk12 h => ?_)
          refine am_topi h (fun y13 h => ?_)
          refine lv_istore hx hb dX5_expire_119 hl (by decide) rfl (fun ls hl => ?_)
          have hl : lv_has ls 6 [(5, .int y13), (4, .int y11), (0, .ref (ad 43)), (1, .int y5), (2, .int y6), (3, .int y7)] := hl
          refine lv_iload hx hb dX5_expire_121 (lv_at hl 0 rfl) ?_
          refine lv_iconst (v := (nI 2)) hx hb dX5_expire_123 rfl ?_
          refine lv_icmp_ne (tgt := 137) hx hb dX5_expire_124 rfl (fun hc => ?_) (fun hc => ?_)
          · replace h := h.1 hc
            clear hc
            refine lv_iload hx hb dX5_expire_137 (lv_at hl 0 rfl) ?_
            refine lv_iconst (v := (nI 3)) hx hb dX5_expire_139 rfl ?_
            refine lv_icmp_ne (tgt := 148) hx hb dX5_expire_140 rfl (fun hc => ?_) (fun hc => ?_)
            · replace h := h.1 hc
              clear hc
              exact J148 M8 y5 y6 y7 y11 y13 ls H locs h hP hS (lv_sub hl [2, 3, 4, 5, 1, 0] rfl)
            · replace h := h.2 hc
              clear hc
              refine lv_aload_n hx hb dX5_expire_143 rfl (lv_at hl 2 rfl) ?_
              refine lv_iload_n hx hb dX5_expire_144 rfl (lv_at hl 4 rfl) ?_
              refine am_callv (va_runV (C := RX5) (As := [.int y6]) (rest := []) ⟨hx, hb, hml, hown, hts⟩ (c_X5_sendDue l dC dI ca ad hI M8 y6 _ h) ⟨callB_of 1 hts (am_gd mc_X5_sendDue) rfl rfl rfl (hta _ mn_X5) (hta _ ml_X5_97) dc_X5_sendDue ⟨Nat.le_of_ble_eq_true rfl, Nat.le_of_ble_eq_true rfl⟩, hta _ mi_X5_sendDue, hta _ me_X5_sendDue⟩ (am_preV (q := (RX5, TX5, 21)) hK hN hP rfl (by decide) (am_s_model ca)) rfl rfl hl.1 rfl (lv_room (Nat.le_of_ble_eq_true rfl)) dX5_expire_145 ⟨Nat.zero_le _, Nat.zero_le _⟩) hS (fun M20 H locs hP hS h => ?_)
              exact J148 M20 y5 y6 y7 y11 y13 ls H locs h hP hS (lv_sub hl [2, 3, 4, 5, 1, 0] rfl)
          · replace h := h.2 hc
            clear hc
            refine lv_aload_n hx hb dX5_expire_127 rfl (lv_at hl 2 rfl) ?_
            refine lv_iload_n hx hb dX5_expire_128 rfl (lv_at hl 4 rfl) ?_
            refine lv_iconst (v := (-1)) hx hb dX5_expire_129 rfl ?_
            refine am_calli (va_runV (C := RX5) (As := [.int y6, .int (-1)]) (rest := []) ⟨hx, hb, hml, hown, hts⟩ (c_X5_pullBack l dC dI ca ad hI M8 y6 (-1) _ h) ⟨callB_of 2 hts (am_gd mc_X5_pullBack) rfl rfl rfl (hta _ mn_X5) (hta _ ml_X5_106) dc_X5_pullBack ⟨Nat.le_of_ble_eq_true rfl, Nat.le_of_ble_eq_true rfl⟩, hta _ mi_X5_pullBack, hta _ me_X5_pullBack⟩ (am_preV (q := (RX5, TX5, 21)) hK hN hP rfl (by decide) (am_s_model ca)) rfl rfl hl.1 rfl (lv_room (Nat.le_of_ble_eq_true rfl)) dX5_expire_130 ⟨Nat.zero_le _, Nat.zero_le _⟩) hS (fun y22 M21 H locs hP hS h => ?_)
            refine lv_pop hx hb dX5_expire_133 rfl ?_
            refine lv_goto (tgt := 148) hx hb dX5_expire_134 rfl ?_
            exact J148 M21 y5 y6 y7 y11 y13 ls H locs h hP hS (lv_sub hl [2, 3, 4, 5, 1, 0] rfl)
        · replace h := h.2 hc
          clear hc
          refine lv_iload hx hb dX5_expire_60 (lv_at hl 0 rfl) ?_
          refine lv_iconst (v := (nI 1)) hx hb dX5_expire_62 rfl ?_
          refine lv_icmp_eq (tgt := 72) hx hb dX5_expire_63 rfl (fun hc => ?_) (fun hc => ?_)
          · replace h := h.1 hc
            clear hc
            refine lv_aload_n hx hb dX5_expire_72 rfl (lv_at hl 1 rfl) ?_
            refine lv_iload_n hx hb dX5_expire_73 rfl (lv_at hl 2 rfl) ?_
            refine lv_iload_n hx hb dX5_expire_74 rfl (lv_at hl 3 rfl) ?_
            refine am_callv (va_runV (C := RX5) (As := [.int y5, .int y6]) (rest := []) ⟨hx, hb, hml, hown, hts⟩ (c_X5_giveUp l dC dI ca ad hI M8 y5 y6 _ h) ⟨callB_of 2 hts (am_gd mc_X5_giveUp) rfl rfl rfl (hta _ mn_X5) (hta _ ml_X5_100) dc_X5_giveUp ⟨Nat.le_of_ble_eq_true rfl, Nat.le_of_ble_eq_true rfl⟩, hta _ mi_X5_giveUp, hta _ me_X5_giveUp⟩ (am_preV (q := (RX5, TX5, 21)) hK hN hP rfl (by decide) (am_s_model ca)) rfl rfl hl.1 rfl (lv_room (Nat.le_of_ble_eq_true rfl)) dX5_expire_75 ⟨Nat.zero_le _, Nat.zero_le _⟩) hS (fun M23 H locs hP hS h => ?_)
            refine lv_goto (tgt := 101) hx hb dX5_expire_78 rfl ?_
            exact J101 M23 y5 y6 y7 y11 ls H locs h hP hS (lv_sub hl [1, 2, 3, 4, 0] rfl)
          · replace h := h.2 hc
            clear hc
            refine lv_iload hx hb dX5_expire_66 (lv_at hl 0 rfl) ?_
            refine lv_iconst (v := (nI 2)) hx hb dX5_expire_68 rfl ?_
            refine lv_icmp_ne (tgt := 81) hx hb dX5_expire_69 rfl (fun hc => ?_) (fun hc => ?_)
            · replace h := h.1 hc
              clear hc
              refine lv_iload hx hb dX5_expire_81 (lv_at hl 0 rfl) ?_
              refine lv_iconst (v := (nI 3)) hx hb dX5_expire_83 rfl ?_
              refine lv_icmp_ne (tgt := 101) hx hb dX5_expire_84 rfl (fun hc => ?_) (fun hc => ?_)
              · replace h := h.1 hc
                clear hc
                exact J101 M8 y5 y6 y7 y11 ls H locs h hP hS (lv_sub hl [1, 2, 3, 4, 0] rfl)
              · replace h := h.2 hc
                clear hc
                refine lv_aload_n hx hb dX5_expire_87 rfl (lv_at hl 1 rfl) ?_
                refine lv_bipush (v := (nI 8)) hx hb dX5_expire_88 rfl ?_
                refine lv_iload_n hx hb dX5_expire_90 rfl (lv_at hl 2 rfl) ?_
                refine lv_aload_n hx hb dX5_expire_91 rfl (lv_at hl 1 rfl) ?_
                refine gf_X5_17 hx hb hta hown hK hP (am_wo (i := 43) (by decide) (am_s_model ca)) (am_fvr (j := 46) rfl) dX5_expire_92 ?_
                refine lv_iload_n hx hb dX5_expire_95 rfl (lv_at hl 3 rfl) ?_
                refine am_iald hx hb hK hP (i := 46) (by decide) (am_s_m_chief ca) h dX5_expire_96 (fun k29 hk29 h => ?_)
                refine lv_iload_n hx hb dX5_expire_97 rfl (lv_at hl 3 rfl) ?_
                refine am_callv (va_runV (C := RX5) (As := [.int (nI 8), .int y5, .int (nI (M8.2 23 0 k29)), .int y6]) (rest := []) ⟨hx, hb, hml, hown, hts⟩ (c_X5_send l dC dI ca ad hI M8 (nI 8) y5 (nI (M8.2 23 0 k29)) y6 _ h) ⟨callB_of 4 hts (am_gd mc_X5_send) rfl rfl rfl (hta _ mn_X5) (hta _ ml_X5_83) dc_X5_send ⟨Nat.le_of_ble_eq_true rfl, Nat.le_of_ble_eq_true rfl⟩, hta _ mi_X5_send, hta _ me_X5_send⟩ (am_preV (q := (RX5, TX5, 21)) hK hN hP rfl (by decide) (am_s_model ca)) rfl rfl hl.1 rfl (lv_room (Nat.le_of_ble_eq_true rfl)) dX5_expire_98 ⟨Nat.zero_le _, Nat.zero_le _⟩) hS (fun M30 H locs hP hS h => ?_)
                exact J101 M30 y5 y6 y7 y11 ls H locs h hP hS (lv_sub hl [1, 2, 3, 4, 0] rfl)
            · replace h := h.2 hc
              clear hc
              refine lv_aload_n hx hb dX5_expire_72 rfl (lv_at hl 1 rfl) ?_
              refine lv_iload_n hx hb dX5_expire_73 rfl (lv_at hl 2 rfl) ?_
              refine lv_iload_n hx hb dX5_expire_74 rfl (lv_at hl 3 rfl) ?_
              refine am_callv (va_runV (C := RX5) (As := [.int y5, .int y6]) (rest := []) ⟨hx, hb, hml, hown, hts⟩ (c_X5_giveUp l dC dI ca ad hI M8 y5 y6 _ h) ⟨callB_of 2 hts (am_gd mc_X5_giveUp) rfl rfl rfl (hta _ mn_X5) (hta _ ml_X5_100) dc_X5_giveUp ⟨Nat.le_of_ble_eq_true rfl, Nat.le_of_ble_eq_true rfl⟩, hta _ mi_X5_giveUp, hta _ me_X5_giveUp⟩ (am_preV (q := (RX5, TX5, 21)) hK hN hP rfl (by decide) (am_s_model ca)) rfl rfl hl.1 rfl (lv_room (Nat.le_of_ble_eq_true rfl)) dX5_expire_75 ⟨Nat.zero_le _, Nat.zero_le _⟩) hS (fun M31 H locs hP hS h => ?_)
              refine lv_goto (tgt := 101) hx hb dX5_expire_78 rfl ?_
              exact J101 M31 y5 y6 y7 y11 ls H locs h hP hS (lv_sub hl [1, 2, 3, 4, 0] rfl)
      · replace h := h.2 hc
        clear hc
        refine lv_bipush (v := (-3)) hx hb dX5_expire_41 rfl ?_
        exact am_iret hx hb hr hK hN hP hS h hlocks dX5_expire_43
  refine am_enter (A := am_A ad 63) hP (fun H locs hP hS => ?_)
  refine lv_iload_n hx hb dX5_expire_0 rfl (lv_at hl 1 rfl) ?_
  refine am_calli (va_runS (As := [.int x1]) (rest := []) ⟨hx, hb, hml, hown, hts⟩ (c_X5_noNode l dC dI ca ad hI M x1 _ h) ⟨callB_of 1 hts (am_gd mc_X5_noNode) rfl rfl rfl (hta _ mn_X5) (hta _ ml_X5_122) dc_X5_noNode ⟨Nat.le_of_ble_eq_true rfl, Nat.le_of_ble_eq_true rfl⟩, hta _ ms_X5_noNode⟩ (am_preS hK hN hP) rfl rfl hl.1 rfl (lv_room (Nat.le_of_ble_eq_true rfl)) dX5_expire_1 ⟨Nat.zero_le _, Nat.zero_le _⟩) hS (fun y2 M1 H locs hP hS h => ?_)
  refine lv_if_ne (tgt := 29) hx hb dX5_expire_4 rfl (fun hc => ?_) (fun hc => ?_)
  · replace h := h.1 hc
    clear hc
    refine lv_bipush (v := (-2)) hx hb dX5_expire_29 rfl ?_
    exact am_iret hx hb hr hK hN hP hS h hlocks dX5_expire_31
  · replace h := h.2 hc
    clear hc
    refine lv_aload_n hx hb dX5_expire_7 rfl (lv_at hl 0 rfl) ?_
    refine lv_iload_n hx hb dX5_expire_8 rfl (lv_at hl 2 rfl) ?_
    refine am_calli (va_runV (C := RX5) (As := [.int x2]) (rest := []) ⟨hx, hb, hml, hown, hts⟩ (c_X5_noWork l dC dI ca ad hI M1 x2 _ h) ⟨callB_of 1 hts (am_gd mc_X5_noWork) rfl rfl rfl (hta _ mn_X5) (hta _ ml_X5_126) dc_X5_noWork ⟨Nat.le_of_ble_eq_true rfl, Nat.le_of_ble_eq_true rfl⟩, hta _ mi_X5_noWork, hta _ me_X5_noWork⟩ (am_preV (q := (RX5, TX5, 21)) hK hN hP rfl (by decide) (am_s_model ca)) rfl rfl hl.1 rfl (lv_room (Nat.le_of_ble_eq_true rfl)) dX5_expire_9 ⟨Nat.zero_le _, Nat.zero_le _⟩) hS (fun y4 M3 H locs hP hS h => ?_)
    refine lv_if_ne (tgt := 29) hx hb dX5_expire_12 rfl (fun hc => ?_) (fun hc => ?_)
    · replace h := h.1 hc
      clear hc
      refine lv_bipush (v := (-2)) hx hb dX5_expire_29 rfl ?_
      exact am_iret hx hb hr hK hN hP hS h hlocks dX5_expire_31
    · replace h := h.2 hc
      clear hc
      refine lv_iload_n hx hb dX5_expire_15 rfl (lv_at hl 3 rfl) ?_
      refine lv_if_ne (tgt := 32) hx hb dX5_expire_16 rfl (fun hc => ?_) (fun hc => ?_)
      · replace h := h.1 hc
        clear hc
        exact J32 M3 x1 x2 x3 ls H locs h hP hS (lv_sub hl [0, 1, 2, 3] rfl)
      · replace h := h.2 hc
        clear hc
        refine lv_aload_n hx hb dX5_expire_19 rfl (lv_at hl 0 rfl) ?_
        refine gf_X5_17 hx hb hta hown hK hP (am_wo (i := 43) (by decide) (am_s_model ca)) (am_fvr (j := 46) rfl) dX5_expire_20 ?_
        refine lv_iload_n hx hb dX5_expire_23 rfl (lv_at hl 2 rfl) ?_
        refine am_iald hx hb hK hP (i := 46) (by decide) (am_s_m_chief ca) h dX5_expire_24 (fun k32 hk32 h => ?_)
        refine lv_iload_n hx hb dX5_expire_25 rfl (lv_at hl 1 rfl) ?_
        refine lv_icmp_eq (tgt := 32) hx hb dX5_expire_26 rfl (fun hc => ?_) (fun hc => ?_)
        · replace h := h.1 hc
          clear hc
          exact J32 M3 x1 x2 x3 ls H locs h hP hS (lv_sub hl [0, 1, 2, 3] rfl)
        · replace h := h.2 hc
          clear hc
          refine lv_bipush (v := (-2)) hx hb dX5_expire_29 rfl ?_
          exact am_iret hx hb hr hK hN hP hS h hlocks dX5_expire_31
abbrev rmX5_crash : Room := { frames := 1, cells := 0, slots := 0, locals := 23 }
set_option maxHeartbeats 4000000 in
set_option maxRecDepth 100000 in
theorem c_X5_crash (l : Launch) (dC : Nat → ClassId) (dI : Nat → Nat → Nat) (ca : Nat → ClassId) (ad : Nat → Nat) (hI : am_inj ad) (M : am_M) (x1 : Int32) (Q : Int32 → am_M → Prop) (h : w_X5_crash M x1 Q) : Met l yX5_crash wsX5_crash rmX5_crash (va_Pc [.ref (ad 43), .int x1] (am_B dC dI ca ad M)) (am_Qi dC dI ca ad Q) 0 0 (am_A ad 63) := by
  refine Met.ofW (cc := cX5_crash) (maxL := 3) (ret := (some .int)) (by decide) rfl ?_
  intro p e s m args below meth c s₁ B hml hv
  obtain ⟨rfl, hP, hK, hN⟩ := hv
  have hx := B.exec
  have hb := B.bytes
  have hr := B.returns
  have hts := atoms_spec (ws := wsX5_crash) B.pre
  have hta : ∀ w ∈ am_all, w.before _ s = true := fun w hw => hts w (List.mem_cons_of_mem _ hw)
  have hown : s.vm.findClass RX5 = some m.cls := findClass_of_methodNamed B.named
  have hlocks := B.notSynchronized
  have hl := lv_entry ([.ref (ad 43), .int x1]) (n := 3) (Nat.le_of_ble_eq_true rfl)
  rw [lg_entry_eq]
  generalize (lg_sl ([.ref (ad 43), .int x1]) ++ List.replicate (3 - (lg_sl ([.ref (ad 43), .int x1])).length) Slot.unset).toArray = ls at hl ⊢
  have hl : lv_has ls 3 [(0, .ref (ad 43)), (1, .int x1)] := hl
  replace h := w_X5_crash_s h
  refine am_enter (A := am_A ad 63) hP (fun H locs hP hS => ?_)
  refine lv_iload_n hx hb dX5_crash_0 rfl (lv_at hl 1 rfl) ?_
  refine am_calli (va_runS (As := [.int x1]) (rest := []) ⟨hx, hb, hml, hown, hts⟩ (c_X5_noNode l dC dI ca ad hI M x1 _ h) ⟨callB_of 1 hts (am_gd mc_X5_noNode) rfl rfl rfl (hta _ mn_X5) (hta _ ml_X5_122) dc_X5_noNode ⟨Nat.le_of_ble_eq_true rfl, Nat.le_of_ble_eq_true rfl⟩, hta _ ms_X5_noNode⟩ (am_preS hK hN hP) rfl rfl hl.1 rfl (lv_room (Nat.le_of_ble_eq_true rfl)) dX5_crash_1 ⟨Nat.zero_le _, Nat.zero_le _⟩) hS (fun y2 M1 H locs hP hS h => ?_)
  refine lv_if_eq (tgt := 10) hx hb dX5_crash_4 rfl (fun hc => ?_) (fun hc => ?_)
  · replace h := h.1 hc
    clear hc
    refine lv_aload_n hx hb dX5_crash_10 rfl (lv_at hl 0 rfl) ?_
    refine gf_X5_7 hx hb hta hown hK hP (am_wo (i := 43) (by decide) (am_s_model ca)) (am_fvr (j := 44) rfl) dX5_crash_11 ?_
    refine lv_iload_n hx hb dX5_crash_14 rfl (lv_at hl 1 rfl) ?_
    refine am_zald hx hb hK hP (i := 44) (by decide) (am_s_m_down ca) h dX5_crash_15 (fun k3 hk3 h => ?_)
    refine lv_if_eq (tgt := 22) hx hb dX5_crash_16 rfl (fun hc => ?_) (fun hc => ?_)
    · replace h := h.1 hc
      clear hc
      refine lv_aload_n hx hb dX5_crash_22 rfl (lv_at hl 0 rfl) ?_
      refine gf_X5_7 hx hb hta hown hK hP (am_wo (i := 43) (by decide) (am_s_model ca)) (am_fvr (j := 44) rfl) dX5_crash_23 ?_
      refine lv_iload_n hx hb dX5_crash_26 rfl (lv_at hl 1 rfl) ?_
      refine lv_iconst (v := (nI 1)) hx hb dX5_crash_27 rfl ?_
      refine am_zast hx hb hK hP hI hS (i := 44) (by decide) (am_s_m_down ca) h dX5_crash_28 (fun M4 H locs hP hS h => ?_)
      refine lv_iconst (v := (nI 0)) hx hb dX5_crash_29 rfl ?_
      refine am_topi h (fun y5 h => ?_)
      refine lv_istore_n hx hb dX5_crash_30 rfl hl (by decide) rfl (fun ls hl => ?_)
      have hl : lv_has ls 3 [(2, .int y5), (0, .ref (ad 43)), (1, .int x1)] := hl
      obtain ⟨f31, h⟩ := h
      have key31 : ∀ (K : am_M → Int32 → Prop), (∀ (M7 : am_M) (z6 : Int32) (ls : Array Slot) (H : Heap) (locs : List Loc), K M7 z6 → va_P (dC, dI) vwCl (am_w ad (am_sh ca) 63 M7) H → va_S (am_A ad 63) s.heap H locs → lv_has ls 3 [(2, .int z6), (0, .ref (ad 43)), (1, .int x1)] → am_Wi p l e wsX5_crash rmX5_crash s m ([.ref (ad 43), .int x1] : List Value).toArray below meth c H locs dC dI ca ad Q (F0 m 66 ls [])) → ∀ (f31 : Nat) (M7 : am_M) (z6 : Int32) (ls : Array Slot) (H : Heap) (locs : List Loc), w_X5_crash_L31 x1 Q K f31 M7 z6 → va_P (dC, dI) vwCl (am_w ad (am_sh ca) 63 M7) H → va_S (am_A ad 63) s.heap H locs → lv_has ls 3 [(2, .int z6), (0, .ref (ad 43)), (1, .int x1)] → am_Wi p l e wsX5_crash rmX5_crash s m ([.ref (ad 43), .int x1] : List Value).toArray below meth c H locs dC dI ca ad Q (F0 m 31 ls []) := by
        intro K hex31 f31
        induction f31 with
        | zero => intro _ _ _ _ _ h; exact False.elim h
        | succ f31 ih31 =>
          intro M7 z6 ls H locs h hP hS hl
          replace h := w_X5_crash_L31_s h
          refine lv_iload_n hx hb dX5_crash_31 rfl (lv_at hl 0 rfl) ?_
          refine lv_aload_n hx hb dX5_crash_32 rfl (lv_at hl 1 rfl) ?_
          refine gf_X5_68 hx hb hta hown hK hP (am_wo (i := 43) (by decide) (am_s_model ca)) (am_fvi rfl) dX5_crash_33 ?_
          refine lv_icmp_ge (tgt := 66) hx hb dX5_crash_36 rfl (fun hc => ?_) (fun hc => ?_)
          · replace h := h.1 hc
            clear hc
            exact hex31 M7 z6 ls H locs h hP hS (lv_sub hl [0, 1, 2] rfl)
          · replace h := h.2 hc
            clear hc
            refine lv_aload_n hx hb dX5_crash_39 rfl (lv_at hl 1 rfl) ?_
            refine lv_iload_n hx hb dX5_crash_40 rfl (lv_at hl 2 rfl) ?_
            refine lv_iload_n hx hb dX5_crash_41 rfl (lv_at hl 0 rfl) ?_
            refine am_callv (va_runV (C := RX5) (As := [.int x1, .int z6]) (rest := []) ⟨hx, hb, hml, hown, hts⟩ (c_X5_letGo l dC dI ca ad hI M7 x1 z6 _ h) ⟨callB_of 2 hts (am_gd mc_X5_letGo) rfl rfl rfl (hta _ mn_X5) (hta _ ml_X5_79) dc_X5_letGo ⟨Nat.le_of_ble_eq_true rfl, Nat.le_of_ble_eq_true rfl⟩, hta _ mi_X5_letGo, hta _ me_X5_letGo⟩ (am_preV (q := (RX5, TX5, 21)) hK hN hP rfl (by decide) (am_s_model ca)) rfl rfl hl.1 rfl (lv_room (Nat.le_of_ble_eq_true rfl)) dX5_crash_42 ⟨Nat.zero_le _, Nat.zero_le _⟩) hS (fun M8 H locs hP hS h => ?_)
            refine lv_aload_n hx hb dX5_crash_45 rfl (lv_at hl 1 rfl) ?_
            refine gf_X5_17 hx hb hta hown hK hP (am_wo (i := 43) (by decide) (am_s_model ca)) (am_fvr (j := 46) rfl) dX5_crash_46 ?_
            refine lv_iload_n hx hb dX5_crash_49 rfl (lv_at hl 0 rfl) ?_
            refine am_iald hx hb hK hP (i := 46) (by decide) (am_s_m_chief ca) h dX5_crash_50 (fun k9 hk9 h => ?_)
            refine lv_iload_n hx hb dX5_crash_51 rfl (lv_at hl 2 rfl) ?_
            refine lv_icmp_ne (tgt := 60) hx hb dX5_crash_52 rfl (fun hc => ?_) (fun hc => ?_)
            · replace h := h.1 hc
              clear hc
              refine am_iinc (k := 0) (d := nI 1) hx hb dX5_crash_60 hl rfl rfl (by decide) h (fun y10 ls h hl => ?_)
              have hl : lv_has ls 3 [(2, .int y10), (0, .ref (ad 43)), (1, .int x1)] := hl
              refine lv_goto (tgt := 31) hx hb dX5_crash_63 rfl ?_
              exact ih31 M8 y10 ls H locs h hP hS (lv_sub hl [0, 1, 2] rfl)
            · replace h := h.2 hc
              clear hc
              refine lv_aload_n hx hb dX5_crash_55 rfl (lv_at hl 1 rfl) ?_
              refine lv_iload_n hx hb dX5_crash_56 rfl (lv_at hl 0 rfl) ?_
              refine am_callv (va_runV (C := RX5) (As := [.int z6]) (rest := []) ⟨hx, hb, hml, hown, hts⟩ (c_X5_forget l dC dI ca ad hI M8 z6 _ h) ⟨callB_of 1 hts (am_gd mc_X5_forget) rfl rfl rfl (hta _ mn_X5) (hta _ ml_X5_86) dc_X5_forget ⟨Nat.le_of_ble_eq_true rfl, Nat.le_of_ble_eq_true rfl⟩, hta _ mi_X5_forget, hta _ me_X5_forget⟩ (am_preV (q := (RX5, TX5, 21)) hK hN hP rfl (by decide) (am_s_model ca)) rfl rfl hl.1 rfl (lv_room (Nat.le_of_ble_eq_true rfl)) dX5_crash_57 ⟨Nat.zero_le _, Nat.zero_le _⟩) hS (fun M11 H locs hP hS h => ?_)
              refine am_iinc (k := 0) (d := nI 1) hx hb dX5_crash_60 hl rfl rfl (by decide) h (fun y12 ls h hl => ?_)
              have hl : lv_has ls 3 [(2, .int y12), (0, .ref (ad 43)), (1, .int x1)] := hl
              refine lv_goto (tgt := 31) hx hb dX5_crash_63 rfl ?_
              exact ih31 M11 y12 ls H locs h hP hS (lv_sub hl [0, 1, 2] rfl)
      refine key31 _ ?_ f31 M4 y5 ls H locs h hP hS hl
      intro M13 z14 ls H locs h hP hS hl
      refine lv_iconst (v := (nI 0)) hx hb dX5_crash_66 rfl ?_
      refine am_topi h (fun y15 h => ?_)
      refine lv_istore_n hx hb dX5_crash_67 rfl hl (by decide) rfl (fun ls hl => ?_)
      have hl : lv_has ls 3 [(2, .int y15), (0, .ref (ad 43)), (1, .int x1)] := hl
      obtain ⟨f68, h⟩ := h
      have key68 : ∀ (K : am_M → Int32 → Prop), (∀ (M17 : am_M) (z16 : Int32) (ls : Array Slot) (H : Heap) (locs : List Loc), K M17 z16 → va_P (dC, dI) vwCl (am_w ad (am_sh ca) 63 M17) H → va_S (am_A ad 63) s.heap H locs → lv_has ls 3 [(2, .int z16), (0, .ref (ad 43)), (1, .int x1)] → am_Wi p l e wsX5_crash rmX5_crash s m ([.ref (ad 43), .int x1] : List Value).toArray below meth c H locs dC dI ca ad Q (F0 m 114 ls [])) → ∀ (f68 : Nat) (M17 : am_M) (z16 : Int32) (ls : Array Slot) (H : Heap) (locs : List Loc), w_X5_crash_L68 x1 Q K f68 M17 z16 → va_P (dC, dI) vwCl (am_w ad (am_sh ca) 63 M17) H → va_S (am_A ad 63) s.heap H locs → lv_has ls 3 [(2, .int z16), (0, .ref (ad 43)), (1, .int x1)] → am_Wi p l e wsX5_crash rmX5_crash s m ([.ref (ad 43), .int x1] : List Value).toArray below meth c H locs dC dI ca ad Q (F0 m 68 ls []) := by
        intro K hex68 f68
        induction f68 with
        | zero => intro _ _ _ _ _ h; exact False.elim h
        | succ f68 ih68 =>
          intro M17 z16 ls H locs h hP hS hl
          replace h := w_X5_crash_L68_s h
          refine lv_aload_n hx hb dX5_crash_68 rfl (lv_at hl 1 rfl) ?_
          refine gf_X5_41 hx hb hta hown hK hP (am_wo (i := 43) (by decide) (am_s_model ca)) (am_fvr (j := 54) rfl) dX5_crash_69 ?_
          refine lv_iload_n hx hb dX5_crash_72 rfl (lv_at hl 2 rfl) ?_
          refine am_iald hx hb hK hP (i := 54) (by decide) (am_s_m_length ca) h dX5_crash_73 (fun k18 hk18 h => ?_)
          refine lv_if_le (tgt := 114) hx hb dX5_crash_74 rfl (fun hc => ?_) (fun hc => ?_)
          · replace h := h.1 hc
            clear hc
            exact hex68 M17 z16 ls H locs h hP hS (lv_sub hl [0, 1, 2] rfl)
          · replace h := h.2 hc
            clear hc
            refine lv_aload_n hx hb dX5_crash_77 rfl (lv_at hl 1 rfl) ?_
            refine gf_X5_53 hx hb hta hown hK hP (am_wo (i := 43) (by decide) (am_s_model ca)) (am_fvr (j := 58) rfl) dX5_crash_78 ?_
            refine lv_bipush (v := (nI 64)) hx hb dX5_crash_81 rfl ?_
            refine lv_iload_n hx hb dX5_crash_83 rfl (lv_at hl 2 rfl) ?_
            refine lv_imul hx hb dX5_crash_84 ?_
            refine lv_aload_n hx hb dX5_crash_85 rfl (lv_at hl 1 rfl) ?_
            refine gf_X5_41 hx hb hta hown hK hP (am_wo (i := 43) (by decide) (am_s_model ca)) (am_fvr (j := 54) rfl) dX5_crash_86 ?_
            refine lv_iload_n hx hb dX5_crash_89 rfl (lv_at hl 2 rfl) ?_
            refine am_iald hx hb hK hP (i := 54) (by decide) (am_s_m_length ca) h dX5_crash_90 (fun k19 hk19 h => ?_)
            refine lv_iadd hx hb dX5_crash_91 ?_
            refine lv_iconst (v := (nI 1)) hx hb dX5_crash_92 rfl ?_
            refine lv_isub hx hb dX5_crash_93 ?_
            refine am_zald hx hb hK hP (i := 58) (by decide) (am_s_m_logSafe ca) h dX5_crash_94 (fun k20 hk20 h => ?_)
            refine lv_if_ne (tgt := 114) hx hb dX5_crash_95 rfl (fun hc => ?_) (fun hc => ?_)
            · replace h := h.1 hc
              clear hc
              exact hex68 M17 z16 ls H locs h hP hS (lv_sub hl [0, 1, 2] rfl)
            · replace h := h.2 hc
              clear hc
              refine lv_aload_n hx hb dX5_crash_98 rfl (lv_at hl 1 rfl) ?_
              refine gf_X5_41 hx hb hta hown hK hP (am_wo (i := 43) (by decide) (am_s_model ca)) (am_fvr (j := 54) rfl) dX5_crash_99 ?_
              refine lv_iload_n hx hb dX5_crash_102 rfl (lv_at hl 2 rfl) ?_
              refine lv_dup2_11 hx hb dX5_crash_103 rfl rfl ?_
              refine am_iald hx hb hK hP (i := 54) (by decide) (am_s_m_length ca) h dX5_crash_104 (fun k21 hk21 h => ?_)
              refine lv_iconst (v := (nI 1)) hx hb dX5_crash_105 rfl ?_
              refine lv_isub hx hb dX5_crash_106 ?_
              refine am_iast hx hb hK hP hI hS (i := 54) (by decide) (am_s_m_length ca) h dX5_crash_107 (fun M22 H locs hP hS h => ?_)
              refine am_iinc (k := 0) (d := nI 1) hx hb dX5_crash_108 hl rfl rfl (by decide) h (fun y23 ls h hl => ?_)
              have hl : lv_has ls 3 [(2, .int y23), (0, .ref (ad 43)), (1, .int x1)] := hl
              refine lv_goto (tgt := 68) hx hb dX5_crash_111 rfl ?_
              exact ih68 M22 y23 ls H locs h hP hS (lv_sub hl [0, 1, 2] rfl)
      refine key68 _ ?_ f68 M13 y15 ls H locs h hP hS hl
      intro M24 z25 ls H locs h hP hS hl
      refine lv_iload_n hx hb dX5_crash_114 rfl (lv_at hl 0 rfl) ?_
      exact am_iret hx hb hr hK hN hP hS h hlocks dX5_crash_115
    · replace h := h.2 hc
      clear hc
      refine lv_bipush (v := (-3)) hx hb dX5_crash_19 rfl ?_
      exact am_iret hx hb hr hK hN hP hS h hlocks dX5_crash_21
  · replace h := h.2 hc
    clear hc
    refine lv_bipush (v := (-2)) hx hb dX5_crash_7 rfl ?_
    exact am_iret hx hb hr hK hN hP hS h hlocks dX5_crash_9
abbrev rmX5_logged : Room := { frames := 0, cells := 0, slots := 0, locals := 0 }
set_option maxHeartbeats 4000000 in
set_option maxRecDepth 100000 in
theorem c_X5_logged (l : Launch) (dC : Nat → ClassId) (dI : Nat → Nat → Nat) (ca : Nat → ClassId) (ad : Nat → Nat) (hI : am_inj ad) (M : am_M) (x1 : Int32) (x2 : Int32) (x3 : Int32) (Q : Int32 → am_M → Prop) (h : w_X5_logged M x1 x2 x3 Q) : Met l yX5_logged wsX5_logged rmX5_logged (va_Pc [.ref (ad 43), .int x1, .int x2, .int x3] (am_B dC dI ca ad M)) (am_Qi dC dI ca ad Q) 0 0 (am_A ad 63) := by
  refine Met.ofW (cc := cX5_logged) (maxL := 5) (ret := (some .int)) (by decide) rfl ?_
  intro p e s m args below meth c s₁ B hml hv
  obtain ⟨rfl, hP, hK, hN⟩ := hv
  have hx := B.exec
  have hb := B.bytes
  have hr := B.returns
  have hts := atoms_spec (ws := wsX5_logged) B.pre
  have hta : ∀ w ∈ am_all, w.before _ s = true := fun w hw => hts w (List.mem_cons_of_mem _ hw)
  have hown : s.vm.findClass RX5 = some m.cls := findClass_of_methodNamed B.named
  have hlocks := B.notSynchronized
  have hl := lv_entry ([.ref (ad 43), .int x1, .int x2, .int x3]) (n := 5) (Nat.le_of_ble_eq_true rfl)
  rw [lg_entry_eq]
  generalize (lg_sl ([.ref (ad 43), .int x1, .int x2, .int x3]) ++ List.replicate (5 - (lg_sl ([.ref (ad 43), .int x1, .int x2, .int x3])).length) Slot.unset).toArray = ls at hl ⊢
  have hl : lv_has ls 5 [(0, .ref (ad 43)), (1, .int x1), (2, .int x2), (3, .int x3)] := hl
  replace h := w_X5_logged_s h
  refine am_enter (A := am_A ad 63) hP (fun H locs hP hS => ?_)
  refine lv_iconst (v := (nI 0)) hx hb dX5_logged_0 rfl ?_
  refine am_topi h (fun y1 h => ?_)
  refine lv_istore hx hb dX5_logged_1 hl (by decide) rfl (fun ls hl => ?_)
  have hl : lv_has ls 5 [(4, .int y1), (0, .ref (ad 43)), (1, .int x1), (2, .int x2), (3, .int x3)] := hl
  obtain ⟨f3, h⟩ := h
  have key3 : ∀ (K : am_M → Int32 → Prop), (∀ (M3 : am_M) (z2 : Int32) (ls : Array Slot) (H : Heap) (locs : List Loc), K M3 z2 → va_P (dC, dI) vwCl (am_w ad (am_sh ca) 63 M3) H → va_S (am_A ad 63) s.heap H locs → lv_has ls 5 [(4, .int z2), (0, .ref (ad 43)), (1, .int x1), (2, .int x2), (3, .int x3)] → am_Wi p l e wsX5_logged rmX5_logged s m ([.ref (ad 43), .int x1, .int x2, .int x3] : List Value).toArray below meth c H locs dC dI ca ad Q (F0 m 60 ls [])) → ∀ (f3 : Nat) (M3 : am_M) (z2 : Int32) (ls : Array Slot) (H : Heap) (locs : List Loc), w_X5_logged_L3 x1 x2 x3 Q K f3 M3 z2 → va_P (dC, dI) vwCl (am_w ad (am_sh ca) 63 M3) H → va_S (am_A ad 63) s.heap H locs → lv_has ls 5 [(4, .int z2), (0, .ref (ad 43)), (1, .int x1), (2, .int x2), (3, .int x3)] → am_Wi p l e wsX5_logged rmX5_logged s m ([.ref (ad 43), .int x1, .int x2, .int x3] : List Value).toArray below meth c H locs dC dI ca ad Q (F0 m 3 ls []) := by
    intro K hex3 f3
    induction f3 with
    | zero => intro _ _ _ _ _ h; exact False.elim h
    | succ f3 ih3 =>
      intro M3 z2 ls H locs h hP hS hl
      replace h := w_X5_logged_L3_s h
      refine lv_iload hx hb dX5_logged_3 (lv_at hl 0 rfl) ?_
      refine lv_aload_n hx hb dX5_logged_5 rfl (lv_at hl 1 rfl) ?_
      refine gf_X5_41 hx hb hta hown hK hP (am_wo (i := 43) (by decide) (am_s_model ca)) (am_fvr (j := 54) rfl) dX5_logged_6 ?_
      refine lv_iload_n hx hb dX5_logged_9 rfl (lv_at hl 2 rfl) ?_
      refine am_iald hx hb hK hP (i := 54) (by decide) (am_s_m_length ca) h dX5_logged_10 (fun k4 hk4 h => ?_)
      refine lv_icmp_ge (tgt := 60) hx hb dX5_logged_11 rfl (fun hc => ?_) (fun hc => ?_)
      · replace h := h.1 hc
        clear hc
        exact hex3 M3 z2 ls H locs h hP hS (lv_sub hl [0, 1, 2, 3, 4] rfl)
      · replace h := h.2 hc
        clear hc
        refine lv_aload_n hx hb dX5_logged_14 rfl (lv_at hl 1 rfl) ?_
        refine gf_X5_44 hx hb hta hown hK hP (am_wo (i := 43) (by decide) (am_s_model ca)) (am_fvr (j := 55) rfl) dX5_logged_15 ?_
        refine lv_bipush (v := (nI 64)) hx hb dX5_logged_18 rfl ?_
        refine lv_iload_n hx hb dX5_logged_20 rfl (lv_at hl 2 rfl) ?_
        refine lv_imul hx hb dX5_logged_21 ?_
        refine lv_iload hx hb dX5_logged_22 (lv_at hl 0 rfl) ?_
        refine lv_iadd hx hb dX5_logged_24 ?_
        refine am_iald hx hb hK hP (i := 55) (by decide) (am_s_m_logOf ca) h dX5_logged_25 (fun k5 hk5 h => ?_)
        refine lv_iload_n hx hb dX5_logged_26 rfl (lv_at hl 3 rfl) ?_
        refine lv_icmp_ne (tgt := 54) hx hb dX5_logged_27 rfl (fun hc => ?_) (fun hc => ?_)
        · replace h := h.1 hc
          clear hc
          refine am_iinc (k := 0) (d := nI 1) hx hb dX5_logged_54 hl rfl rfl (by decide) h (fun y6 ls h hl => ?_)
          have hl : lv_has ls 5 [(4, .int y6), (0, .ref (ad 43)), (1, .int x1), (2, .int x2), (3, .int x3)] := hl
          refine lv_goto (tgt := 3) hx hb dX5_logged_57 rfl ?_
          exact ih3 M3 y6 ls H locs h hP hS (lv_sub hl [0, 1, 2, 3, 4] rfl)
        · replace h := h.2 hc
          clear hc
          refine lv_aload_n hx hb dX5_logged_30 rfl (lv_at hl 1 rfl) ?_
          refine gf_X5_47 hx hb hta hown hK hP (am_wo (i := 43) (by decide) (am_s_model ca)) (am_fvr (j := 56) rfl) dX5_logged_31 ?_
          refine lv_bipush (v := (nI 64)) hx hb dX5_logged_34 rfl ?_
          refine lv_iload_n hx hb dX5_logged_36 rfl (lv_at hl 2 rfl) ?_
          refine lv_imul hx hb dX5_logged_37 ?_
          refine lv_iload hx hb dX5_logged_38 (lv_at hl 0 rfl) ?_
          refine lv_iadd hx hb dX5_logged_40 ?_
          refine am_iald hx hb hK hP (i := 56) (by decide) (am_s_m_logKind ca) h dX5_logged_41 (fun k7 hk7 h => ?_)
          refine lv_iload_n hx hb dX5_logged_42 rfl (lv_at hl 4 rfl) ?_
          refine lv_icmp_ne (tgt := 54) hx hb dX5_logged_43 rfl (fun hc => ?_) (fun hc => ?_)
          · replace h := h.1 hc
            clear hc
            refine am_iinc (k := 0) (d := nI 1) hx hb dX5_logged_54 hl rfl rfl (by decide) h (fun y8 ls h hl => ?_)
            have hl : lv_has ls 5 [(4, .int y8), (0, .ref (ad 43)), (1, .int x1), (2, .int x2), (3, .int x3)] := hl
            refine lv_goto (tgt := 3) hx hb dX5_logged_57 rfl ?_
            exact ih3 M3 y8 ls H locs h hP hS (lv_sub hl [0, 1, 2, 3, 4] rfl)
          · replace h := h.2 hc
            clear hc
            refine lv_bipush (v := (nI 64)) hx hb dX5_logged_46 rfl ?_
            refine lv_iload_n hx hb dX5_logged_48 rfl (lv_at hl 2 rfl) ?_
            refine lv_imul hx hb dX5_logged_49 ?_
            refine lv_iload hx hb dX5_logged_50 (lv_at hl 0 rfl) ?_
            refine lv_iadd hx hb dX5_logged_52 ?_
            exact am_iret hx hb hr hK hN hP hS h hlocks dX5_logged_53
  refine key3 _ ?_ f3 M y1 ls H locs h hP hS hl
  intro M9 z10 ls H locs h hP hS hl
  refine lv_iconst (v := (-1)) hx hb dX5_logged_60 rfl ?_
  exact am_iret hx hb hr hK hN hP hS h hlocks dX5_logged_61
abbrev rmX5_recoverMember : Room := { frames := 1, cells := 0, slots := 0, locals := 24 }
set_option maxHeartbeats 4000000 in
set_option maxRecDepth 100000 in
theorem c_X5_recoverMember (l : Launch) (dC : Nat → ClassId) (dI : Nat → Nat → Nat) (ca : Nat → ClassId) (ad : Nat → Nat) (hI : am_inj ad) (M : am_M) (x1 : Int32) (x2 : Int32) (Q : Int32 → am_M → Prop) (h : w_X5_recoverMember M x1 x2 Q) : Met l yX5_recoverMember wsX5_recoverMember rmX5_recoverMember (va_Pc [.ref (ad 43), .int x1, .int x2] (am_B dC dI ca ad M)) (am_Qi dC dI ca ad Q) 0 0 (am_A ad 63) := by
  refine Met.ofW (cc := cX5_recoverMember) (maxL := 5) (ret := (some .int)) (by decide) rfl ?_
  intro p e s m args below meth c s₁ B hml hv
  obtain ⟨rfl, hP, hK, hN⟩ := hv
  have hx := B.exec
  have hb := B.bytes
  have hr := B.returns
  have hts := atoms_spec (ws := wsX5_recoverMember) B.pre
  have hta : ∀ w ∈ am_all, w.before _ s = true := fun w hw => hts w (List.mem_cons_of_mem _ hw)
  have hown : s.vm.findClass RX5 = some m.cls := findClass_of_methodNamed B.named
  have hlocks := B.notSynchronized
  have hl := lv_entry ([.ref (ad 43), .int x1, .int x2]) (n := 5) (Nat.le_of_ble_eq_true rfl)
  rw [lg_entry_eq]
  generalize (lg_sl ([.ref (ad 43), .int x1, .int x2]) ++ List.replicate (5 - (lg_sl ([.ref (ad 43), .int x1, .int x2])).length) Slot.unset).toArray = ls at hl ⊢
  have hl : lv_has ls 5 [(0, .ref (ad 43)), (1, .int x1), (2, .int x2)] := hl
  replace h := w_X5_recoverMember_s h
  refine am_enter (A := am_A ad 63) hP (fun H locs hP hS => ?_)
  refine lv_aload_n hx hb dX5_recoverMember_0 rfl (lv_at hl 0 rfl) ?_
  refine lv_iload_n hx hb dX5_recoverMember_1 rfl (lv_at hl 1 rfl) ?_
  refine lv_iload_n hx hb dX5_recoverMember_2 rfl (lv_at hl 2 rfl) ?_
  refine lv_iconst (v := (nI 1)) hx hb dX5_recoverMember_3 rfl ?_
  refine am_calli (va_runV (C := RX5) (As := [.int x1, .int x2, .int (nI 1)]) (rest := []) ⟨hx, hb, hml, hown, hts⟩ (c_X5_logged l dC dI ca ad hI M x1 x2 (nI 1) _ h) ⟨callB_of 3 hts (am_gd mc_X5_logged) rfl rfl rfl (hta _ mn_X5) (hta _ ml_X5_135) dc_X5_logged ⟨Nat.le_of_ble_eq_true rfl, Nat.le_of_ble_eq_true rfl⟩, hta _ mi_X5_logged, hta _ me_X5_logged⟩ (am_preV (q := (RX5, TX5, 21)) hK hN hP rfl (by decide) (am_s_model ca)) rfl rfl hl.1 rfl (lv_room (Nat.le_of_ble_eq_true rfl)) dX5_recoverMember_4 ⟨Nat.zero_le _, Nat.zero_le _⟩) hS (fun y2 M1 H locs hP hS h => ?_)
  refine am_topi h (fun y3 h => ?_)
  refine lv_istore_n hx hb dX5_recoverMember_7 rfl hl (by decide) rfl (fun ls hl => ?_)
  have hl : lv_has ls 5 [(3, .int y3), (0, .ref (ad 43)), (1, .int x1), (2, .int x2)] := hl
  refine lv_iload_n hx hb dX5_recoverMember_8 rfl (lv_at hl 0 rfl) ?_
  refine lv_if_lt (tgt := 32) hx hb dX5_recoverMember_9 rfl (fun hc => ?_) (fun hc => ?_)
  · replace h := h.1 hc
    clear hc
    refine lv_iconst (v := (nI 0)) hx hb dX5_recoverMember_32 rfl ?_
    exact am_iret hx hb hr hK hN hP hS h hlocks dX5_recoverMember_33
  · replace h := h.2 hc
    clear hc
    refine lv_aload_n hx hb dX5_recoverMember_12 rfl (lv_at hl 1 rfl) ?_
    refine lv_iload_n hx hb dX5_recoverMember_13 rfl (lv_at hl 2 rfl) ?_
    refine lv_iload_n hx hb dX5_recoverMember_14 rfl (lv_at hl 3 rfl) ?_
    refine lv_iconst (v := (nI 2)) hx hb dX5_recoverMember_15 rfl ?_
    refine am_calli (va_runV (C := RX5) (As := [.int x1, .int x2, .int (nI 2)]) (rest := []) ⟨hx, hb, hml, hown, hts⟩ (c_X5_logged l dC dI ca ad hI M1 x1 x2 (nI 2) _ h) ⟨callB_of 3 hts (am_gd mc_X5_logged) rfl rfl rfl (hta _ mn_X5) (hta _ ml_X5_135) dc_X5_logged ⟨Nat.le_of_ble_eq_true rfl, Nat.le_of_ble_eq_true rfl⟩, hta _ mi_X5_logged, hta _ me_X5_logged⟩ (am_preV (q := (RX5, TX5, 21)) hK hN hP rfl (by decide) (am_s_model ca)) rfl rfl hl.1 rfl (lv_room (Nat.le_of_ble_eq_true rfl)) dX5_recoverMember_16 ⟨Nat.zero_le _, Nat.zero_le _⟩) hS (fun y5 M4 H locs hP hS h => ?_)
    refine lv_if_ge (tgt := 32) hx hb dX5_recoverMember_19 rfl (fun hc => ?_) (fun hc => ?_)
    · replace h := h.1 hc
      clear hc
      refine lv_iconst (v := (nI 0)) hx hb dX5_recoverMember_32 rfl ?_
      exact am_iret hx hb hr hK hN hP hS h hlocks dX5_recoverMember_33
    · replace h := h.2 hc
      clear hc
      refine lv_aload_n hx hb dX5_recoverMember_22 rfl (lv_at hl 1 rfl) ?_
      refine lv_iload_n hx hb dX5_recoverMember_23 rfl (lv_at hl 2 rfl) ?_
      refine lv_iload_n hx hb dX5_recoverMember_24 rfl (lv_at hl 3 rfl) ?_
      refine lv_iconst (v := (nI 3)) hx hb dX5_recoverMember_25 rfl ?_
      refine am_calli (va_runV (C := RX5) (As := [.int x1, .int x2, .int (nI 3)]) (rest := []) ⟨hx, hb, hml, hown, hts⟩ (c_X5_logged l dC dI ca ad hI M4 x1 x2 (nI 3) _ h) ⟨callB_of 3 hts (am_gd mc_X5_logged) rfl rfl rfl (hta _ mn_X5) (hta _ ml_X5_135) dc_X5_logged ⟨Nat.le_of_ble_eq_true rfl, Nat.le_of_ble_eq_true rfl⟩, hta _ mi_X5_logged, hta _ me_X5_logged⟩ (am_preV (q := (RX5, TX5, 21)) hK hN hP rfl (by decide) (am_s_model ca)) rfl rfl hl.1 rfl (lv_room (Nat.le_of_ble_eq_true rfl)) dX5_recoverMember_26 ⟨Nat.zero_le _, Nat.zero_le _⟩) hS (fun y7 M6 H locs hP hS h => ?_)
      refine lv_if_lt (tgt := 34) hx hb dX5_recoverMember_29 rfl (fun hc => ?_) (fun hc => ?_)
      · replace h := h.1 hc
        clear hc
        refine lv_aload_n hx hb dX5_recoverMember_34 rfl (lv_at hl 1 rfl) ?_
        refine gf_X5_35 hx hb hta hown hK hP (am_wo (i := 43) (by decide) (am_s_model ca)) (am_fvr (j := 52) rfl) dX5_recoverMember_35 ?_
        refine lv_iconst (v := (nI 4)) hx hb dX5_recoverMember_38 rfl ?_
        refine lv_iload_n hx hb dX5_recoverMember_39 rfl (lv_at hl 3 rfl) ?_
        refine lv_imul hx hb dX5_recoverMember_40 ?_
        refine lv_iload_n hx hb dX5_recoverMember_41 rfl (lv_at hl 2 rfl) ?_
        refine lv_iadd hx hb dX5_recoverMember_42 ?_
        refine lv_iconst (v := (nI 3)) hx hb dX5_recoverMember_43 rfl ?_
        refine am_iast hx hb hK hP hI hS (i := 52) (by decide) (am_s_m_states ca) h dX5_recoverMember_44 (fun M8 H locs hP hS h => ?_)
        refine lv_iconst (v := (nI 0)) hx hb dX5_recoverMember_45 rfl ?_
        refine am_topi h (fun y9 h => ?_)
        refine lv_istore hx hb dX5_recoverMember_46 hl (by decide) rfl (fun ls hl => ?_)
        have hl : lv_has ls 5 [(4, .int y9), (3, .int y3), (0, .ref (ad 43)), (1, .int x1), (2, .int x2)] := hl
        obtain ⟨f48, h⟩ := h
        have key48 : ∀ (K : am_M → Int32 → Prop), (∀ (M11 : am_M) (z10 : Int32) (ls : Array Slot) (H : Heap) (locs : List Loc), K M11 z10 → va_P (dC, dI) vwCl (am_w ad (am_sh ca) 63 M11) H → va_S (am_A ad 63) s.heap H locs → lv_has ls 5 [(4, .int z10), (3, .int y3), (0, .ref (ad 43)), (1, .int x1), (2, .int x2)] → am_Wi p l e wsX5_recoverMember rmX5_recoverMember s m ([.ref (ad 43), .int x1, .int x2] : List Value).toArray below meth c H locs dC dI ca ad Q (F0 m 106 ls [])) → ∀ (f48 : Nat) (M11 : am_M) (z10 : Int32) (ls : Array Slot) (H : Heap) (locs : List Loc), w_X5_recoverMember_L48 y3 x1 x2 Q K f48 M11 z10 → va_P (dC, dI) vwCl (am_w ad (am_sh ca) 63 M11) H → va_S (am_A ad 63) s.heap H locs → lv_has ls 5 [(4, .int z10), (3, .int y3), (0, .ref (ad 43)), (1, .int x1), (2, .int x2)] → am_Wi p l e wsX5_recoverMember rmX5_recoverMember s m ([.ref (ad 43), .int x1, .int x2] : List Value).toArray below meth c H locs dC dI ca ad Q (F0 m 48 ls []) := by
          intro K hex48 f48
          induction f48 with
          | zero => intro _ _ _ _ _ h; exact False.elim h
          | succ f48 ih48 =>
            intro M11 z10 ls H locs h hP hS hl
            replace h := w_X5_recoverMember_L48_s h
            refine lv_iload hx hb dX5_recoverMember_48 (lv_at hl 0 rfl) ?_
            refine lv_bipush (v := (nI 8)) hx hb dX5_recoverMember_50 rfl ?_
            refine lv_icmp_ge (tgt := 106) hx hb dX5_recoverMember_52 rfl (fun hc => ?_) (fun hc => ?_)
            · replace h := h.1 hc
              clear hc
              exact hex48 M11 z10 ls H locs h hP hS (lv_sub hl [0, 1, 2, 3, 4] rfl)
            · replace h := h.2 hc
              clear hc
              refine lv_aload_n hx hb dX5_recoverMember_55 rfl (lv_at hl 2 rfl) ?_
              refine gf_X5_38 hx hb hta hown hK hP (am_wo (i := 43) (by decide) (am_s_model ca)) (am_fvr (j := 53) rfl) dX5_recoverMember_56 ?_
              refine lv_bipush (v := (nI 8)) hx hb dX5_recoverMember_59 rfl ?_
              refine lv_iload_n hx hb dX5_recoverMember_61 rfl (lv_at hl 3 rfl) ?_
              refine lv_imul hx hb dX5_recoverMember_62 ?_
              refine lv_iload hx hb dX5_recoverMember_63 (lv_at hl 0 rfl) ?_
              refine lv_iadd hx hb dX5_recoverMember_65 ?_
              refine lv_aload_n hx hb dX5_recoverMember_66 rfl (lv_at hl 2 rfl) ?_
              refine gf_X5_50 hx hb hta hown hK hP (am_wo (i := 43) (by decide) (am_s_model ca)) (am_fvr (j := 57) rfl) dX5_recoverMember_67 ?_
              refine lv_iload_n hx hb dX5_recoverMember_70 rfl (lv_at hl 1 rfl) ?_
              refine am_iald hx hb hK hP (i := 57) (by decide) (am_s_m_logWhat ca) h dX5_recoverMember_71 (fun k12 hk12 h => ?_)
              refine lv_iload hx hb dX5_recoverMember_72 (lv_at hl 0 rfl) ?_
              refine lv_ishr hx hb dX5_recoverMember_74 ?_
              refine lv_iconst (v := (nI 1)) hx hb dX5_recoverMember_75 rfl ?_
              refine lv_iand hx hb dX5_recoverMember_76 ?_
              refine lv_iconst (v := (nI 1)) hx hb dX5_recoverMember_77 rfl ?_
              refine lv_icmp_ne (tgt := 87) hx hb dX5_recoverMember_78 rfl (fun hc => ?_) (fun hc => ?_)
              · replace h := h.1 hc
                clear hc
                refine lv_aload_n hx hb dX5_recoverMember_87 rfl (lv_at hl 2 rfl) ?_
                refine gf_X5_38 hx hb hta hown hK hP (am_wo (i := 43) (by decide) (am_s_model ca)) (am_fvr (j := 53) rfl) dX5_recoverMember_88 ?_
                refine lv_bipush (v := (nI 8)) hx hb dX5_recoverMember_91 rfl ?_
                refine lv_iload_n hx hb dX5_recoverMember_93 rfl (lv_at hl 3 rfl) ?_
                refine lv_imul hx hb dX5_recoverMember_94 ?_
                refine lv_iload hx hb dX5_recoverMember_95 (lv_at hl 0 rfl) ?_
                refine lv_iadd hx hb dX5_recoverMember_97 ?_
                refine am_iald hx hb hK hP (i := 53) (by decide) (am_s_m_held ca) h dX5_recoverMember_98 (fun k13 hk13 h => ?_)
                refine am_iast hx hb hK hP hI hS (i := 53) (by decide) (am_s_m_held ca) h dX5_recoverMember_99 (fun M14 H locs hP hS h => ?_)
                refine am_iinc (k := 0) (d := nI 1) hx hb dX5_recoverMember_100 hl rfl rfl (by decide) h (fun y15 ls h hl => ?_)
                have hl : lv_has ls 5 [(4, .int y15), (3, .int y3), (0, .ref (ad 43)), (1, .int x1), (2, .int x2)] := hl
                refine lv_goto (tgt := 48) hx hb dX5_recoverMember_103 rfl ?_
                exact ih48 M14 y15 ls H locs h hP hS (lv_sub hl [0, 1, 2, 3, 4] rfl)
              · replace h := h.2 hc
                clear hc
                refine lv_iload_n hx hb dX5_recoverMember_81 rfl (lv_at hl 4 rfl) ?_
                refine lv_iconst (v := (nI 1)) hx hb dX5_recoverMember_82 rfl ?_
                refine lv_iadd hx hb dX5_recoverMember_83 ?_
                refine lv_goto (tgt := 99) hx hb dX5_recoverMember_84 rfl ?_
                refine am_iast hx hb hK hP hI hS (i := 53) (by decide) (am_s_m_held ca) h dX5_recoverMember_99 (fun M16 H locs hP hS h => ?_)
                refine am_iinc (k := 0) (d := nI 1) hx hb dX5_recoverMember_100 hl rfl rfl (by decide) h (fun y17 ls h hl => ?_)
                have hl : lv_has ls 5 [(4, .int y17), (3, .int y3), (0, .ref (ad 43)), (1, .int x1), (2, .int x2)] := hl
                refine lv_goto (tgt := 48) hx hb dX5_recoverMember_103 rfl ?_
                exact ih48 M16 y17 ls H locs h hP hS (lv_sub hl [0, 1, 2, 3, 4] rfl)
        refine key48 _ ?_ f48 M8 y9 ls H locs h hP hS hl
        intro M18 z19 ls H locs h hP hS hl
        refine lv_iconst (v := (nI 1)) hx hb dX5_recoverMember_106 rfl ?_
        exact am_iret hx hb hr hK hN hP hS h hlocks dX5_recoverMember_107
      · replace h := h.2 hc
        clear hc
        refine lv_iconst (v := (nI 0)) hx hb dX5_recoverMember_32 rfl ?_
        exact am_iret hx hb hr hK hN hP hS h hlocks dX5_recoverMember_33
abbrev rmX5_recoverChief : Room := { frames := 2, cells := 0, slots := 0, locals := 46 }
set_option maxHeartbeats 4000000 in
set_option maxRecDepth 100000 in
theorem c_X5_recoverChief (l : Launch) (dC : Nat → ClassId) (dI : Nat → Nat → Nat) (ca : Nat → ClassId) (ad : Nat → Nat) (hI : am_inj ad) (M : am_M) (x1 : Int32) (x2 : Int32) (Q : Int32 → am_M → Prop) (h : w_X5_recoverChief M x1 x2 Q) : Met l yX5_recoverChief wsX5_recoverChief rmX5_recoverChief (va_Pc [.ref (ad 43), .int x1, .int x2] (am_B dC dI ca ad M)) (am_Qi dC dI ca ad Q) 0 0 (am_A ad 63) := by
  refine Met.ofW (cc := cX5_recoverChief) (maxL := 6) (ret := (some .int)) (by decide) rfl ?_
  intro p e s m args below meth c s₁ B hml hv
  obtain ⟨rfl, hP, hK, hN⟩ := hv
  have hx := B.exec
  have hb := B.bytes
  have hr := B.returns
  have hts := atoms_spec (ws := wsX5_recoverChief) B.pre
  have hta : ∀ w ∈ am_all, w.before _ s = true := fun w hw => hts w (List.mem_cons_of_mem _ hw)
  have hown : s.vm.findClass RX5 = some m.cls := findClass_of_methodNamed B.named
  have hlocks := B.notSynchronized
  have hl := lv_entry ([.ref (ad 43), .int x1, .int x2]) (n := 6) (Nat.le_of_ble_eq_true rfl)
  rw [lg_entry_eq]
  generalize (lg_sl ([.ref (ad 43), .int x1, .int x2]) ++ List.replicate (6 - (lg_sl ([.ref (ad 43), .int x1, .int x2])).length) Slot.unset).toArray = ls at hl ⊢
  have hl : lv_has ls 6 [(0, .ref (ad 43)), (1, .int x1), (2, .int x2)] := hl
  replace h := w_X5_recoverChief_s h
  refine am_enter (A := am_A ad 63) hP (fun H locs hP hS => ?_)
  refine lv_aload_n hx hb dX5_recoverChief_0 rfl (lv_at hl 0 rfl) ?_
  refine lv_iload_n hx hb dX5_recoverChief_1 rfl (lv_at hl 1 rfl) ?_
  refine lv_iload_n hx hb dX5_recoverChief_2 rfl (lv_at hl 2 rfl) ?_
  refine lv_iconst (v := (nI 4)) hx hb dX5_recoverChief_3 rfl ?_
  refine am_calli (va_runV (C := RX5) (As := [.int x1, .int x2, .int (nI 4)]) (rest := []) ⟨hx, hb, hml, hown, hts⟩ (c_X5_logged l dC dI ca ad hI M x1 x2 (nI 4) _ h) ⟨callB_of 3 hts (am_gd mc_X5_logged) rfl rfl rfl (hta _ mn_X5) (hta _ ml_X5_135) dc_X5_logged ⟨Nat.le_of_ble_eq_true rfl, Nat.le_of_ble_eq_true rfl⟩, hta _ mi_X5_logged, hta _ me_X5_logged⟩ (am_preV (q := (RX5, TX5, 21)) hK hN hP rfl (by decide) (am_s_model ca)) rfl rfl hl.1 rfl (lv_room (Nat.le_of_ble_eq_true rfl)) dX5_recoverChief_4 ⟨Nat.zero_le _, Nat.zero_le _⟩) hS (fun y2 M1 H locs hP hS h => ?_)
  refine am_topi h (fun y3 h => ?_)
  refine lv_istore_n hx hb dX5_recoverChief_7 rfl hl (by decide) rfl (fun ls hl => ?_)
  have hl : lv_has ls 6 [(3, .int y3), (0, .ref (ad 43)), (1, .int x1), (2, .int x2)] := hl
  refine lv_iload_n hx hb dX5_recoverChief_8 rfl (lv_at hl 0 rfl) ?_
  refine lv_if_lt (tgt := 23) hx hb dX5_recoverChief_9 rfl (fun hc => ?_) (fun hc => ?_)
  · replace h := h.1 hc
    clear hc
    refine lv_iconst (v := (nI 0)) hx hb dX5_recoverChief_23 rfl ?_
    exact am_iret hx hb hr hK hN hP hS h hlocks dX5_recoverChief_24
  · replace h := h.2 hc
    clear hc
    refine lv_aload_n hx hb dX5_recoverChief_12 rfl (lv_at hl 1 rfl) ?_
    refine lv_iload_n hx hb dX5_recoverChief_13 rfl (lv_at hl 2 rfl) ?_
    refine lv_iload_n hx hb dX5_recoverChief_14 rfl (lv_at hl 3 rfl) ?_
    refine lv_bipush (v := (nI 6)) hx hb dX5_recoverChief_15 rfl ?_
    refine am_calli (va_runV (C := RX5) (As := [.int x1, .int x2, .int (nI 6)]) (rest := []) ⟨hx, hb, hml, hown, hts⟩ (c_X5_logged l dC dI ca ad hI M1 x1 x2 (nI 6) _ h) ⟨callB_of 3 hts (am_gd mc_X5_logged) rfl rfl rfl (hta _ mn_X5) (hta _ ml_X5_135) dc_X5_logged ⟨Nat.le_of_ble_eq_true rfl, Nat.le_of_ble_eq_true rfl⟩, hta _ mi_X5_logged, hta _ me_X5_logged⟩ (am_preV (q := (RX5, TX5, 21)) hK hN hP rfl (by decide) (am_s_model ca)) rfl rfl hl.1 rfl (lv_room (Nat.le_of_ble_eq_true rfl)) dX5_recoverChief_17 ⟨Nat.zero_le _, Nat.zero_le _⟩) hS (fun y5 M4 H locs hP hS h => ?_)
    refine lv_if_lt (tgt := 25) hx hb dX5_recoverChief_20 rfl (fun hc => ?_) (fun hc => ?_)
    · replace h := h.1 hc
      clear hc
      refine lv_aload_n hx hb dX5_recoverChief_25 rfl (lv_at hl 1 rfl) ?_
      refine gf_X5_20 hx hb hta hown hK hP (am_wo (i := 43) (by decide) (am_s_model ca)) (am_fvr (j := 47) rfl) dX5_recoverChief_26 ?_
      refine lv_iload_n hx hb dX5_recoverChief_29 rfl (lv_at hl 3 rfl) ?_
      refine lv_iconst (v := (nI 3)) hx hb dX5_recoverChief_30 rfl ?_
      refine am_iast hx hb hK hP hI hS (i := 47) (by decide) (am_s_m_stages ca) h dX5_recoverChief_31 (fun M6 H locs hP hS h => ?_)
      refine lv_iconst (v := (nI 0)) hx hb dX5_recoverChief_32 rfl ?_
      refine am_topi h (fun y7 h => ?_)
      refine lv_istore hx hb dX5_recoverChief_33 hl (by decide) rfl (fun ls hl => ?_)
      have hl : lv_has ls 6 [(4, .int y7), (3, .int y3), (0, .ref (ad 43)), (1, .int x1), (2, .int x2)] := hl
      obtain ⟨f35, h⟩ := h
      have key35 : ∀ (K : am_M → Int32 → Prop), (∀ (M9 : am_M) (z8 : Int32) (ls : Array Slot) (H : Heap) (locs : List Loc), K M9 z8 → va_P (dC, dI) vwCl (am_w ad (am_sh ca) 63 M9) H → va_S (am_A ad 63) s.heap H locs → lv_has ls 6 [(4, .int z8), (3, .int y3), (0, .ref (ad 43)), (1, .int x1), (2, .int x2)] → am_Wi p l e wsX5_recoverChief rmX5_recoverChief s m ([.ref (ad 43), .int x1, .int x2] : List Value).toArray below meth c H locs dC dI ca ad Q (F0 m 108 ls [])) → ∀ (f35 : Nat) (M9 : am_M) (z8 : Int32) (ls : Array Slot) (H : Heap) (locs : List Loc), w_X5_recoverChief_L35 y3 x1 x2 Q K f35 M9 z8 → va_P (dC, dI) vwCl (am_w ad (am_sh ca) 63 M9) H → va_S (am_A ad 63) s.heap H locs → lv_has ls 6 [(4, .int z8), (3, .int y3), (0, .ref (ad 43)), (1, .int x1), (2, .int x2)] → am_Wi p l e wsX5_recoverChief rmX5_recoverChief s m ([.ref (ad 43), .int x1, .int x2] : List Value).toArray below meth c H locs dC dI ca ad Q (F0 m 35 ls []) := by
        intro K hex35 f35
        induction f35 with
        | zero => intro _ _ _ _ _ h; exact False.elim h
        | succ f35 ih35 =>
          intro M9 z8 ls H locs h hP hS hl
          replace h := w_X5_recoverChief_L35_s h
          refine lv_iload hx hb dX5_recoverChief_35 (lv_at hl 0 rfl) ?_
          refine lv_iconst (v := (nI 4)) hx hb dX5_recoverChief_37 rfl ?_
          refine lv_icmp_ge (tgt := 108) hx hb dX5_recoverChief_38 rfl (fun hc => ?_) (fun hc => ?_)
          · replace h := h.1 hc
            clear hc
            exact hex35 M9 z8 ls H locs h hP hS (lv_sub hl [0, 1, 2, 3, 4] rfl)
          · replace h := h.2 hc
            clear hc
            refine lv_aload_n hx hb dX5_recoverChief_41 rfl (lv_at hl 2 rfl) ?_
            refine gf_X5_50 hx hb hta hown hK hP (am_wo (i := 43) (by decide) (am_s_model ca)) (am_fvr (j := 57) rfl) dX5_recoverChief_42 ?_
            refine lv_iload_n hx hb dX5_recoverChief_45 rfl (lv_at hl 1 rfl) ?_
            refine am_iald hx hb hK hP (i := 57) (by decide) (am_s_m_logWhat ca) h dX5_recoverChief_46 (fun k10 hk10 h => ?_)
            refine lv_iload hx hb dX5_recoverChief_47 (lv_at hl 0 rfl) ?_
            refine lv_ishr hx hb dX5_recoverChief_49 ?_
            refine lv_iconst (v := (nI 1)) hx hb dX5_recoverChief_50 rfl ?_
            refine lv_iand hx hb dX5_recoverChief_51 ?_
            refine lv_iconst (v := (nI 1)) hx hb dX5_recoverChief_52 rfl ?_
            refine lv_icmp_ne (tgt := 60) hx hb dX5_recoverChief_53 rfl (fun hc => ?_) (fun hc => ?_)
            · replace h := h.1 hc
              clear hc
              refine lv_iconst (v := (nI 0)) hx hb dX5_recoverChief_60 rfl ?_
              refine am_topi h (fun y11 h => ?_)
              refine lv_istore hx hb dX5_recoverChief_61 hl (by decide) rfl (fun ls hl => ?_)
              have hl : lv_has ls 6 [(5, .int y11), (4, .int z8), (3, .int y3), (0, .ref (ad 43)), (1, .int x1), (2, .int x2)] := hl
              refine lv_aload_n hx hb dX5_recoverChief_63 rfl (lv_at hl 3 rfl) ?_
              refine gf_X5_23 hx hb hta hown hK hP (am_wo (i := 43) (by decide) (am_s_model ca)) (am_fvr (j := 48) rfl) dX5_recoverChief_64 ?_
              refine lv_iconst (v := (nI 4)) hx hb dX5_recoverChief_67 rfl ?_
              refine lv_iload_n hx hb dX5_recoverChief_68 rfl (lv_at hl 5 rfl) ?_
              refine lv_imul hx hb dX5_recoverChief_69 ?_
              refine lv_iload hx hb dX5_recoverChief_70 (lv_at hl 1 rfl) ?_
              refine lv_iadd hx hb dX5_recoverChief_72 ?_
              refine lv_iload hx hb dX5_recoverChief_73 (lv_at hl 0 rfl) ?_
              refine am_zast hx hb hK hP hI hS (i := 48) (by decide) (am_s_m_member ca) h dX5_recoverChief_75 (fun M12 H locs hP hS h => ?_)
              refine lv_aload_n hx hb dX5_recoverChief_76 rfl (lv_at hl 3 rfl) ?_
              refine gf_X5_26 hx hb hta hown hK hP (am_wo (i := 43) (by decide) (am_s_model ca)) (am_fvr (j := 49) rfl) dX5_recoverChief_77 ?_
              refine lv_iconst (v := (nI 4)) hx hb dX5_recoverChief_80 rfl ?_
              refine lv_iload_n hx hb dX5_recoverChief_81 rfl (lv_at hl 5 rfl) ?_
              refine lv_imul hx hb dX5_recoverChief_82 ?_
              refine lv_iload hx hb dX5_recoverChief_83 (lv_at hl 1 rfl) ?_
              refine lv_iadd hx hb dX5_recoverChief_85 ?_
              refine lv_iload hx hb dX5_recoverChief_86 (lv_at hl 0 rfl) ?_
              refine am_zast hx hb hK hP hI hS (i := 49) (by decide) (am_s_m_yes ca) h dX5_recoverChief_88 (fun M13 H locs hP hS h => ?_)
              refine lv_aload_n hx hb dX5_recoverChief_89 rfl (lv_at hl 3 rfl) ?_
              refine gf_X5_32 hx hb hta hown hK hP (am_wo (i := 43) (by decide) (am_s_model ca)) (am_fvr (j := 51) rfl) dX5_recoverChief_90 ?_
              refine lv_iconst (v := (nI 4)) hx hb dX5_recoverChief_93 rfl ?_
              refine lv_iload_n hx hb dX5_recoverChief_94 rfl (lv_at hl 5 rfl) ?_
              refine lv_imul hx hb dX5_recoverChief_95 ?_
              refine lv_iload hx hb dX5_recoverChief_96 (lv_at hl 1 rfl) ?_
              refine lv_iadd hx hb dX5_recoverChief_98 ?_
              refine lv_iload hx hb dX5_recoverChief_99 (lv_at hl 0 rfl) ?_
              refine am_zast hx hb hK hP hI hS (i := 51) (by decide) (am_s_m_due ca) h dX5_recoverChief_101 (fun M14 H locs hP hS h => ?_)
              refine am_iinc (k := 1) (d := nI 1) hx hb dX5_recoverChief_102 hl rfl rfl (by decide) h (fun y15 ls h hl => ?_)
              have hl : lv_has ls 6 [(4, .int y15), (5, .int y11), (3, .int y3), (0, .ref (ad 43)), (1, .int x1), (2, .int x2)] := hl
              refine lv_goto (tgt := 35) hx hb dX5_recoverChief_105 rfl ?_
              exact ih35 M14 y15 ls H locs h hP hS (lv_sub hl [0, 2, 3, 4, 5] rfl)
            · replace h := h.2 hc
              clear hc
              refine lv_iconst (v := (nI 1)) hx hb dX5_recoverChief_56 rfl ?_
              refine lv_goto (tgt := 61) hx hb dX5_recoverChief_57 rfl ?_
              refine am_topi h (fun y16 h => ?_)
              refine lv_istore hx hb dX5_recoverChief_61 hl (by decide) rfl (fun ls hl => ?_)
              have hl : lv_has ls 6 [(5, .int y16), (4, .int z8), (3, .int y3), (0, .ref (ad 43)), (1, .int x1), (2, .int x2)] := hl
              refine lv_aload_n hx hb dX5_recoverChief_63 rfl (lv_at hl 3 rfl) ?_
              refine gf_X5_23 hx hb hta hown hK hP (am_wo (i := 43) (by decide) (am_s_model ca)) (am_fvr (j := 48) rfl) dX5_recoverChief_64 ?_
              refine lv_iconst (v := (nI 4)) hx hb dX5_recoverChief_67 rfl ?_
              refine lv_iload_n hx hb dX5_recoverChief_68 rfl (lv_at hl 5 rfl) ?_
              refine lv_imul hx hb dX5_recoverChief_69 ?_
              refine lv_iload hx hb dX5_recoverChief_70 (lv_at hl 1 rfl) ?_
              refine lv_iadd hx hb dX5_recoverChief_72 ?_
              refine lv_iload hx hb dX5_recoverChief_73 (lv_at hl 0 rfl) ?_
              refine am_zast hx hb hK hP hI hS (i := 48) (by decide) (am_s_m_member ca) h dX5_recoverChief_75 (fun M17 H locs hP hS h => ?_)
              refine lv_aload_n hx hb dX5_recoverChief_76 rfl (lv_at hl 3 rfl) ?_
              refine gf_X5_26 hx hb hta hown hK hP (am_wo (i := 43) (by decide) (am_s_model ca)) (am_fvr (j := 49) rfl) dX5_recoverChief_77 ?_
              refine lv_iconst (v := (nI 4)) hx hb dX5_recoverChief_80 rfl ?_
              refine lv_iload_n hx hb dX5_recoverChief_81 rfl (lv_at hl 5 rfl) ?_
              refine lv_imul hx hb dX5_recoverChief_82 ?_
              refine lv_iload hx hb dX5_recoverChief_83 (lv_at hl 1 rfl) ?_
              refine lv_iadd hx hb dX5_recoverChief_85 ?_
              refine lv_iload hx hb dX5_recoverChief_86 (lv_at hl 0 rfl) ?_
              refine am_zast hx hb hK hP hI hS (i := 49) (by decide) (am_s_m_yes ca) h dX5_recoverChief_88 (fun M18 H locs hP hS h => ?_)
              refine lv_aload_n hx hb dX5_recoverChief_89 rfl (lv_at hl 3 rfl) ?_
              refine gf_X5_32 hx hb hta hown hK hP (am_wo (i := 43) (by decide) (am_s_model ca)) (am_fvr (j := 51) rfl) dX5_recoverChief_90 ?_
              refine lv_iconst (v := (nI 4)) hx hb dX5_recoverChief_93 rfl ?_
              refine lv_iload_n hx hb dX5_recoverChief_94 rfl (lv_at hl 5 rfl) ?_
              refine lv_imul hx hb dX5_recoverChief_95 ?_
              refine lv_iload hx hb dX5_recoverChief_96 (lv_at hl 1 rfl) ?_
              refine lv_iadd hx hb dX5_recoverChief_98 ?_
              refine lv_iload hx hb dX5_recoverChief_99 (lv_at hl 0 rfl) ?_
              refine am_zast hx hb hK hP hI hS (i := 51) (by decide) (am_s_m_due ca) h dX5_recoverChief_101 (fun M19 H locs hP hS h => ?_)
              refine am_iinc (k := 1) (d := nI 1) hx hb dX5_recoverChief_102 hl rfl rfl (by decide) h (fun y20 ls h hl => ?_)
              have hl : lv_has ls 6 [(4, .int y20), (5, .int y16), (3, .int y3), (0, .ref (ad 43)), (1, .int x1), (2, .int x2)] := hl
              refine lv_goto (tgt := 35) hx hb dX5_recoverChief_105 rfl ?_
              exact ih35 M19 y20 ls H locs h hP hS (lv_sub hl [0, 2, 3, 4, 5] rfl)
      refine key35 _ ?_ f35 M6 y7 ls H locs h hP hS hl
      intro M21 z22 ls H locs h hP hS hl
      refine lv_aload_n hx hb dX5_recoverChief_108 rfl (lv_at hl 2 rfl) ?_
      refine lv_iload_n hx hb dX5_recoverChief_109 rfl (lv_at hl 4 rfl) ?_
      refine am_callv (va_runV (C := RX5) (As := [.int x2]) (rest := []) ⟨hx, hb, hml, hown, hts⟩ (c_X5_sendDue l dC dI ca ad hI M21 x2 _ h) ⟨callB_of 1 hts (am_gd mc_X5_sendDue) rfl rfl rfl (hta _ mn_X5) (hta _ ml_X5_97) dc_X5_sendDue ⟨Nat.le_of_ble_eq_true rfl, Nat.le_of_ble_eq_true rfl⟩, hta _ mi_X5_sendDue, hta _ me_X5_sendDue⟩ (am_preV (q := (RX5, TX5, 21)) hK hN hP rfl (by decide) (am_s_model ca)) rfl rfl hl.1 rfl (lv_room (Nat.le_of_ble_eq_true rfl)) dX5_recoverChief_110 ⟨Nat.zero_le _, Nat.zero_le _⟩) hS (fun M23 H locs hP hS h => ?_)
      refine lv_iconst (v := (nI 1)) hx hb dX5_recoverChief_113 rfl ?_
      exact am_iret hx hb hr hK hN hP hS h hlocks dX5_recoverChief_114
    · replace h := h.2 hc
      clear hc
      refine lv_iconst (v := (nI 0)) hx hb dX5_recoverChief_23 rfl ?_
      exact am_iret hx hb hr hK hN hP hS h hlocks dX5_recoverChief_24
abbrev rmX5_recover : Room := { frames := 3, cells := 0, slots := 0, locals := 71 }
set_option maxHeartbeats 4000000 in
set_option maxRecDepth 100000 in
theorem c_X5_recover (l : Launch) (dC : Nat → ClassId) (dI : Nat → Nat → Nat) (ca : Nat → ClassId) (ad : Nat → Nat) (hI : am_inj ad) (M : am_M) (x1 : Int32) (Q : Int32 → am_M → Prop) (h : w_X5_recover M x1 Q) : Met l yX5_recover wsX5_recover rmX5_recover (va_Pc [.ref (ad 43), .int x1] (am_B dC dI ca ad M)) (am_Qi dC dI ca ad Q) 0 0 (am_A ad 63) := by
  refine Met.ofW (cc := cX5_recover) (maxL := 4) (ret := (some .int)) (by decide) rfl ?_
  intro p e s m args below meth c s₁ B hml hv
  obtain ⟨rfl, hP, hK, hN⟩ := hv
  have hx := B.exec
  have hb := B.bytes
  have hr := B.returns
  have hts := atoms_spec (ws := wsX5_recover) B.pre
  have hta : ∀ w ∈ am_all, w.before _ s = true := fun w hw => hts w (List.mem_cons_of_mem _ hw)
  have hown : s.vm.findClass RX5 = some m.cls := findClass_of_methodNamed B.named
  have hlocks := B.notSynchronized
  have hl := lv_entry ([.ref (ad 43), .int x1]) (n := 4) (Nat.le_of_ble_eq_true rfl)
  rw [lg_entry_eq]
  generalize (lg_sl ([.ref (ad 43), .int x1]) ++ List.replicate (4 - (lg_sl ([.ref (ad 43), .int x1])).length) Slot.unset).toArray = ls at hl ⊢
  have hl : lv_has ls 4 [(0, .ref (ad 43)), (1, .int x1)] := hl
  replace h := w_X5_recover_s h
  refine am_enter (A := am_A ad 63) hP (fun H locs hP hS => ?_)
  refine lv_iload_n hx hb dX5_recover_0 rfl (lv_at hl 1 rfl) ?_
  refine am_calli (va_runS (As := [.int x1]) (rest := []) ⟨hx, hb, hml, hown, hts⟩ (c_X5_noNode l dC dI ca ad hI M x1 _ h) ⟨callB_of 1 hts (am_gd mc_X5_noNode) rfl rfl rfl (hta _ mn_X5) (hta _ ml_X5_122) dc_X5_noNode ⟨Nat.le_of_ble_eq_true rfl, Nat.le_of_ble_eq_true rfl⟩, hta _ ms_X5_noNode⟩ (am_preS hK hN hP) rfl rfl hl.1 rfl (lv_room (Nat.le_of_ble_eq_true rfl)) dX5_recover_1 ⟨Nat.zero_le _, Nat.zero_le _⟩) hS (fun y2 M1 H locs hP hS h => ?_)
  refine lv_if_eq (tgt := 10) hx hb dX5_recover_4 rfl (fun hc => ?_) (fun hc => ?_)
  · replace h := h.1 hc
    clear hc
    refine lv_aload_n hx hb dX5_recover_10 rfl (lv_at hl 0 rfl) ?_
    refine gf_X5_7 hx hb hta hown hK hP (am_wo (i := 43) (by decide) (am_s_model ca)) (am_fvr (j := 44) rfl) dX5_recover_11 ?_
    refine lv_iload_n hx hb dX5_recover_14 rfl (lv_at hl 1 rfl) ?_
    refine am_zald hx hb hK hP (i := 44) (by decide) (am_s_m_down ca) h dX5_recover_15 (fun k3 hk3 h => ?_)
    refine lv_if_ne (tgt := 22) hx hb dX5_recover_16 rfl (fun hc => ?_) (fun hc => ?_)
    · replace h := h.1 hc
      clear hc
      refine lv_aload_n hx hb dX5_recover_22 rfl (lv_at hl 0 rfl) ?_
      refine gf_X5_7 hx hb hta hown hK hP (am_wo (i := 43) (by decide) (am_s_model ca)) (am_fvr (j := 44) rfl) dX5_recover_23 ?_
      refine lv_iload_n hx hb dX5_recover_26 rfl (lv_at hl 1 rfl) ?_
      refine lv_iconst (v := (nI 0)) hx hb dX5_recover_27 rfl ?_
      refine am_zast hx hb hK hP hI hS (i := 44) (by decide) (am_s_m_down ca) h dX5_recover_28 (fun M4 H locs hP hS h => ?_)
      refine lv_iconst (v := (nI 0)) hx hb dX5_recover_29 rfl ?_
      refine am_topi h (fun y5 h => ?_)
      refine lv_istore_n hx hb dX5_recover_30 rfl hl (by decide) rfl (fun ls hl => ?_)
      have hl : lv_has ls 4 [(2, .int y5), (0, .ref (ad 43)), (1, .int x1)] := hl
      refine lv_iconst (v := (nI 0)) hx hb dX5_recover_31 rfl ?_
      refine am_topi h (fun y6 h => ?_)
      refine lv_istore_n hx hb dX5_recover_32 rfl hl (by decide) rfl (fun ls hl => ?_)
      have hl : lv_has ls 4 [(3, .int y6), (2, .int y5), (0, .ref (ad 43)), (1, .int x1)] := hl
      obtain ⟨f33, h⟩ := h
      have key33 : ∀ (K : am_M → Int32 → Int32 → Prop), (∀ (M9 : am_M) (z7 : Int32) (z8 : Int32) (ls : Array Slot) (H : Heap) (locs : List Loc), K M9 z7 z8 → va_P (dC, dI) vwCl (am_w ad (am_sh ca) 63 M9) H → va_S (am_A ad 63) s.heap H locs → lv_has ls 4 [(3, .int z8), (2, .int z7), (0, .ref (ad 43)), (1, .int x1)] → am_Wi p l e wsX5_recover rmX5_recover s m ([.ref (ad 43), .int x1] : List Value).toArray below meth c H locs dC dI ca ad Q (F0 m 65 ls [])) → ∀ (f33 : Nat) (M9 : am_M) (z7 : Int32) (z8 : Int32) (ls : Array Slot) (H : Heap) (locs : List Loc), w_X5_recover_L33 x1 Q K f33 M9 z7 z8 → va_P (dC, dI) vwCl (am_w ad (am_sh ca) 63 M9) H → va_S (am_A ad 63) s.heap H locs → lv_has ls 4 [(3, .int z8), (2, .int z7), (0, .ref (ad 43)), (1, .int x1)] → am_Wi p l e wsX5_recover rmX5_recover s m ([.ref (ad 43), .int x1] : List Value).toArray below meth c H locs dC dI ca ad Q (F0 m 33 ls []) := by
        intro K hex33 f33
        induction f33 with
        | zero => intro _ _ _ _ _ _ h; exact False.elim h
        | succ f33 ih33 =>
          intro M9 z7 z8 ls H locs h hP hS hl
          replace h := w_X5_recover_L33_s h
          refine lv_iload_n hx hb dX5_recover_33 rfl (lv_at hl 0 rfl) ?_
          refine lv_aload_n hx hb dX5_recover_34 rfl (lv_at hl 2 rfl) ?_
          refine gf_X5_68 hx hb hta hown hK hP (am_wo (i := 43) (by decide) (am_s_model ca)) (am_fvi rfl) dX5_recover_35 ?_
          refine lv_icmp_ge (tgt := 65) hx hb dX5_recover_38 rfl (fun hc => ?_) (fun hc => ?_)
          · replace h := h.1 hc
            clear hc
            exact hex33 M9 z7 z8 ls H locs h hP hS (lv_sub hl [0, 1, 2, 3] rfl)
          · replace h := h.2 hc
            clear hc
            refine lv_iload_n hx hb dX5_recover_41 rfl (lv_at hl 1 rfl) ?_
            refine lv_aload_n hx hb dX5_recover_42 rfl (lv_at hl 2 rfl) ?_
            refine lv_iload_n hx hb dX5_recover_43 rfl (lv_at hl 3 rfl) ?_
            refine lv_iload_n hx hb dX5_recover_44 rfl (lv_at hl 0 rfl) ?_
            refine am_calli (va_runV (C := RX5) (As := [.int x1, .int z8]) (rest := [.int z7]) ⟨hx, hb, hml, hown, hts⟩ (c_X5_recoverMember l dC dI ca ad hI M9 x1 z8 _ h) ⟨callB_of 2 hts (am_gd mc_X5_recoverMember) rfl rfl rfl (hta _ mn_X5) (hta _ ml_X5_139) dc_X5_recoverMember ⟨Nat.le_of_ble_eq_true rfl, Nat.le_of_ble_eq_true rfl⟩, hta _ mi_X5_recoverMember, hta _ me_X5_recoverMember⟩ (am_preV (q := (RX5, TX5, 21)) hK hN hP rfl (by decide) (am_s_model ca)) rfl rfl hl.1 rfl (lv_room (Nat.le_of_ble_eq_true rfl)) dX5_recover_45 ⟨Nat.zero_le _, Nat.zero_le _⟩) hS (fun y11 M10 H locs hP hS h => ?_)
            refine lv_iadd hx hb dX5_recover_48 ?_
            refine am_topi h (fun y12 h => ?_)
            refine lv_istore_n hx hb dX5_recover_49 rfl hl (by decide) rfl (fun ls hl => ?_)
            have hl : lv_has ls 4 [(2, .int y12), (3, .int z8), (0, .ref (ad 43)), (1, .int x1)] := hl
            refine lv_iload_n hx hb dX5_recover_50 rfl (lv_at hl 0 rfl) ?_
            refine lv_aload_n hx hb dX5_recover_51 rfl (lv_at hl 2 rfl) ?_
            refine lv_iload_n hx hb dX5_recover_52 rfl (lv_at hl 3 rfl) ?_
            refine lv_iload_n hx hb dX5_recover_53 rfl (lv_at hl 1 rfl) ?_
            refine am_calli (va_runV (C := RX5) (As := [.int x1, .int z8]) (rest := [.int y12]) ⟨hx, hb, hml, hown, hts⟩ (c_X5_recoverChief l dC dI ca ad hI M10 x1 z8 _ h) ⟨callB_of 2 hts (am_gd mc_X5_recoverChief) rfl rfl rfl (hta _ mn_X5) (hta _ ml_X5_142) dc_X5_recoverChief ⟨Nat.le_of_ble_eq_true rfl, Nat.le_of_ble_eq_true rfl⟩, hta _ mi_X5_recoverChief, hta _ me_X5_recoverChief⟩ (am_preV (q := (RX5, TX5, 21)) hK hN hP rfl (by decide) (am_s_model ca)) rfl rfl hl.1 rfl (lv_room (Nat.le_of_ble_eq_true rfl)) dX5_recover_54 ⟨Nat.zero_le _, Nat.zero_le _⟩) hS (fun y14 M13 H locs hP hS h => ?_)
            refine lv_iadd hx hb dX5_recover_57 ?_
            refine am_topi h (fun y15 h => ?_)
            refine lv_istore_n hx hb dX5_recover_58 rfl hl (by decide) rfl (fun ls hl => ?_)
            have hl : lv_has ls 4 [(2, .int y15), (3, .int z8), (0, .ref (ad 43)), (1, .int x1)] := hl
            refine am_iinc (k := 1) (d := nI 1) hx hb dX5_recover_59 hl rfl rfl (by decide) h (fun y16 ls h hl => ?_)
            have hl : lv_has ls 4 [(3, .int y16), (2, .int y15), (0, .ref (ad 43)), (1, .int x1)] := hl
            refine lv_goto (tgt := 33) hx hb dX5_recover_62 rfl ?_
            exact ih33 M13 y15 y16 ls H locs h hP hS (lv_sub hl [0, 1, 2, 3] rfl)
      refine key33 _ ?_ f33 M4 y5 y6 ls H locs h hP hS hl
      intro M17 z18 z19 ls H locs h hP hS hl
      refine lv_iload_n hx hb dX5_recover_65 rfl (lv_at hl 1 rfl) ?_
      exact am_iret hx hb hr hK hN hP hS h hlocks dX5_recover_66
    · replace h := h.2 hc
      clear hc
      refine lv_bipush (v := (-4)) hx hb dX5_recover_19 rfl ?_
      exact am_iret hx hb hr hK hN hP hS h hlocks dX5_recover_21
  · replace h := h.2 hc
    clear hc
    refine lv_bipush (v := (-2)) hx hb dX5_recover_7 rfl ?_
    exact am_iret hx hb hr hK hN hP hS h hlocks dX5_recover_9
abbrev rmX5_up : Room := { frames := 1, cells := 0, slots := 0, locals := 20 }
set_option maxHeartbeats 4000000 in
set_option maxRecDepth 100000 in
theorem c_X5_up (l : Launch) (dC : Nat → ClassId) (dI : Nat → Nat → Nat) (ca : Nat → ClassId) (ad : Nat → Nat) (hI : am_inj ad) (M : am_M) (x1 : Int32) (Q : Int32 → am_M → Prop) (h : w_X5_up M x1 Q) : Met l yX5_up wsX5_up rmX5_up (va_Pc [.ref (ad 43), .int x1] (am_B dC dI ca ad M)) (am_Qi dC dI ca ad Q) 0 0 (am_A ad 63) := by
  refine Met.ofW (cc := cX5_up) (maxL := 2) (ret := (some .boolean)) (by decide) rfl ?_
  intro p e s m args below meth c s₁ B hml hv
  obtain ⟨rfl, hP, hK, hN⟩ := hv
  have hx := B.exec
  have hb := B.bytes
  have hr := B.returns
  have hts := atoms_spec (ws := wsX5_up) B.pre
  have hta : ∀ w ∈ am_all, w.before _ s = true := fun w hw => hts w (List.mem_cons_of_mem _ hw)
  have hown : s.vm.findClass RX5 = some m.cls := findClass_of_methodNamed B.named
  have hlocks := B.notSynchronized
  have hl := lv_entry ([.ref (ad 43), .int x1]) (n := 2) (Nat.le_of_ble_eq_true rfl)
  rw [lg_entry_eq]
  generalize (lg_sl ([.ref (ad 43), .int x1]) ++ List.replicate (2 - (lg_sl ([.ref (ad 43), .int x1])).length) Slot.unset).toArray = ls at hl ⊢
  have hl : lv_has ls 2 [(0, .ref (ad 43)), (1, .int x1)] := hl
  replace h := w_X5_up_s h
  refine am_enter (A := am_A ad 63) hP (fun H locs hP hS => ?_)
  refine lv_iload_n hx hb dX5_up_0 rfl (lv_at hl 1 rfl) ?_
  refine am_calli (va_runS (As := [.int x1]) (rest := []) ⟨hx, hb, hml, hown, hts⟩ (c_X5_noNode l dC dI ca ad hI M x1 _ h) ⟨callB_of 1 hts (am_gd mc_X5_noNode) rfl rfl rfl (hta _ mn_X5) (hta _ ml_X5_122) dc_X5_noNode ⟨Nat.le_of_ble_eq_true rfl, Nat.le_of_ble_eq_true rfl⟩, hta _ ms_X5_noNode⟩ (am_preS hK hN hP) rfl rfl hl.1 rfl (lv_room (Nat.le_of_ble_eq_true rfl)) dX5_up_1 ⟨Nat.zero_le _, Nat.zero_le _⟩) hS (fun y2 M1 H locs hP hS h => ?_)
  refine lv_if_ne (tgt := 20) hx hb dX5_up_4 rfl (fun hc => ?_) (fun hc => ?_)
  · replace h := h.1 hc
    clear hc
    refine lv_iconst (v := (nI 0)) hx hb dX5_up_20 rfl ?_
    exact am_zret hx hb hr (rfl) hK hN hP hS h hlocks dX5_up_21
  · replace h := h.2 hc
    clear hc
    refine lv_aload_n hx hb dX5_up_7 rfl (lv_at hl 0 rfl) ?_
    refine gf_X5_7 hx hb hta hown hK hP (am_wo (i := 43) (by decide) (am_s_model ca)) (am_fvr (j := 44) rfl) dX5_up_8 ?_
    refine lv_iload_n hx hb dX5_up_11 rfl (lv_at hl 1 rfl) ?_
    refine am_zald hx hb hK hP (i := 44) (by decide) (am_s_m_down ca) h dX5_up_12 (fun k3 hk3 h => ?_)
    refine lv_if_ne (tgt := 20) hx hb dX5_up_13 rfl (fun hc => ?_) (fun hc => ?_)
    · replace h := h.1 hc
      clear hc
      refine lv_iconst (v := (nI 0)) hx hb dX5_up_20 rfl ?_
      exact am_zret hx hb hr (rfl) hK hN hP hS h hlocks dX5_up_21
    · replace h := h.2 hc
      clear hc
      refine lv_iconst (v := (nI 1)) hx hb dX5_up_16 rfl ?_
      refine lv_goto (tgt := 21) hx hb dX5_up_17 rfl ?_
      exact am_zret hx hb hr (rfl) hK hN hP hS h hlocks dX5_up_21
abbrev rmX5_stage : Room := { frames := 1, cells := 0, slots := 0, locals := 21 }
set_option maxHeartbeats 4000000 in
set_option maxRecDepth 100000 in
theorem c_X5_stage (l : Launch) (dC : Nat → ClassId) (dI : Nat → Nat → Nat) (ca : Nat → ClassId) (ad : Nat → Nat) (hI : am_inj ad) (M : am_M) (x1 : Int32) (Q : Int32 → am_M → Prop) (h : w_X5_stage M x1 Q) : Met l yX5_stage wsX5_stage rmX5_stage (va_Pc [.ref (ad 43), .int x1] (am_B dC dI ca ad M)) (am_Qi dC dI ca ad Q) 0 0 (am_A ad 63) := by
  refine Met.ofW (cc := cX5_stage) (maxL := 2) (ret := (some .int)) (by decide) rfl ?_
  intro p e s m args below meth c s₁ B hml hv
  obtain ⟨rfl, hP, hK, hN⟩ := hv
  have hx := B.exec
  have hb := B.bytes
  have hr := B.returns
  have hts := atoms_spec (ws := wsX5_stage) B.pre
  have hta : ∀ w ∈ am_all, w.before _ s = true := fun w hw => hts w (List.mem_cons_of_mem _ hw)
  have hown : s.vm.findClass RX5 = some m.cls := findClass_of_methodNamed B.named
  have hlocks := B.notSynchronized
  have hl := lv_entry ([.ref (ad 43), .int x1]) (n := 2) (Nat.le_of_ble_eq_true rfl)
  rw [lg_entry_eq]
  generalize (lg_sl ([.ref (ad 43), .int x1]) ++ List.replicate (2 - (lg_sl ([.ref (ad 43), .int x1])).length) Slot.unset).toArray = ls at hl ⊢
  have hl : lv_has ls 2 [(0, .ref (ad 43)), (1, .int x1)] := hl
  replace h := w_X5_stage_s h
  refine am_enter (A := am_A ad 63) hP (fun H locs hP hS => ?_)
  refine lv_aload_n hx hb dX5_stage_0 rfl (lv_at hl 0 rfl) ?_
  refine lv_iload_n hx hb dX5_stage_1 rfl (lv_at hl 1 rfl) ?_
  refine am_calli (va_runV (C := RX5) (As := [.int x1]) (rest := []) ⟨hx, hb, hml, hown, hts⟩ (c_X5_noWork l dC dI ca ad hI M x1 _ h) ⟨callB_of 1 hts (am_gd mc_X5_noWork) rfl rfl rfl (hta _ mn_X5) (hta _ ml_X5_126) dc_X5_noWork ⟨Nat.le_of_ble_eq_true rfl, Nat.le_of_ble_eq_true rfl⟩, hta _ mi_X5_noWork, hta _ me_X5_noWork⟩ (am_preV (q := (RX5, TX5, 21)) hK hN hP rfl (by decide) (am_s_model ca)) rfl rfl hl.1 rfl (lv_room (Nat.le_of_ble_eq_true rfl)) dX5_stage_2 ⟨Nat.zero_le _, Nat.zero_le _⟩) hS (fun y2 M1 H locs hP hS h => ?_)
  refine lv_if_eq (tgt := 13) hx hb dX5_stage_5 rfl (fun hc => ?_) (fun hc => ?_)
  · replace h := h.1 hc
    clear hc
    refine lv_aload_n hx hb dX5_stage_13 rfl (lv_at hl 0 rfl) ?_
    refine gf_X5_20 hx hb hta hown hK hP (am_wo (i := 43) (by decide) (am_s_model ca)) (am_fvr (j := 47) rfl) dX5_stage_14 ?_
    refine lv_iload_n hx hb dX5_stage_17 rfl (lv_at hl 1 rfl) ?_
    refine am_iald hx hb hK hP (i := 47) (by decide) (am_s_m_stages ca) h dX5_stage_18 (fun k3 hk3 h => ?_)
    exact am_iret hx hb hr hK hN hP hS h hlocks dX5_stage_19
  · replace h := h.2 hc
    clear hc
    refine lv_bipush (v := (-2)) hx hb dX5_stage_8 rfl ?_
    refine lv_goto (tgt := 19) hx hb dX5_stage_10 rfl ?_
    exact am_iret hx hb hr hK hN hP hS h hlocks dX5_stage_19
abbrev rmX5_nodes : Room := { frames := 1, cells := 0, slots := 0, locals := 26 }
set_option maxHeartbeats 4000000 in
set_option maxRecDepth 100000 in
theorem c_X5_nodes (l : Launch) (dC : Nat → ClassId) (dI : Nat → Nat → Nat) (ca : Nat → ClassId) (ad : Nat → Nat) (hI : am_inj ad) (M : am_M) (x1 : Int32) (x2 : Int32) (Q : Int32 → am_M → Prop) (h : w_X5_nodes M x1 x2 Q) : Met l yX5_nodes wsX5_nodes rmX5_nodes (va_Pc [.ref (ad 43), .int x1, .int x2] (am_B dC dI ca ad M)) (am_Qi dC dI ca ad Q) 0 0 (am_A ad 63) := by
  refine Met.ofW (cc := cX5_nodes) (maxL := 3) (ret := (some .int)) (by decide) rfl ?_
  intro p e s m args below meth c s₁ B hml hv
  obtain ⟨rfl, hP, hK, hN⟩ := hv
  have hx := B.exec
  have hb := B.bytes
  have hr := B.returns
  have hts := atoms_spec (ws := wsX5_nodes) B.pre
  have hta : ∀ w ∈ am_all, w.before _ s = true := fun w hw => hts w (List.mem_cons_of_mem _ hw)
  have hown : s.vm.findClass RX5 = some m.cls := findClass_of_methodNamed B.named
  have hlocks := B.notSynchronized
  have hl := lv_entry ([.ref (ad 43), .int x1, .int x2]) (n := 3) (Nat.le_of_ble_eq_true rfl)
  rw [lg_entry_eq]
  generalize (lg_sl ([.ref (ad 43), .int x1, .int x2]) ++ List.replicate (3 - (lg_sl ([.ref (ad 43), .int x1, .int x2])).length) Slot.unset).toArray = ls at hl ⊢
  have hl : lv_has ls 3 [(0, .ref (ad 43)), (1, .int x1), (2, .int x2)] := hl
  replace h := w_X5_nodes_s h
  refine am_enter (A := am_A ad 63) hP (fun H locs hP hS => ?_)
  refine lv_aload_n hx hb dX5_nodes_0 rfl (lv_at hl 0 rfl) ?_
  refine lv_iload_n hx hb dX5_nodes_1 rfl (lv_at hl 1 rfl) ?_
  refine am_calli (va_runV (C := RX5) (As := [.int x1]) (rest := []) ⟨hx, hb, hml, hown, hts⟩ (c_X5_noWork l dC dI ca ad hI M x1 _ h) ⟨callB_of 1 hts (am_gd mc_X5_noWork) rfl rfl rfl (hta _ mn_X5) (hta _ ml_X5_126) dc_X5_noWork ⟨Nat.le_of_ble_eq_true rfl, Nat.le_of_ble_eq_true rfl⟩, hta _ mi_X5_noWork, hta _ me_X5_noWork⟩ (am_preV (q := (RX5, TX5, 21)) hK hN hP rfl (by decide) (am_s_model ca)) rfl rfl hl.1 rfl (lv_room (Nat.le_of_ble_eq_true rfl)) dX5_nodes_2 ⟨Nat.zero_le _, Nat.zero_le _⟩) hS (fun y2 M1 H locs hP hS h => ?_)
  refine lv_if_ne (tgt := 17) hx hb dX5_nodes_5 rfl (fun hc => ?_) (fun hc => ?_)
  · replace h := h.1 hc
    clear hc
    refine lv_bipush (v := (-2)) hx hb dX5_nodes_17 rfl ?_
    refine lv_goto (tgt := 28) hx hb dX5_nodes_19 rfl ?_
    exact am_iret hx hb hr hK hN hP hS h hlocks dX5_nodes_28
  · replace h := h.2 hc
    clear hc
    refine lv_iload_n hx hb dX5_nodes_8 rfl (lv_at hl 2 rfl) ?_
    refine lv_if_lt (tgt := 17) hx hb dX5_nodes_9 rfl (fun hc => ?_) (fun hc => ?_)
    · replace h := h.1 hc
      clear hc
      refine lv_bipush (v := (-2)) hx hb dX5_nodes_17 rfl ?_
      refine lv_goto (tgt := 28) hx hb dX5_nodes_19 rfl ?_
      exact am_iret hx hb hr hK hN hP hS h hlocks dX5_nodes_28
    · replace h := h.2 hc
      clear hc
      refine lv_iload_n hx hb dX5_nodes_12 rfl (lv_at hl 2 rfl) ?_
      refine lv_iconst (v := (nI 3)) hx hb dX5_nodes_13 rfl ?_
      refine lv_icmp_le (tgt := 22) hx hb dX5_nodes_14 rfl (fun hc => ?_) (fun hc => ?_)
      · replace h := h.1 hc
        clear hc
        refine lv_aload_n hx hb dX5_nodes_22 rfl (lv_at hl 0 rfl) ?_
        refine lv_iload_n hx hb dX5_nodes_23 rfl (lv_at hl 1 rfl) ?_
        refine lv_iload_n hx hb dX5_nodes_24 rfl (lv_at hl 2 rfl) ?_
        refine am_calli (va_runV (C := RX5) (As := [.int x1, .int x2]) (rest := []) ⟨hx, hb, hml, hown, hts⟩ (c_X5_bits l dC dI ca ad hI M1 x1 x2 _ h) ⟨callB_of 2 hts (am_gd mc_X5_bits) rfl rfl rfl (hta _ mn_X5) (hta _ ml_X5_90) dc_X5_bits ⟨Nat.le_of_ble_eq_true rfl, Nat.le_of_ble_eq_true rfl⟩, hta _ mi_X5_bits, hta _ me_X5_bits⟩ (am_preV (q := (RX5, TX5, 21)) hK hN hP rfl (by decide) (am_s_model ca)) rfl rfl hl.1 rfl (lv_room (Nat.le_of_ble_eq_true rfl)) dX5_nodes_25 ⟨Nat.zero_le _, Nat.zero_le _⟩) hS (fun y4 M3 H locs hP hS h => ?_)
        exact am_iret hx hb hr hK hN hP hS h hlocks dX5_nodes_28
      · replace h := h.2 hc
        clear hc
        refine lv_bipush (v := (-2)) hx hb dX5_nodes_17 rfl ?_
        refine lv_goto (tgt := 28) hx hb dX5_nodes_19 rfl ?_
        exact am_iret hx hb hr hK hN hP hS h hlocks dX5_nodes_28
abbrev rmX5_state : Room := { frames := 1, cells := 0, slots := 0, locals := 21 }
set_option maxHeartbeats 4000000 in
set_option maxRecDepth 100000 in
theorem c_X5_state (l : Launch) (dC : Nat → ClassId) (dI : Nat → Nat → Nat) (ca : Nat → ClassId) (ad : Nat → Nat) (hI : am_inj ad) (M : am_M) (x1 : Int32) (x2 : Int32) (Q : Int32 → am_M → Prop) (h : w_X5_state M x1 x2 Q) : Met l yX5_state wsX5_state rmX5_state (va_Pc [.ref (ad 43), .int x1, .int x2] (am_B dC dI ca ad M)) (am_Qi dC dI ca ad Q) 0 0 (am_A ad 63) := by
  refine Met.ofW (cc := cX5_state) (maxL := 3) (ret := (some .int)) (by decide) rfl ?_
  intro p e s m args below meth c s₁ B hml hv
  obtain ⟨rfl, hP, hK, hN⟩ := hv
  have hx := B.exec
  have hb := B.bytes
  have hr := B.returns
  have hts := atoms_spec (ws := wsX5_state) B.pre
  have hta : ∀ w ∈ am_all, w.before _ s = true := fun w hw => hts w (List.mem_cons_of_mem _ hw)
  have hown : s.vm.findClass RX5 = some m.cls := findClass_of_methodNamed B.named
  have hlocks := B.notSynchronized
  have hl := lv_entry ([.ref (ad 43), .int x1, .int x2]) (n := 3) (Nat.le_of_ble_eq_true rfl)
  rw [lg_entry_eq]
  generalize (lg_sl ([.ref (ad 43), .int x1, .int x2]) ++ List.replicate (3 - (lg_sl ([.ref (ad 43), .int x1, .int x2])).length) Slot.unset).toArray = ls at hl ⊢
  have hl : lv_has ls 3 [(0, .ref (ad 43)), (1, .int x1), (2, .int x2)] := hl
  replace h := w_X5_state_s h
  refine am_enter (A := am_A ad 63) hP (fun H locs hP hS => ?_)
  refine lv_iload_n hx hb dX5_state_0 rfl (lv_at hl 1 rfl) ?_
  refine am_calli (va_runS (As := [.int x1]) (rest := []) ⟨hx, hb, hml, hown, hts⟩ (c_X5_noNode l dC dI ca ad hI M x1 _ h) ⟨callB_of 1 hts (am_gd mc_X5_noNode) rfl rfl rfl (hta _ mn_X5) (hta _ ml_X5_122) dc_X5_noNode ⟨Nat.le_of_ble_eq_true rfl, Nat.le_of_ble_eq_true rfl⟩, hta _ ms_X5_noNode⟩ (am_preS hK hN hP) rfl rfl hl.1 rfl (lv_room (Nat.le_of_ble_eq_true rfl)) dX5_state_1 ⟨Nat.zero_le _, Nat.zero_le _⟩) hS (fun y2 M1 H locs hP hS h => ?_)
  refine lv_if_ne (tgt := 15) hx hb dX5_state_4 rfl (fun hc => ?_) (fun hc => ?_)
  · replace h := h.1 hc
    clear hc
    refine lv_bipush (v := (-2)) hx hb dX5_state_15 rfl ?_
    refine lv_goto (tgt := 30) hx hb dX5_state_17 rfl ?_
    exact am_iret hx hb hr hK hN hP hS h hlocks dX5_state_30
  · replace h := h.2 hc
    clear hc
    refine lv_aload_n hx hb dX5_state_7 rfl (lv_at hl 0 rfl) ?_
    refine lv_iload_n hx hb dX5_state_8 rfl (lv_at hl 2 rfl) ?_
    refine am_calli (va_runV (C := RX5) (As := [.int x2]) (rest := []) ⟨hx, hb, hml, hown, hts⟩ (c_X5_noWork l dC dI ca ad hI M1 x2 _ h) ⟨callB_of 1 hts (am_gd mc_X5_noWork) rfl rfl rfl (hta _ mn_X5) (hta _ ml_X5_126) dc_X5_noWork ⟨Nat.le_of_ble_eq_true rfl, Nat.le_of_ble_eq_true rfl⟩, hta _ mi_X5_noWork, hta _ me_X5_noWork⟩ (am_preV (q := (RX5, TX5, 21)) hK hN hP rfl (by decide) (am_s_model ca)) rfl rfl hl.1 rfl (lv_room (Nat.le_of_ble_eq_true rfl)) dX5_state_9 ⟨Nat.zero_le _, Nat.zero_le _⟩) hS (fun y4 M3 H locs hP hS h => ?_)
    refine lv_if_eq (tgt := 20) hx hb dX5_state_12 rfl (fun hc => ?_) (fun hc => ?_)
    · replace h := h.1 hc
      clear hc
      refine lv_aload_n hx hb dX5_state_20 rfl (lv_at hl 0 rfl) ?_
      refine gf_X5_35 hx hb hta hown hK hP (am_wo (i := 43) (by decide) (am_s_model ca)) (am_fvr (j := 52) rfl) dX5_state_21 ?_
      refine lv_iconst (v := (nI 4)) hx hb dX5_state_24 rfl ?_
      refine lv_iload_n hx hb dX5_state_25 rfl (lv_at hl 2 rfl) ?_
      refine lv_imul hx hb dX5_state_26 ?_
      refine lv_iload_n hx hb dX5_state_27 rfl (lv_at hl 1 rfl) ?_
      refine lv_iadd hx hb dX5_state_28 ?_
      refine am_iald hx hb hK hP (i := 52) (by decide) (am_s_m_states ca) h dX5_state_29 (fun k5 hk5 h => ?_)
      exact am_iret hx hb hr hK hN hP hS h hlocks dX5_state_30
    · replace h := h.2 hc
      clear hc
      refine lv_bipush (v := (-2)) hx hb dX5_state_15 rfl ?_
      refine lv_goto (tgt := 30) hx hb dX5_state_17 rfl ?_
      exact am_iret hx hb hr hK hN hP hS h hlocks dX5_state_30
abbrev rmX5_holder : Room := { frames := 1, cells := 0, slots := 0, locals := 20 }
set_option maxHeartbeats 4000000 in
set_option maxRecDepth 100000 in
theorem c_X5_holder (l : Launch) (dC : Nat → ClassId) (dI : Nat → Nat → Nat) (ca : Nat → ClassId) (ad : Nat → Nat) (hI : am_inj ad) (M : am_M) (x1 : Int32) (x2 : Int32) (Q : Int32 → am_M → Prop) (h : w_X5_holder M x1 x2 Q) : Met l yX5_holder wsX5_holder rmX5_holder (va_Pc [.ref (ad 43), .int x1, .int x2] (am_B dC dI ca ad M)) (am_Qi dC dI ca ad Q) 0 0 (am_A ad 63) := by
  refine Met.ofW (cc := cX5_holder) (maxL := 3) (ret := (some .int)) (by decide) rfl ?_
  intro p e s m args below meth c s₁ B hml hv
  obtain ⟨rfl, hP, hK, hN⟩ := hv
  have hx := B.exec
  have hb := B.bytes
  have hr := B.returns
  have hts := atoms_spec (ws := wsX5_holder) B.pre
  have hta : ∀ w ∈ am_all, w.before _ s = true := fun w hw => hts w (List.mem_cons_of_mem _ hw)
  have hown : s.vm.findClass RX5 = some m.cls := findClass_of_methodNamed B.named
  have hlocks := B.notSynchronized
  have hl := lv_entry ([.ref (ad 43), .int x1, .int x2]) (n := 3) (Nat.le_of_ble_eq_true rfl)
  rw [lg_entry_eq]
  generalize (lg_sl ([.ref (ad 43), .int x1, .int x2]) ++ List.replicate (3 - (lg_sl ([.ref (ad 43), .int x1, .int x2])).length) Slot.unset).toArray = ls at hl ⊢
  have hl : lv_has ls 3 [(0, .ref (ad 43)), (1, .int x1), (2, .int x2)] := hl
  replace h := w_X5_holder_s h
  refine am_enter (A := am_A ad 63) hP (fun H locs hP hS => ?_)
  refine lv_iload_n hx hb dX5_holder_0 rfl (lv_at hl 1 rfl) ?_
  refine am_calli (va_runS (As := [.int x1]) (rest := []) ⟨hx, hb, hml, hown, hts⟩ (c_X5_noNode l dC dI ca ad hI M x1 _ h) ⟨callB_of 1 hts (am_gd mc_X5_noNode) rfl rfl rfl (hta _ mn_X5) (hta _ ml_X5_122) dc_X5_noNode ⟨Nat.le_of_ble_eq_true rfl, Nat.le_of_ble_eq_true rfl⟩, hta _ ms_X5_noNode⟩ (am_preS hK hN hP) rfl rfl hl.1 rfl (lv_room (Nat.le_of_ble_eq_true rfl)) dX5_holder_1 ⟨Nat.zero_le _, Nat.zero_le _⟩) hS (fun y2 M1 H locs hP hS h => ?_)
  refine lv_if_ne (tgt := 17) hx hb dX5_holder_4 rfl (fun hc => ?_) (fun hc => ?_)
  · replace h := h.1 hc
    clear hc
    refine lv_bipush (v := (-2)) hx hb dX5_holder_17 rfl ?_
    refine lv_goto (tgt := 35) hx hb dX5_holder_19 rfl ?_
    exact am_iret hx hb hr hK hN hP hS h hlocks dX5_holder_35
  · replace h := h.2 hc
    clear hc
    refine lv_iload_n hx hb dX5_holder_7 rfl (lv_at hl 2 rfl) ?_
    refine lv_if_lt (tgt := 17) hx hb dX5_holder_8 rfl (fun hc => ?_) (fun hc => ?_)
    · replace h := h.1 hc
      clear hc
      refine lv_bipush (v := (-2)) hx hb dX5_holder_17 rfl ?_
      refine lv_goto (tgt := 35) hx hb dX5_holder_19 rfl ?_
      exact am_iret hx hb hr hK hN hP hS h hlocks dX5_holder_35
    · replace h := h.2 hc
      clear hc
      refine lv_iload_n hx hb dX5_holder_11 rfl (lv_at hl 2 rfl) ?_
      refine lv_bipush (v := (nI 7)) hx hb dX5_holder_12 rfl ?_
      refine lv_icmp_le (tgt := 22) hx hb dX5_holder_14 rfl (fun hc => ?_) (fun hc => ?_)
      · replace h := h.1 hc
        clear hc
        refine lv_aload_n hx hb dX5_holder_22 rfl (lv_at hl 0 rfl) ?_
        refine gf_X5_38 hx hb hta hown hK hP (am_wo (i := 43) (by decide) (am_s_model ca)) (am_fvr (j := 53) rfl) dX5_holder_23 ?_
        refine lv_bipush (v := (nI 8)) hx hb dX5_holder_26 rfl ?_
        refine lv_iload_n hx hb dX5_holder_28 rfl (lv_at hl 1 rfl) ?_
        refine lv_imul hx hb dX5_holder_29 ?_
        refine lv_iload_n hx hb dX5_holder_30 rfl (lv_at hl 2 rfl) ?_
        refine lv_iadd hx hb dX5_holder_31 ?_
        refine am_iald hx hb hK hP (i := 53) (by decide) (am_s_m_held ca) h dX5_holder_32 (fun k3 hk3 h => ?_)
        refine lv_iconst (v := (nI 1)) hx hb dX5_holder_33 rfl ?_
        refine lv_isub hx hb dX5_holder_34 ?_
        exact am_iret hx hb hr hK hN hP hS h hlocks dX5_holder_35
      · replace h := h.2 hc
        clear hc
        refine lv_bipush (v := (-2)) hx hb dX5_holder_17 rfl ?_
        refine lv_goto (tgt := 35) hx hb dX5_holder_19 rfl ?_
        exact am_iret hx hb hr hK hN hP hS h hlocks dX5_holder_35
abbrev rmX5_records : Room := { frames := 1, cells := 0, slots := 0, locals := 20 }
set_option maxHeartbeats 4000000 in
set_option maxRecDepth 100000 in
theorem c_X5_records (l : Launch) (dC : Nat → ClassId) (dI : Nat → Nat → Nat) (ca : Nat → ClassId) (ad : Nat → Nat) (hI : am_inj ad) (M : am_M) (x1 : Int32) (x2 : Int32) (Q : Int32 → am_M → Prop) (h : w_X5_records M x1 x2 Q) : Met l yX5_records wsX5_records rmX5_records (va_Pc [.ref (ad 43), .int x1, .int x2] (am_B dC dI ca ad M)) (am_Qi dC dI ca ad Q) 0 0 (am_A ad 63) := by
  refine Met.ofW (cc := cX5_records) (maxL := 5) (ret := (some .int)) (by decide) rfl ?_
  intro p e s m args below meth c s₁ B hml hv
  obtain ⟨rfl, hP, hK, hN⟩ := hv
  have hx := B.exec
  have hb := B.bytes
  have hr := B.returns
  have hts := atoms_spec (ws := wsX5_records) B.pre
  have hta : ∀ w ∈ am_all, w.before _ s = true := fun w hw => hts w (List.mem_cons_of_mem _ hw)
  have hown : s.vm.findClass RX5 = some m.cls := findClass_of_methodNamed B.named
  have hlocks := B.notSynchronized
  have hl := lv_entry ([.ref (ad 43), .int x1, .int x2]) (n := 5) (Nat.le_of_ble_eq_true rfl)
  rw [lg_entry_eq]
  generalize (lg_sl ([.ref (ad 43), .int x1, .int x2]) ++ List.replicate (5 - (lg_sl ([.ref (ad 43), .int x1, .int x2])).length) Slot.unset).toArray = ls at hl ⊢
  have hl : lv_has ls 5 [(0, .ref (ad 43)), (1, .int x1), (2, .int x2)] := hl
  replace h := w_X5_records_s h
  refine am_enter (A := am_A ad 63) hP (fun H locs hP hS => ?_)
  refine lv_iload_n hx hb dX5_records_0 rfl (lv_at hl 1 rfl) ?_
  refine am_calli (va_runS (As := [.int x1]) (rest := []) ⟨hx, hb, hml, hown, hts⟩ (c_X5_noNode l dC dI ca ad hI M x1 _ h) ⟨callB_of 1 hts (am_gd mc_X5_noNode) rfl rfl rfl (hta _ mn_X5) (hta _ ml_X5_122) dc_X5_noNode ⟨Nat.le_of_ble_eq_true rfl, Nat.le_of_ble_eq_true rfl⟩, hta _ ms_X5_noNode⟩ (am_preS hK hN hP) rfl rfl hl.1 rfl (lv_room (Nat.le_of_ble_eq_true rfl)) dX5_records_1 ⟨Nat.zero_le _, Nat.zero_le _⟩) hS (fun y2 M1 H locs hP hS h => ?_)
  refine lv_if_eq (tgt := 10) hx hb dX5_records_4 rfl (fun hc => ?_) (fun hc => ?_)
  · replace h := h.1 hc
    clear hc
    refine lv_iconst (v := (nI 0)) hx hb dX5_records_10 rfl ?_
    refine am_topi h (fun y3 h => ?_)
    refine lv_istore_n hx hb dX5_records_11 rfl hl (by decide) rfl (fun ls hl => ?_)
    have hl : lv_has ls 5 [(3, .int y3), (0, .ref (ad 43)), (1, .int x1), (2, .int x2)] := hl
    refine lv_iconst (v := (nI 0)) hx hb dX5_records_12 rfl ?_
    refine am_topi h (fun y4 h => ?_)
    refine lv_istore hx hb dX5_records_13 hl (by decide) rfl (fun ls hl => ?_)
    have hl : lv_has ls 5 [(4, .int y4), (3, .int y3), (0, .ref (ad 43)), (1, .int x1), (2, .int x2)] := hl
    obtain ⟨f15, h⟩ := h
    have key15 : ∀ (K : am_M → Int32 → Int32 → Prop), (∀ (M7 : am_M) (z5 : Int32) (z6 : Int32) (ls : Array Slot) (H : Heap) (locs : List Loc), K M7 z5 z6 → va_P (dC, dI) vwCl (am_w ad (am_sh ca) 63 M7) H → va_S (am_A ad 63) s.heap H locs → lv_has ls 5 [(4, .int z6), (3, .int z5), (0, .ref (ad 43)), (1, .int x1), (2, .int x2)] → am_Wi p l e wsX5_records rmX5_records s m ([.ref (ad 43), .int x1, .int x2] : List Value).toArray below meth c H locs dC dI ca ad Q (F0 m 59 ls [])) → ∀ (f15 : Nat) (M7 : am_M) (z5 : Int32) (z6 : Int32) (ls : Array Slot) (H : Heap) (locs : List Loc), w_X5_records_L15 x1 x2 Q K f15 M7 z5 z6 → va_P (dC, dI) vwCl (am_w ad (am_sh ca) 63 M7) H → va_S (am_A ad 63) s.heap H locs → lv_has ls 5 [(4, .int z6), (3, .int z5), (0, .ref (ad 43)), (1, .int x1), (2, .int x2)] → am_Wi p l e wsX5_records rmX5_records s m ([.ref (ad 43), .int x1, .int x2] : List Value).toArray below meth c H locs dC dI ca ad Q (F0 m 15 ls []) := by
      intro K hex15 f15
      induction f15 with
      | zero => intro _ _ _ _ _ _ h; exact False.elim h
      | succ f15 ih15 =>
        intro M7 z5 z6 ls H locs h hP hS hl
        replace h := w_X5_records_L15_s h
        refine lv_iload hx hb dX5_records_15 (lv_at hl 0 rfl) ?_
        refine lv_aload_n hx hb dX5_records_17 rfl (lv_at hl 2 rfl) ?_
        refine gf_X5_41 hx hb hta hown hK hP (am_wo (i := 43) (by decide) (am_s_model ca)) (am_fvr (j := 54) rfl) dX5_records_18 ?_
        refine lv_iload_n hx hb dX5_records_21 rfl (lv_at hl 3 rfl) ?_
        refine am_iald hx hb hK hP (i := 54) (by decide) (am_s_m_length ca) h dX5_records_22 (fun k8 hk8 h => ?_)
        refine lv_icmp_ge (tgt := 59) hx hb dX5_records_23 rfl (fun hc => ?_) (fun hc => ?_)
        · replace h := h.1 hc
          clear hc
          exact hex15 M7 z5 z6 ls H locs h hP hS (lv_sub hl [0, 1, 2, 3, 4] rfl)
        · replace h := h.2 hc
          clear hc
          refine lv_iload_n hx hb dX5_records_26 rfl (lv_at hl 4 rfl) ?_
          refine lv_if_eq (tgt := 45) hx hb dX5_records_27 rfl (fun hc => ?_) (fun hc => ?_)
          · replace h := h.1 hc
            clear hc
            refine lv_iload_n hx hb dX5_records_45 rfl (lv_at hl 1 rfl) ?_
            refine lv_iconst (v := (nI 1)) hx hb dX5_records_46 rfl ?_
            refine lv_iadd hx hb dX5_records_47 ?_
            refine lv_goto (tgt := 52) hx hb dX5_records_48 rfl ?_
            refine am_topi h (fun y9 h => ?_)
            refine lv_istore_n hx hb dX5_records_52 rfl hl (by decide) rfl (fun ls hl => ?_)
            have hl : lv_has ls 5 [(3, .int y9), (4, .int z6), (0, .ref (ad 43)), (1, .int x1), (2, .int x2)] := hl
            refine am_iinc (k := 1) (d := nI 1) hx hb dX5_records_53 hl rfl rfl (by decide) h (fun y10 ls h hl => ?_)
            have hl : lv_has ls 5 [(4, .int y10), (3, .int y9), (0, .ref (ad 43)), (1, .int x1), (2, .int x2)] := hl
            refine lv_goto (tgt := 15) hx hb dX5_records_56 rfl ?_
            exact ih15 M7 y9 y10 ls H locs h hP hS (lv_sub hl [0, 1, 2, 3, 4] rfl)
          · replace h := h.2 hc
            clear hc
            refine lv_aload_n hx hb dX5_records_30 rfl (lv_at hl 2 rfl) ?_
            refine gf_X5_53 hx hb hta hown hK hP (am_wo (i := 43) (by decide) (am_s_model ca)) (am_fvr (j := 58) rfl) dX5_records_31 ?_
            refine lv_bipush (v := (nI 64)) hx hb dX5_records_34 rfl ?_
            refine lv_iload_n hx hb dX5_records_36 rfl (lv_at hl 3 rfl) ?_
            refine lv_imul hx hb dX5_records_37 ?_
            refine lv_iload hx hb dX5_records_38 (lv_at hl 0 rfl) ?_
            refine lv_iadd hx hb dX5_records_40 ?_
            refine am_zald hx hb hK hP (i := 58) (by decide) (am_s_m_logSafe ca) h dX5_records_41 (fun k11 hk11 h => ?_)
            refine lv_if_eq (tgt := 51) hx hb dX5_records_42 rfl (fun hc => ?_) (fun hc => ?_)
            · replace h := h.1 hc
              clear hc
              refine lv_iload_n hx hb dX5_records_51 rfl (lv_at hl 1 rfl) ?_
              refine am_topi h (fun y12 h => ?_)
              refine lv_istore_n hx hb dX5_records_52 rfl hl (by decide) rfl (fun ls hl => ?_)
              have hl : lv_has ls 5 [(3, .int y12), (4, .int z6), (0, .ref (ad 43)), (1, .int x1), (2, .int x2)] := hl
              refine am_iinc (k := 1) (d := nI 1) hx hb dX5_records_53 hl rfl rfl (by decide) h (fun y13 ls h hl => ?_)
              have hl : lv_has ls 5 [(4, .int y13), (3, .int y12), (0, .ref (ad 43)), (1, .int x1), (2, .int x2)] := hl
              refine lv_goto (tgt := 15) hx hb dX5_records_56 rfl ?_
              exact ih15 M7 y12 y13 ls H locs h hP hS (lv_sub hl [0, 1, 2, 3, 4] rfl)
            · replace h := h.2 hc
              clear hc
              refine lv_iload_n hx hb dX5_records_45 rfl (lv_at hl 1 rfl) ?_
              refine lv_iconst (v := (nI 1)) hx hb dX5_records_46 rfl ?_
              refine lv_iadd hx hb dX5_records_47 ?_
              refine lv_goto (tgt := 52) hx hb dX5_records_48 rfl ?_
              refine am_topi h (fun y14 h => ?_)
              refine lv_istore_n hx hb dX5_records_52 rfl hl (by decide) rfl (fun ls hl => ?_)
              have hl : lv_has ls 5 [(3, .int y14), (4, .int z6), (0, .ref (ad 43)), (1, .int x1), (2, .int x2)] := hl
              refine am_iinc (k := 1) (d := nI 1) hx hb dX5_records_53 hl rfl rfl (by decide) h (fun y15 ls h hl => ?_)
              have hl : lv_has ls 5 [(4, .int y15), (3, .int y14), (0, .ref (ad 43)), (1, .int x1), (2, .int x2)] := hl
              refine lv_goto (tgt := 15) hx hb dX5_records_56 rfl ?_
              exact ih15 M7 y14 y15 ls H locs h hP hS (lv_sub hl [0, 1, 2, 3, 4] rfl)
    refine key15 _ ?_ f15 M1 y3 y4 ls H locs h hP hS hl
    intro M16 z17 z18 ls H locs h hP hS hl
    refine lv_iload_n hx hb dX5_records_59 rfl (lv_at hl 1 rfl) ?_
    exact am_iret hx hb hr hK hN hP hS h hlocks dX5_records_60
  · replace h := h.2 hc
    clear hc
    refine lv_bipush (v := (-2)) hx hb dX5_records_7 rfl ?_
    exact am_iret hx hb hr hK hN hP hS h hlocks dX5_records_9
abbrev rmX5_isRecord : Room := { frames := 0, cells := 0, slots := 0, locals := 0 }
set_option maxHeartbeats 4000000 in
set_option maxRecDepth 100000 in
theorem c_X5_isRecord (l : Launch) (dC : Nat → ClassId) (dI : Nat → Nat → Nat) (ca : Nat → ClassId) (ad : Nat → Nat) (hI : am_inj ad) (M : am_M) (x1 : Int32) (x2 : Int32) (Q : Int32 → am_M → Prop) (h : w_X5_isRecord M x1 x2 Q) : Met l yX5_isRecord wsX5_isRecord rmX5_isRecord (va_Pc [.ref (ad 43), .int x1, .int x2] (am_B dC dI ca ad M)) (am_Qi dC dI ca ad Q) 0 0 (am_A ad 63) := by
  refine Met.ofW (cc := cX5_isRecord) (maxL := 3) (ret := (some .boolean)) (by decide) rfl ?_
  intro p e s m args below meth c s₁ B hml hv
  obtain ⟨rfl, hP, hK, hN⟩ := hv
  have hx := B.exec
  have hb := B.bytes
  have hr := B.returns
  have hts := atoms_spec (ws := wsX5_isRecord) B.pre
  have hta : ∀ w ∈ am_all, w.before _ s = true := fun w hw => hts w (List.mem_cons_of_mem _ hw)
  have hown : s.vm.findClass RX5 = some m.cls := findClass_of_methodNamed B.named
  have hlocks := B.notSynchronized
  have hl := lv_entry ([.ref (ad 43), .int x1, .int x2]) (n := 3) (Nat.le_of_ble_eq_true rfl)
  rw [lg_entry_eq]
  generalize (lg_sl ([.ref (ad 43), .int x1, .int x2]) ++ List.replicate (3 - (lg_sl ([.ref (ad 43), .int x1, .int x2])).length) Slot.unset).toArray = ls at hl ⊢
  have hl : lv_has ls 3 [(0, .ref (ad 43)), (1, .int x1), (2, .int x2)] := hl
  replace h := w_X5_isRecord_s h
  refine am_enter (A := am_A ad 63) hP (fun H locs hP hS => ?_)
  refine lv_iload_n hx hb dX5_isRecord_0 rfl (lv_at hl 2 rfl) ?_
  refine lv_if_lt (tgt := 18) hx hb dX5_isRecord_1 rfl (fun hc => ?_) (fun hc => ?_)
  · replace h := h.1 hc
    clear hc
    refine lv_iconst (v := (nI 0)) hx hb dX5_isRecord_18 rfl ?_
    exact am_zret hx hb hr (rfl) hK hN hP hS h hlocks dX5_isRecord_19
  · replace h := h.2 hc
    clear hc
    refine lv_iload_n hx hb dX5_isRecord_4 rfl (lv_at hl 2 rfl) ?_
    refine lv_aload_n hx hb dX5_isRecord_5 rfl (lv_at hl 0 rfl) ?_
    refine gf_X5_41 hx hb hta hown hK hP (am_wo (i := 43) (by decide) (am_s_model ca)) (am_fvr (j := 54) rfl) dX5_isRecord_6 ?_
    refine lv_iload_n hx hb dX5_isRecord_9 rfl (lv_at hl 1 rfl) ?_
    refine am_iald hx hb hK hP (i := 54) (by decide) (am_s_m_length ca) h dX5_isRecord_10 (fun k1 hk1 h => ?_)
    refine lv_icmp_ge (tgt := 18) hx hb dX5_isRecord_11 rfl (fun hc => ?_) (fun hc => ?_)
    · replace h := h.1 hc
      clear hc
      refine lv_iconst (v := (nI 0)) hx hb dX5_isRecord_18 rfl ?_
      exact am_zret hx hb hr (rfl) hK hN hP hS h hlocks dX5_isRecord_19
    · replace h := h.2 hc
      clear hc
      refine lv_iconst (v := (nI 1)) hx hb dX5_isRecord_14 rfl ?_
      refine lv_goto (tgt := 19) hx hb dX5_isRecord_15 rfl ?_
      exact am_zret hx hb hr (rfl) hK hN hP hS h hlocks dX5_isRecord_19
abbrev rmX5_entry : Room := { frames := 1, cells := 0, slots := 0, locals := 22 }
set_option maxHeartbeats 4000000 in
set_option maxRecDepth 100000 in
theorem c_X5_entry (l : Launch) (dC : Nat → ClassId) (dI : Nat → Nat → Nat) (ca : Nat → ClassId) (ad : Nat → Nat) (hI : am_inj ad) (M : am_M) (x1 : Int32) (x2 : Int32) (Q : Int32 → am_M → Prop) (h : w_X5_entry M x1 x2 Q) : Met l yX5_entry wsX5_entry rmX5_entry (va_Pc [.ref (ad 43), .int x1, .int x2] (am_B dC dI ca ad M)) (am_Qi dC dI ca ad Q) 0 0 (am_A ad 63) := by
  refine Met.ofW (cc := cX5_entry) (maxL := 3) (ret := (some .int)) (by decide) rfl ?_
  intro p e s m args below meth c s₁ B hml hv
  obtain ⟨rfl, hP, hK, hN⟩ := hv
  have hx := B.exec
  have hb := B.bytes
  have hr := B.returns
  have hts := atoms_spec (ws := wsX5_entry) B.pre
  have hta : ∀ w ∈ am_all, w.before _ s = true := fun w hw => hts w (List.mem_cons_of_mem _ hw)
  have hown : s.vm.findClass RX5 = some m.cls := findClass_of_methodNamed B.named
  have hlocks := B.notSynchronized
  have hl := lv_entry ([.ref (ad 43), .int x1, .int x2]) (n := 3) (Nat.le_of_ble_eq_true rfl)
  rw [lg_entry_eq]
  generalize (lg_sl ([.ref (ad 43), .int x1, .int x2]) ++ List.replicate (3 - (lg_sl ([.ref (ad 43), .int x1, .int x2])).length) Slot.unset).toArray = ls at hl ⊢
  have hl : lv_has ls 3 [(0, .ref (ad 43)), (1, .int x1), (2, .int x2)] := hl
  replace h := w_X5_entry_s h
  refine am_enter (A := am_A ad 63) hP (fun H locs hP hS => ?_)
  refine lv_iload_n hx hb dX5_entry_0 rfl (lv_at hl 1 rfl) ?_
  refine am_calli (va_runS (As := [.int x1]) (rest := []) ⟨hx, hb, hml, hown, hts⟩ (c_X5_noNode l dC dI ca ad hI M x1 _ h) ⟨callB_of 1 hts (am_gd mc_X5_noNode) rfl rfl rfl (hta _ mn_X5) (hta _ ml_X5_122) dc_X5_noNode ⟨Nat.le_of_ble_eq_true rfl, Nat.le_of_ble_eq_true rfl⟩, hta _ ms_X5_noNode⟩ (am_preS hK hN hP) rfl rfl hl.1 rfl (lv_room (Nat.le_of_ble_eq_true rfl)) dX5_entry_1 ⟨Nat.zero_le _, Nat.zero_le _⟩) hS (fun y2 M1 H locs hP hS h => ?_)
  refine lv_if_eq (tgt := 10) hx hb dX5_entry_4 rfl (fun hc => ?_) (fun hc => ?_)
  · replace h := h.1 hc
    clear hc
    refine lv_aload_n hx hb dX5_entry_10 rfl (lv_at hl 0 rfl) ?_
    refine lv_iload_n hx hb dX5_entry_11 rfl (lv_at hl 1 rfl) ?_
    refine lv_iload_n hx hb dX5_entry_12 rfl (lv_at hl 2 rfl) ?_
    refine am_calli (va_runV (C := RX5) (As := [.int x1, .int x2]) (rest := []) ⟨hx, hb, hml, hown, hts⟩ (c_X5_isRecord l dC dI ca ad hI M1 x1 x2 _ h) ⟨callB_of 2 hts (am_gd mc_X5_isRecord) rfl rfl rfl (hta _ mn_X5) (hta _ ml_X5_145) dc_X5_isRecord ⟨Nat.le_of_ble_eq_true rfl, Nat.le_of_ble_eq_true rfl⟩, hta _ mi_X5_isRecord, hta _ me_X5_isRecord⟩ (am_preV (q := (RX5, TX5, 21)) hK hN hP rfl (by decide) (am_s_model ca)) rfl rfl hl.1 rfl (lv_room (Nat.le_of_ble_eq_true rfl)) dX5_entry_13 ⟨Nat.zero_le _, Nat.zero_le _⟩) hS (fun y4 M3 H locs hP hS h => ?_)
    refine lv_if_eq (tgt := 48) hx hb dX5_entry_16 rfl (fun hc => ?_) (fun hc => ?_)
    · replace h := h.1 hc
      clear hc
      refine lv_iconst (v := (-1)) hx hb dX5_entry_48 rfl ?_
      exact am_iret hx hb hr hK hN hP hS h hlocks dX5_entry_49
    · replace h := h.2 hc
      clear hc
      refine lv_bipush (v := (nI 10)) hx hb dX5_entry_19 rfl ?_
      refine lv_aload_n hx hb dX5_entry_21 rfl (lv_at hl 0 rfl) ?_
      refine gf_X5_44 hx hb hta hown hK hP (am_wo (i := 43) (by decide) (am_s_model ca)) (am_fvr (j := 55) rfl) dX5_entry_22 ?_
      refine lv_bipush (v := (nI 64)) hx hb dX5_entry_25 rfl ?_
      refine lv_iload_n hx hb dX5_entry_27 rfl (lv_at hl 1 rfl) ?_
      refine lv_imul hx hb dX5_entry_28 ?_
      refine lv_iload_n hx hb dX5_entry_29 rfl (lv_at hl 2 rfl) ?_
      refine lv_iadd hx hb dX5_entry_30 ?_
      refine am_iald hx hb hK hP (i := 55) (by decide) (am_s_m_logOf ca) h dX5_entry_31 (fun k5 hk5 h => ?_)
      refine lv_imul hx hb dX5_entry_32 ?_
      refine lv_aload_n hx hb dX5_entry_33 rfl (lv_at hl 0 rfl) ?_
      refine gf_X5_47 hx hb hta hown hK hP (am_wo (i := 43) (by decide) (am_s_model ca)) (am_fvr (j := 56) rfl) dX5_entry_34 ?_
      refine lv_bipush (v := (nI 64)) hx hb dX5_entry_37 rfl ?_
      refine lv_iload_n hx hb dX5_entry_39 rfl (lv_at hl 1 rfl) ?_
      refine lv_imul hx hb dX5_entry_40 ?_
      refine lv_iload_n hx hb dX5_entry_41 rfl (lv_at hl 2 rfl) ?_
      refine lv_iadd hx hb dX5_entry_42 ?_
      refine am_iald hx hb hK hP (i := 56) (by decide) (am_s_m_logKind ca) h dX5_entry_43 (fun k6 hk6 h => ?_)
      refine lv_iadd hx hb dX5_entry_44 ?_
      refine lv_goto (tgt := 49) hx hb dX5_entry_45 rfl ?_
      exact am_iret hx hb hr hK hN hP hS h hlocks dX5_entry_49
  · replace h := h.2 hc
    clear hc
    refine lv_bipush (v := (-2)) hx hb dX5_entry_7 rfl ?_
    exact am_iret hx hb hr hK hN hP hS h hlocks dX5_entry_9
abbrev rmX5_content : Room := { frames := 1, cells := 0, slots := 0, locals := 22 }
set_option maxHeartbeats 4000000 in
set_option maxRecDepth 100000 in
theorem c_X5_content (l : Launch) (dC : Nat → ClassId) (dI : Nat → Nat → Nat) (ca : Nat → ClassId) (ad : Nat → Nat) (hI : am_inj ad) (M : am_M) (x1 : Int32) (x2 : Int32) (Q : Int32 → am_M → Prop) (h : w_X5_content M x1 x2 Q) : Met l yX5_content wsX5_content rmX5_content (va_Pc [.ref (ad 43), .int x1, .int x2] (am_B dC dI ca ad M)) (am_Qi dC dI ca ad Q) 0 0 (am_A ad 63) := by
  refine Met.ofW (cc := cX5_content) (maxL := 3) (ret := (some .int)) (by decide) rfl ?_
  intro p e s m args below meth c s₁ B hml hv
  obtain ⟨rfl, hP, hK, hN⟩ := hv
  have hx := B.exec
  have hb := B.bytes
  have hr := B.returns
  have hts := atoms_spec (ws := wsX5_content) B.pre
  have hta : ∀ w ∈ am_all, w.before _ s = true := fun w hw => hts w (List.mem_cons_of_mem _ hw)
  have hown : s.vm.findClass RX5 = some m.cls := findClass_of_methodNamed B.named
  have hlocks := B.notSynchronized
  have hl := lv_entry ([.ref (ad 43), .int x1, .int x2]) (n := 3) (Nat.le_of_ble_eq_true rfl)
  rw [lg_entry_eq]
  generalize (lg_sl ([.ref (ad 43), .int x1, .int x2]) ++ List.replicate (3 - (lg_sl ([.ref (ad 43), .int x1, .int x2])).length) Slot.unset).toArray = ls at hl ⊢
  have hl : lv_has ls 3 [(0, .ref (ad 43)), (1, .int x1), (2, .int x2)] := hl
  replace h := w_X5_content_s h
  refine am_enter (A := am_A ad 63) hP (fun H locs hP hS => ?_)
  refine lv_iload_n hx hb dX5_content_0 rfl (lv_at hl 1 rfl) ?_
  refine am_calli (va_runS (As := [.int x1]) (rest := []) ⟨hx, hb, hml, hown, hts⟩ (c_X5_noNode l dC dI ca ad hI M x1 _ h) ⟨callB_of 1 hts (am_gd mc_X5_noNode) rfl rfl rfl (hta _ mn_X5) (hta _ ml_X5_122) dc_X5_noNode ⟨Nat.le_of_ble_eq_true rfl, Nat.le_of_ble_eq_true rfl⟩, hta _ ms_X5_noNode⟩ (am_preS hK hN hP) rfl rfl hl.1 rfl (lv_room (Nat.le_of_ble_eq_true rfl)) dX5_content_1 ⟨Nat.zero_le _, Nat.zero_le _⟩) hS (fun y2 M1 H locs hP hS h => ?_)
  refine lv_if_eq (tgt := 10) hx hb dX5_content_4 rfl (fun hc => ?_) (fun hc => ?_)
  · replace h := h.1 hc
    clear hc
    refine lv_aload_n hx hb dX5_content_10 rfl (lv_at hl 0 rfl) ?_
    refine lv_iload_n hx hb dX5_content_11 rfl (lv_at hl 1 rfl) ?_
    refine lv_iload_n hx hb dX5_content_12 rfl (lv_at hl 2 rfl) ?_
    refine am_calli (va_runV (C := RX5) (As := [.int x1, .int x2]) (rest := []) ⟨hx, hb, hml, hown, hts⟩ (c_X5_isRecord l dC dI ca ad hI M1 x1 x2 _ h) ⟨callB_of 2 hts (am_gd mc_X5_isRecord) rfl rfl rfl (hta _ mn_X5) (hta _ ml_X5_145) dc_X5_isRecord ⟨Nat.le_of_ble_eq_true rfl, Nat.le_of_ble_eq_true rfl⟩, hta _ mi_X5_isRecord, hta _ me_X5_isRecord⟩ (am_preV (q := (RX5, TX5, 21)) hK hN hP rfl (by decide) (am_s_model ca)) rfl rfl hl.1 rfl (lv_room (Nat.le_of_ble_eq_true rfl)) dX5_content_13 ⟨Nat.zero_le _, Nat.zero_le _⟩) hS (fun y4 M3 H locs hP hS h => ?_)
    refine lv_if_eq (tgt := 33) hx hb dX5_content_16 rfl (fun hc => ?_) (fun hc => ?_)
    · replace h := h.1 hc
      clear hc
      refine lv_iconst (v := (-1)) hx hb dX5_content_33 rfl ?_
      exact am_iret hx hb hr hK hN hP hS h hlocks dX5_content_34
    · replace h := h.2 hc
      clear hc
      refine lv_aload_n hx hb dX5_content_19 rfl (lv_at hl 0 rfl) ?_
      refine gf_X5_50 hx hb hta hown hK hP (am_wo (i := 43) (by decide) (am_s_model ca)) (am_fvr (j := 57) rfl) dX5_content_20 ?_
      refine lv_bipush (v := (nI 64)) hx hb dX5_content_23 rfl ?_
      refine lv_iload_n hx hb dX5_content_25 rfl (lv_at hl 1 rfl) ?_
      refine lv_imul hx hb dX5_content_26 ?_
      refine lv_iload_n hx hb dX5_content_27 rfl (lv_at hl 2 rfl) ?_
      refine lv_iadd hx hb dX5_content_28 ?_
      refine am_iald hx hb hK hP (i := 57) (by decide) (am_s_m_logWhat ca) h dX5_content_29 (fun k5 hk5 h => ?_)
      refine lv_goto (tgt := 34) hx hb dX5_content_30 rfl ?_
      exact am_iret hx hb hr hK hN hP hS h hlocks dX5_content_34
  · replace h := h.2 hc
    clear hc
    refine lv_bipush (v := (-2)) hx hb dX5_content_7 rfl ?_
    exact am_iret hx hb hr hK hN hP hS h hlocks dX5_content_9
abbrev rmX5_messages : Room := { frames := 0, cells := 0, slots := 0, locals := 0 }
set_option maxHeartbeats 4000000 in
set_option maxRecDepth 100000 in
theorem c_X5_messages (l : Launch) (dC : Nat → ClassId) (dI : Nat → Nat → Nat) (ca : Nat → ClassId) (ad : Nat → Nat) (hI : am_inj ad) (M : am_M) (Q : Int32 → am_M → Prop) (h : w_X5_messages M Q) : Met l yX5_messages wsX5_messages rmX5_messages (va_Pc [.ref (ad 43)] (am_B dC dI ca ad M)) (am_Qi dC dI ca ad Q) 0 0 (am_A ad 63) := by
  refine Met.ofW (cc := cX5_messages) (maxL := 1) (ret := (some .int)) (by decide) rfl ?_
  intro p e s m args below meth c s₁ B hml hv
  obtain ⟨rfl, hP, hK, hN⟩ := hv
  have hx := B.exec
  have hb := B.bytes
  have hr := B.returns
  have hts := atoms_spec (ws := wsX5_messages) B.pre
  have hta : ∀ w ∈ am_all, w.before _ s = true := fun w hw => hts w (List.mem_cons_of_mem _ hw)
  have hown : s.vm.findClass RX5 = some m.cls := findClass_of_methodNamed B.named
  have hlocks := B.notSynchronized
  have hl := lv_entry ([.ref (ad 43)]) (n := 1) (Nat.le_of_ble_eq_true rfl)
  rw [lg_entry_eq]
  generalize (lg_sl ([.ref (ad 43)]) ++ List.replicate (1 - (lg_sl ([.ref (ad 43)])).length) Slot.unset).toArray = ls at hl ⊢
  have hl : lv_has ls 1 [(0, .ref (ad 43))] := hl
  replace h := w_X5_messages_s h
  refine am_enter (A := am_A ad 63) hP (fun H locs hP hS => ?_)
  refine lv_aload_n hx hb dX5_messages_0 rfl (lv_at hl 0 rfl) ?_
  refine gf_X5_72 hx hb hta hown hK hP (am_wo (i := 43) (by decide) (am_s_model ca)) (am_fvi rfl) dX5_messages_1 ?_
  exact am_iret hx hb hr hK hN hP hS h hlocks dX5_messages_4
abbrev rmX5_message : Room := { frames := 0, cells := 0, slots := 0, locals := 0 }
set_option maxHeartbeats 4000000 in
set_option maxRecDepth 100000 in
theorem c_X5_message (l : Launch) (dC : Nat → ClassId) (dI : Nat → Nat → Nat) (ca : Nat → ClassId) (ad : Nat → Nat) (hI : am_inj ad) (M : am_M) (x1 : Int32) (x2 : Int32) (Q : Int32 → am_M → Prop) (h : w_X5_message M x1 x2 Q) : Met l yX5_message wsX5_message rmX5_message (va_Pc [.ref (ad 43), .int x1, .int x2] (am_B dC dI ca ad M)) (am_Qi dC dI ca ad Q) 0 0 (am_A ad 63) := by
  refine Met.ofW (cc := cX5_message) (maxL := 3) (ret := (some .int)) (by decide) rfl ?_
  intro p e s m args below meth c s₁ B hml hv
  obtain ⟨rfl, hP, hK, hN⟩ := hv
  have hx := B.exec
  have hb := B.bytes
  have hr := B.returns
  have hts := atoms_spec (ws := wsX5_message) B.pre
  have hta : ∀ w ∈ am_all, w.before _ s = true := fun w hw => hts w (List.mem_cons_of_mem _ hw)
  have hown : s.vm.findClass RX5 = some m.cls := findClass_of_methodNamed B.named
  have hlocks := B.notSynchronized
  have hl := lv_entry ([.ref (ad 43), .int x1, .int x2]) (n := 3) (Nat.le_of_ble_eq_true rfl)
  rw [lg_entry_eq]
  generalize (lg_sl ([.ref (ad 43), .int x1, .int x2]) ++ List.replicate (3 - (lg_sl ([.ref (ad 43), .int x1, .int x2])).length) Slot.unset).toArray = ls at hl ⊢
  have hl : lv_has ls 3 [(0, .ref (ad 43)), (1, .int x1), (2, .int x2)] := hl
  replace h := w_X5_message_s h
  refine am_enter (A := am_A ad 63) hP (fun H locs hP hS => ?_)
  refine lv_iload_n hx hb dX5_message_0 rfl (lv_at hl 1 rfl) ?_
  refine lv_if_lt (tgt := 21) hx hb dX5_message_1 rfl (fun hc => ?_) (fun hc => ?_)
  · replace h := h.1 hc
    clear hc
    refine lv_bipush (v := (-2)) hx hb dX5_message_21 rfl ?_
    exact am_iret hx hb hr hK hN hP hS h hlocks dX5_message_23
  · replace h := h.2 hc
    clear hc
    refine lv_iload_n hx hb dX5_message_4 rfl (lv_at hl 1 rfl) ?_
    refine lv_aload_n hx hb dX5_message_5 rfl (lv_at hl 0 rfl) ?_
    refine gf_X5_72 hx hb hta hown hK hP (am_wo (i := 43) (by decide) (am_s_model ca)) (am_fvi rfl) dX5_message_6 ?_
    refine lv_icmp_ge (tgt := 21) hx hb dX5_message_9 rfl (fun hc => ?_) (fun hc => ?_)
    · replace h := h.1 hc
      clear hc
      refine lv_bipush (v := (-2)) hx hb dX5_message_21 rfl ?_
      exact am_iret hx hb hr hK hN hP hS h hlocks dX5_message_23
    · replace h := h.2 hc
      clear hc
      refine lv_iload_n hx hb dX5_message_12 rfl (lv_at hl 2 rfl) ?_
      refine lv_if_lt (tgt := 21) hx hb dX5_message_13 rfl (fun hc => ?_) (fun hc => ?_)
      · replace h := h.1 hc
        clear hc
        refine lv_bipush (v := (-2)) hx hb dX5_message_21 rfl ?_
        exact am_iret hx hb hr hK hN hP hS h hlocks dX5_message_23
      · replace h := h.2 hc
        clear hc
        refine lv_iload_n hx hb dX5_message_16 rfl (lv_at hl 2 rfl) ?_
        refine lv_iconst (v := (nI 3)) hx hb dX5_message_17 rfl ?_
        refine lv_icmp_le (tgt := 24) hx hb dX5_message_18 rfl (fun hc => ?_) (fun hc => ?_)
        · replace h := h.1 hc
          clear hc
          refine lv_iload_n hx hb dX5_message_24 rfl (lv_at hl 2 rfl) ?_
          refine lv_if_ne (tgt := 37) hx hb dX5_message_25 rfl (fun hc => ?_) (fun hc => ?_)
          · replace h := h.1 hc
            clear hc
            refine lv_iload_n hx hb dX5_message_37 rfl (lv_at hl 2 rfl) ?_
            refine lv_iconst (v := (nI 1)) hx hb dX5_message_38 rfl ?_
            refine lv_icmp_ne (tgt := 51) hx hb dX5_message_39 rfl (fun hc => ?_) (fun hc => ?_)
            · replace h := h.1 hc
              clear hc
              refine lv_iload_n hx hb dX5_message_51 rfl (lv_at hl 2 rfl) ?_
              refine lv_iconst (v := (nI 2)) hx hb dX5_message_52 rfl ?_
              refine lv_icmp_ne (tgt := 65) hx hb dX5_message_53 rfl (fun hc => ?_) (fun hc => ?_)
              · replace h := h.1 hc
                clear hc
                refine lv_aload_n hx hb dX5_message_65 rfl (lv_at hl 0 rfl) ?_
                refine gf_X5_65 hx hb hta hown hK hP (am_wo (i := 43) (by decide) (am_s_model ca)) (am_fvr (j := 62) rfl) dX5_message_66 ?_
                refine lv_iload_n hx hb dX5_message_69 rfl (lv_at hl 1 rfl) ?_
                refine am_iald hx hb hK hP (i := 62) (by decide) (am_s_m_about ca) h dX5_message_70 (fun k1 hk1 h => ?_)
                exact am_iret hx hb hr hK hN hP hS h hlocks dX5_message_71
              · replace h := h.2 hc
                clear hc
                refine lv_aload_n hx hb dX5_message_56 rfl (lv_at hl 0 rfl) ?_
                refine gf_X5_62 hx hb hta hown hK hP (am_wo (i := 43) (by decide) (am_s_model ca)) (am_fvr (j := 61) rfl) dX5_message_57 ?_
                refine lv_iload_n hx hb dX5_message_60 rfl (lv_at hl 1 rfl) ?_
                refine am_iald hx hb hK hP (i := 61) (by decide) (am_s_m_to ca) h dX5_message_61 (fun k2 hk2 h => ?_)
                refine lv_goto (tgt := 71) hx hb dX5_message_62 rfl ?_
                exact am_iret hx hb hr hK hN hP hS h hlocks dX5_message_71
            · replace h := h.2 hc
              clear hc
              refine lv_aload_n hx hb dX5_message_42 rfl (lv_at hl 0 rfl) ?_
              refine gf_X5_59 hx hb hta hown hK hP (am_wo (i := 43) (by decide) (am_s_model ca)) (am_fvr (j := 60) rfl) dX5_message_43 ?_
              refine lv_iload_n hx hb dX5_message_46 rfl (lv_at hl 1 rfl) ?_
              refine am_iald hx hb hK hP (i := 60) (by decide) (am_s_m_from ca) h dX5_message_47 (fun k3 hk3 h => ?_)
              refine lv_goto (tgt := 71) hx hb dX5_message_48 rfl ?_
              exact am_iret hx hb hr hK hN hP hS h hlocks dX5_message_71
          · replace h := h.2 hc
            clear hc
            refine lv_aload_n hx hb dX5_message_28 rfl (lv_at hl 0 rfl) ?_
            refine gf_X5_56 hx hb hta hown hK hP (am_wo (i := 43) (by decide) (am_s_model ca)) (am_fvr (j := 59) rfl) dX5_message_29 ?_
            refine lv_iload_n hx hb dX5_message_32 rfl (lv_at hl 1 rfl) ?_
            refine am_iald hx hb hK hP (i := 59) (by decide) (am_s_m_kinds ca) h dX5_message_33 (fun k4 hk4 h => ?_)
            refine lv_goto (tgt := 71) hx hb dX5_message_34 rfl ?_
            exact am_iret hx hb hr hK hN hP hS h hlocks dX5_message_71
        · replace h := h.2 hc
          clear hc
          refine lv_bipush (v := (-2)) hx hb dX5_message_21 rfl ?_
          exact am_iret hx hb hr hK hN hP hS h hlocks dX5_message_23
abbrev rmX5_forced : Room := { frames := 1, cells := 0, slots := 0, locals := 20 }
set_option maxHeartbeats 4000000 in
set_option maxRecDepth 100000 in
theorem c_X5_forced (l : Launch) (dC : Nat → ClassId) (dI : Nat → Nat → Nat) (ca : Nat → ClassId) (ad : Nat → Nat) (hI : am_inj ad) (M : am_M) (x1 : Int32) (Q : Int32 → am_M → Prop) (h : w_X5_forced M x1 Q) : Met l yX5_forced wsX5_forced rmX5_forced (va_Pc [.ref (ad 43), .int x1] (am_B dC dI ca ad M)) (am_Qi dC dI ca ad Q) 0 0 (am_A ad 63) := by
  refine Met.ofW (cc := cX5_forced) (maxL := 2) (ret := (some .int)) (by decide) rfl ?_
  intro p e s m args below meth c s₁ B hml hv
  obtain ⟨rfl, hP, hK, hN⟩ := hv
  have hx := B.exec
  have hb := B.bytes
  have hr := B.returns
  have hts := atoms_spec (ws := wsX5_forced) B.pre
  have hta : ∀ w ∈ am_all, w.before _ s = true := fun w hw => hts w (List.mem_cons_of_mem _ hw)
  have hown : s.vm.findClass RX5 = some m.cls := findClass_of_methodNamed B.named
  have hlocks := B.notSynchronized
  have hl := lv_entry ([.ref (ad 43), .int x1]) (n := 2) (Nat.le_of_ble_eq_true rfl)
  rw [lg_entry_eq]
  generalize (lg_sl ([.ref (ad 43), .int x1]) ++ List.replicate (2 - (lg_sl ([.ref (ad 43), .int x1])).length) Slot.unset).toArray = ls at hl ⊢
  have hl : lv_has ls 2 [(0, .ref (ad 43)), (1, .int x1)] := hl
  replace h := w_X5_forced_s h
  refine am_enter (A := am_A ad 63) hP (fun H locs hP hS => ?_)
  refine lv_iload_n hx hb dX5_forced_0 rfl (lv_at hl 1 rfl) ?_
  refine am_calli (va_runS (As := [.int x1]) (rest := []) ⟨hx, hb, hml, hown, hts⟩ (c_X5_noNode l dC dI ca ad hI M x1 _ h) ⟨callB_of 1 hts (am_gd mc_X5_noNode) rfl rfl rfl (hta _ mn_X5) (hta _ ml_X5_122) dc_X5_noNode ⟨Nat.le_of_ble_eq_true rfl, Nat.le_of_ble_eq_true rfl⟩, hta _ ms_X5_noNode⟩ (am_preS hK hN hP) rfl rfl hl.1 rfl (lv_room (Nat.le_of_ble_eq_true rfl)) dX5_forced_1 ⟨Nat.zero_le _, Nat.zero_le _⟩) hS (fun y2 M1 H locs hP hS h => ?_)
  refine lv_if_eq (tgt := 12) hx hb dX5_forced_4 rfl (fun hc => ?_) (fun hc => ?_)
  · replace h := h.1 hc
    clear hc
    refine lv_aload_n hx hb dX5_forced_12 rfl (lv_at hl 0 rfl) ?_
    refine gf_X5_13 hx hb hta hown hK hP (am_wo (i := 43) (by decide) (am_s_model ca)) (am_fvr (j := 45) rfl) dX5_forced_13 ?_
    refine lv_iload_n hx hb dX5_forced_16 rfl (lv_at hl 1 rfl) ?_
    refine am_iald hx hb hK hP (i := 45) (by decide) (am_s_m_forces ca) h dX5_forced_17 (fun k3 hk3 h => ?_)
    exact am_iret hx hb hr hK hN hP hS h hlocks dX5_forced_18
  · replace h := h.2 hc
    clear hc
    refine lv_bipush (v := (-2)) hx hb dX5_forced_7 rfl ?_
    refine lv_goto (tgt := 18) hx hb dX5_forced_9 rfl ?_
    exact am_iret hx hb hr hK hN hP hS h hlocks dX5_forced_18
