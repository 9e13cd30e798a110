/-! contracts -/
abbrev rmX5_noNode : Room := { frames := 0, cells := 0, slots := 0, locals := 0 }
set_option maxHeartbeats 4000000 in
set_option maxRecDepth 100000 in
theorem c_X5_noNode (l : Launch) (dC : Nat → ClassId) (dI : Nat → Nat → Nat) (ca : Nat → ClassId) (ad : Nat → Nat) (hI : am_inj ad) (M : am_M) (x1 : Int32) (Q : Int32 → am_M → Prop) (h : w_X5_noNode M x1 Q) : Met l yX5_noNode wsX5_noNode rmX5_noNode (va_Pc [.int x1] (am_B dC dI ca ad M)) (am_Qi dC dI ca ad Q) 0 0 (am_A ad 63) := by
  refine Met.ofW (cc := cX5_noNode) (maxL := 1) (ret := (some .boolean)) (by decide) rfl ?_
  intro p e s m args below meth c s₁ B hml hv
  obtain ⟨rfl, hP, hK, hN⟩ := hv
  have hx := B.exec
  have hb := B.bytes
  have hr := B.returns
  have hts := atoms_spec (ws := wsX5_noNode) B.pre
  have hta : ∀ w ∈ am_all, w.before _ s = true := fun w hw => hts w (List.mem_cons_of_mem _ hw)
  have hown : s.vm.findClass RX5 = some m.cls := findClass_of_methodNamed B.named
  have hlocks := B.notSynchronized
  have hl := lv_entry ([.int x1]) (n := 1) (Nat.le_of_ble_eq_true rfl)
  rw [lg_entry_eq]
  generalize (lg_sl ([.int x1]) ++ List.replicate (1 - (lg_sl ([.int x1])).length) Slot.unset).toArray = ls at hl ⊢
  have hl : lv_has ls 1 [(0, .int x1)] := hl
  replace h := w_X5_noNode_s h
  refine am_enter (A := am_A ad 63) hP (fun H locs hP hS => ?_)
  refine lv_iload_n hx hb dX5_noNode_0 rfl (lv_at hl 0 rfl) ?_
  refine lv_if_lt (tgt := 9) hx hb dX5_noNode_1 rfl (fun hc => ?_) (fun hc => ?_)
  · replace h := h.1 hc
    clear hc
    refine lv_iconst (v := (nI 1)) hx hb dX5_noNode_9 rfl ?_
    refine lv_goto (tgt := 14) hx hb dX5_noNode_10 rfl ?_
    exact am_zret hx hb hr (rfl) hK hN hP hS h hlocks dX5_noNode_14
  · replace h := h.2 hc
    clear hc
    refine lv_iload_n hx hb dX5_noNode_4 rfl (lv_at hl 0 rfl) ?_
    refine lv_iconst (v := (nI 3)) hx hb dX5_noNode_5 rfl ?_
    refine lv_icmp_le (tgt := 13) hx hb dX5_noNode_6 rfl (fun hc => ?_) (fun hc => ?_)
    · replace h := h.1 hc
      clear hc
      refine lv_iconst (v := (nI 0)) hx hb dX5_noNode_13 rfl ?_
      exact am_zret hx hb hr (rfl) hK hN hP hS h hlocks dX5_noNode_14
    · replace h := h.2 hc
      clear hc
      refine lv_iconst (v := (nI 1)) hx hb dX5_noNode_9 rfl ?_
      refine lv_goto (tgt := 14) hx hb dX5_noNode_10 rfl ?_
      exact am_zret hx hb hr (rfl) hK hN hP hS h hlocks dX5_noNode_14
abbrev rmX5_begin : Room := { frames := 1, cells := 0, slots := 0, locals := 20 }
set_option maxHeartbeats 4000000 in
set_option maxRecDepth 100000 in
theorem c_X5_begin (l : Launch) (dC : Nat → ClassId) (dI : Nat → Nat → Nat) (ca : Nat → ClassId) (ad : Nat → Nat) (hI : am_inj ad) (M : am_M) (x1 : Int32) (Q : Int32 → am_M → Prop) (h : w_X5_begin M x1 Q) : Met l yX5_begin wsX5_begin rmX5_begin (va_Pc [.ref (ad 43), .int x1] (am_B dC dI ca ad M)) (am_Qi dC dI ca ad Q) 0 0 (am_A ad 63) := by
  refine Met.ofW (cc := cX5_begin) (maxL := 2) (ret := (some .int)) (by decide) rfl ?_
  intro p e s m args below meth c s₁ B hml hv
  obtain ⟨rfl, hP, hK, hN⟩ := hv
  have hx := B.exec
  have hb := B.bytes
  have hr := B.returns
  have hts := atoms_spec (ws := wsX5_begin) B.pre
  have hta : ∀ w ∈ am_all, w.before _ s = true := fun w hw => hts w (List.mem_cons_of_mem _ hw)
  have hown : s.vm.findClass RX5 = some m.cls := findClass_of_methodNamed B.named
  have hlocks := B.notSynchronized
  have hl := lv_entry ([.ref (ad 43), .int x1]) (n := 2) (Nat.le_of_ble_eq_true rfl)
  rw [lg_entry_eq]
  generalize (lg_sl ([.ref (ad 43), .int x1]) ++ List.replicate (2 - (lg_sl ([.ref (ad 43), .int x1])).length) Slot.unset).toArray = ls at hl ⊢
  have hl : lv_has ls 2 [(0, .ref (ad 43)), (1, .int x1)] := hl
  replace h := w_X5_begin_s h
  refine am_enter (A := am_A ad 63) hP (fun H locs hP hS => ?_)
  refine lv_iload_n hx hb dX5_begin_0 rfl (lv_at hl 1 rfl) ?_
  refine am_calli (va_runS (As := [.int x1]) (rest := []) ⟨hx, hb, hml, hown, hts⟩ (c_X5_noNode l dC dI ca ad hI M x1 _ h) ⟨callB_of 1 hts (am_gd mc_X5_noNode) rfl rfl rfl (hta _ mn_X5) (hta _ ml_X5_122) dc_X5_noNode ⟨Nat.le_of_ble_eq_true rfl, Nat.le_of_ble_eq_true rfl⟩, hta _ ms_X5_noNode⟩ (am_preS hK hN hP) rfl rfl hl.1 rfl (lv_room (Nat.le_of_ble_eq_true rfl)) dX5_begin_1 ⟨Nat.zero_le _, Nat.zero_le _⟩) hS (fun y2 M1 H locs hP hS h => ?_)
  refine lv_if_eq (tgt := 10) hx hb dX5_begin_4 rfl (fun hc => ?_) (fun hc => ?_)
  · replace h := h.1 hc
    clear hc
    refine lv_aload_n hx hb dX5_begin_10 rfl (lv_at hl 0 rfl) ?_
    refine gf_X5_7 hx hb hta hown hK hP (am_wo (i := 43) (by decide) (am_s_model ca)) (am_fvr (j := 44) rfl) dX5_begin_11 ?_
    refine lv_iload_n hx hb dX5_begin_14 rfl (lv_at hl 1 rfl) ?_
    refine am_zald hx hb hK hP (i := 44) (by decide) (am_s_m_down ca) h dX5_begin_15 (fun k3 hk3 h => ?_)
    refine lv_if_eq (tgt := 22) hx hb dX5_begin_16 rfl (fun hc => ?_) (fun hc => ?_)
    · replace h := h.1 hc
      clear hc
      refine lv_aload_n hx hb dX5_begin_22 rfl (lv_at hl 0 rfl) ?_
      refine gf_X5_68 hx hb hta hown hK hP (am_wo (i := 43) (by decide) (am_s_model ca)) (am_fvi rfl) dX5_begin_23 ?_
      refine lv_bipush (v := (nI 10)) hx hb dX5_begin_26 rfl ?_
      refine lv_icmp_ne (tgt := 34) hx hb dX5_begin_28 rfl (fun hc => ?_) (fun hc => ?_)
      · replace h := h.1 hc
        clear hc
        refine lv_aload_n hx hb dX5_begin_34 rfl (lv_at hl 0 rfl) ?_
        refine gf_X5_17 hx hb hta hown hK hP (am_wo (i := 43) (by decide) (am_s_model ca)) (am_fvr (j := 46) rfl) dX5_begin_35 ?_
        refine lv_aload_n hx hb dX5_begin_38 rfl (lv_at hl 0 rfl) ?_
        refine gf_X5_68 hx hb hta hown hK hP (am_wo (i := 43) (by decide) (am_s_model ca)) (am_fvi rfl) dX5_begin_39 ?_
        refine lv_iload_n hx hb dX5_begin_42 rfl (lv_at hl 1 rfl) ?_
        refine am_iast hx hb hK hP hI hS (i := 46) (by decide) (am_s_m_chief ca) h dX5_begin_43 (fun M4 H locs hP hS h => ?_)
        refine lv_aload_n hx hb dX5_begin_44 rfl (lv_at hl 0 rfl) ?_
        refine gf_X5_20 hx hb hta hown hK hP (am_wo (i := 43) (by decide) (am_s_model ca)) (am_fvr (j := 47) rfl) dX5_begin_45 ?_
        refine lv_aload_n hx hb dX5_begin_48 rfl (lv_at hl 0 rfl) ?_
        refine gf_X5_68 hx hb hta hown hK hP (am_wo (i := 43) (by decide) (am_s_model ca)) (am_fvi rfl) dX5_begin_49 ?_
        refine lv_iconst (v := (nI 1)) hx hb dX5_begin_52 rfl ?_
        refine am_iast hx hb hK hP hI hS (i := 47) (by decide) (am_s_m_stages ca) h dX5_begin_53 (fun M5 H locs hP hS h => ?_)
        refine lv_aload_n hx hb dX5_begin_54 rfl (lv_at hl 0 rfl) ?_
        refine lv_dup hx hb dX5_begin_55 rfl ?_
        refine gf_X5_68 hx hb hta hown hK hP (am_wo (i := 43) (by decide) (am_s_model ca)) (am_fvi rfl) dX5_begin_56 ?_
        refine lv_iconst (v := (nI 1)) hx hb dX5_begin_59 rfl ?_
        refine lv_iadd hx hb dX5_begin_60 ?_
        refine pf_X5_68 hx hb hta hown hK hP hI hS (i := 43) (by decide) (am_s_model ca) h dX5_begin_61 (fun M6 H locs hP hS h => ?_)
        refine lv_aload_n hx hb dX5_begin_64 rfl (lv_at hl 0 rfl) ?_
        refine gf_X5_68 hx hb hta hown hK hP (am_wo (i := 43) (by decide) (am_s_model ca)) (am_fvi rfl) dX5_begin_65 ?_
        refine lv_iconst (v := (nI 1)) hx hb dX5_begin_68 rfl ?_
        refine lv_isub hx hb dX5_begin_69 ?_
        exact am_iret hx hb hr hK hN hP hS h hlocks dX5_begin_70
      · replace h := h.2 hc
        clear hc
        refine lv_bipush (v := (-5)) hx hb dX5_begin_31 rfl ?_
        exact am_iret hx hb hr hK hN hP hS h hlocks dX5_begin_33
    · replace h := h.2 hc
      clear hc
      refine lv_bipush (v := (-3)) hx hb dX5_begin_19 rfl ?_
      exact am_iret hx hb hr hK hN hP hS h hlocks dX5_begin_21
  · replace h := h.2 hc
    clear hc
    refine lv_bipush (v := (-2)) hx hb dX5_begin_7 rfl ?_
    exact am_iret hx hb hr hK hN hP hS h hlocks dX5_begin_9
abbrev rmX5_noWork : Room := { frames := 0, cells := 0, slots := 0, locals := 0 }
set_option maxHeartbeats 4000000 in
set_option maxRecDepth 100000 in
theorem c_X5_noWork (l : Launch) (dC : Nat → ClassId) (dI : Nat → Nat → Nat) (ca : Nat → ClassId) (ad : Nat → Nat) (hI : am_inj ad) (M : am_M) (x1 : Int32) (Q : Int32 → am_M → Prop) (h : w_X5_noWork M x1 Q) : Met l yX5_noWork wsX5_noWork rmX5_noWork (va_Pc [.ref (ad 43), .int x1] (am_B dC dI ca ad M)) (am_Qi dC dI ca ad Q) 0 0 (am_A ad 63) := by
  refine Met.ofW (cc := cX5_noWork) (maxL := 2) (ret := (some .boolean)) (by decide) rfl ?_
  intro p e s m args below meth c s₁ B hml hv
  obtain ⟨rfl, hP, hK, hN⟩ := hv
  have hx := B.exec
  have hb := B.bytes
  have hr := B.returns
  have hts := atoms_spec (ws := wsX5_noWork) B.pre
  have hta : ∀ w ∈ am_all, w.before _ s = true := fun w hw => hts w (List.mem_cons_of_mem _ hw)
  have hown : s.vm.findClass RX5 = some m.cls := findClass_of_methodNamed B.named
  have hlocks := B.notSynchronized
  have hl := lv_entry ([.ref (ad 43), .int x1]) (n := 2) (Nat.le_of_ble_eq_true rfl)
  rw [lg_entry_eq]
  generalize (lg_sl ([.ref (ad 43), .int x1]) ++ List.replicate (2 - (lg_sl ([.ref (ad 43), .int x1])).length) Slot.unset).toArray = ls at hl ⊢
  have hl : lv_has ls 2 [(0, .ref (ad 43)), (1, .int x1)] := hl
  replace h := w_X5_noWork_s h
  refine am_enter (A := am_A ad 63) hP (fun H locs hP hS => ?_)
  refine lv_iload_n hx hb dX5_noWork_0 rfl (lv_at hl 1 rfl) ?_
  refine lv_if_lt (tgt := 12) hx hb dX5_noWork_1 rfl (fun hc => ?_) (fun hc => ?_)
  · replace h := h.1 hc
    clear hc
    refine lv_iconst (v := (nI 1)) hx hb dX5_noWork_12 rfl ?_
    refine lv_goto (tgt := 17) hx hb dX5_noWork_13 rfl ?_
    exact am_zret hx hb hr (rfl) hK hN hP hS h hlocks dX5_noWork_17
  · replace h := h.2 hc
    clear hc
    refine lv_iload_n hx hb dX5_noWork_4 rfl (lv_at hl 1 rfl) ?_
    refine lv_aload_n hx hb dX5_noWork_5 rfl (lv_at hl 0 rfl) ?_
    refine gf_X5_68 hx hb hta hown hK hP (am_wo (i := 43) (by decide) (am_s_model ca)) (am_fvi rfl) dX5_noWork_6 ?_
    refine lv_icmp_lt (tgt := 16) hx hb dX5_noWork_9 rfl (fun hc => ?_) (fun hc => ?_)
    · replace h := h.1 hc
      clear hc
      refine lv_iconst (v := (nI 0)) hx hb dX5_noWork_16 rfl ?_
      exact am_zret hx hb hr (rfl) hK hN hP hS h hlocks dX5_noWork_17
    · replace h := h.2 hc
      clear hc
      refine lv_iconst (v := (nI 1)) hx hb dX5_noWork_12 rfl ?_
      refine lv_goto (tgt := 17) hx hb dX5_noWork_13 rfl ?_
      exact am_zret hx hb hr (rfl) hK hN hP hS h hlocks dX5_noWork_17
abbrev rmX5_work : Room := { frames := 1, cells := 0, slots := 0, locals := 21 }
set_option maxHeartbeats 4000000 in
set_option maxRecDepth 100000 in
theorem c_X5_work (l : Launch) (dC : Nat → ClassId) (dI : Nat → Nat → Nat) (ca : Nat → ClassId) (ad : Nat → Nat) (hI : am_inj ad) (M : am_M) (x1 : Int32) (x2 : Int32) (x3 : Int32) (Q : Int32 → am_M → Prop) (h : w_X5_work M x1 x2 x3 Q) : Met l yX5_work wsX5_work rmX5_work (va_Pc [.ref (ad 43), .int x1, .int x2, .int x3] (am_B dC dI ca ad M)) (am_Qi dC dI ca ad Q) 0 0 (am_A ad 63) := by
  refine Met.ofW (cc := cX5_work) (maxL := 6) (ret := (some .int)) (by decide) rfl ?_
  intro p e s m args below meth c s₁ B hml hv
  obtain ⟨rfl, hP, hK, hN⟩ := hv
  have hx := B.exec
  have hb := B.bytes
  have hr := B.returns
  have hts := atoms_spec (ws := wsX5_work) B.pre
  have hta : ∀ w ∈ am_all, w.before _ s = true := fun w hw => hts w (List.mem_cons_of_mem _ hw)
  have hown : s.vm.findClass RX5 = some m.cls := findClass_of_methodNamed B.named
  have hlocks := B.notSynchronized
  have hl := lv_entry ([.ref (ad 43), .int x1, .int x2, .int x3]) (n := 6) (Nat.le_of_ble_eq_true rfl)
  rw [lg_entry_eq]
  generalize (lg_sl ([.ref (ad 43), .int x1, .int x2, .int x3]) ++ List.replicate (6 - (lg_sl ([.ref (ad 43), .int x1, .int x2, .int x3])).length) Slot.unset).toArray = ls at hl ⊢
  have hl : lv_has ls 6 [(0, .ref (ad 43)), (1, .int x1), (2, .int x2), (3, .int x3)] := hl
  replace h := w_X5_work_s h
  have J163 : ∀ (M35 : am_M) (y30 : Int32) (y31 : Int32) (y32 : Int32) (y33 : Int32) (y34 : Int32) (ls : Array Slot) (H : Heap) (locs : List Loc), w_X5_work_J163 M35 y30 y31 y32 y33 y34 Q → va_P (dC, dI) vwCl (am_w ad (am_sh ca) 63 M35) H → va_S (am_A ad 63) s.heap H locs → lv_has ls 6 [(0, .ref (ad 43)), (1, .int y30), (2, .int y31), (3, .int y32), (4, .int y33), (5, .int y34)] → am_Wi p l e wsX5_work rmX5_work s m ([.ref (ad 43), .int x1, .int x2, .int x3] : List Value).toArray below meth c H locs dC dI ca ad Q (F0 m 163 ls []) := by
      intro M35 y30 y31 y32 y33 y34 ls H locs h hP hS hl
      replace h := w_X5_work_J163_s h
      refine lv_aload_n hx hb dX5_work_163 rfl (lv_at hl 0 rfl) ?_
      refine gf_X5_35 hx hb hta hown hK hP (am_wo (i := 43) (by decide) (am_s_model ca)) (am_fvr (j := 52) rfl) dX5_work_164 ?_
      refine lv_iload hx hb dX5_work_167 (lv_at hl 4 rfl) ?_
      refine am_iald hx hb hK hP (i := 52) (by decide) (am_s_m_states ca) h dX5_work_169 (fun k36 hk36 h => ?_)
      refine lv_iconst (v := (nI 2)) hx hb dX5_work_170 rfl ?_
      refine lv_icmp_ne (tgt := 176) hx hb dX5_work_171 rfl (fun hc => ?_) (fun hc => ?_)
      · replace h := h.1 hc
        clear hc
        refine lv_iload_n hx hb dX5_work_176 rfl (lv_at hl 3 rfl) ?_
        refine lv_if_lt (tgt := 194) hx hb dX5_work_177 rfl (fun hc => ?_) (fun hc => ?_)
        · replace h := h.1 hc
          clear hc
          refine lv_iconst (v := (nI 1)) hx hb dX5_work_194 rfl ?_
          exact am_iret hx hb hr hK hN hP hS h hlocks dX5_work_195
        · replace h := h.2 hc
          clear hc
          refine lv_aload_n hx hb dX5_work_180 rfl (lv_at hl 0 rfl) ?_
          refine gf_X5_38 hx hb hta hown hK hP (am_wo (i := 43) (by decide) (am_s_model ca)) (am_fvr (j := 53) rfl) dX5_work_181 ?_
          refine lv_bipush (v := (nI 8)) hx hb dX5_work_184 rfl ?_
          refine lv_iload_n hx hb dX5_work_186 rfl (lv_at hl 2 rfl) ?_
          refine lv_imul hx hb dX5_work_187 ?_
          refine lv_iload_n hx hb dX5_work_188 rfl (lv_at hl 3 rfl) ?_
          refine lv_iadd hx hb dX5_work_189 ?_
          refine lv_iload_n hx hb dX5_work_190 rfl (lv_at hl 1 rfl) ?_
          refine lv_iconst (v := (nI 1)) hx hb dX5_work_191 rfl ?_
          refine lv_iadd hx hb dX5_work_192 ?_
          refine am_iast hx hb hK hP hI hS (i := 53) (by decide) (am_s_m_held ca) h dX5_work_193 (fun M37 H locs hP hS h => ?_)
          refine lv_iconst (v := (nI 1)) hx hb dX5_work_194 rfl ?_
          exact am_iret hx hb hr hK hN hP hS h hlocks dX5_work_195
      · replace h := h.2 hc
        clear hc
        refine lv_iconst (v := (nI 0)) hx hb dX5_work_174 rfl ?_
        exact am_iret hx hb hr hK hN hP hS h hlocks dX5_work_175
  have J142 : ∀ (M29 : am_M) (y24 : Int32) (y25 : Int32) (y26 : Int32) (y27 : Int32) (y28 : Int32) (ls : Array Slot) (H : Heap) (locs : List Loc), w_X5_work_J142 M29 y24 y25 y26 y27 y28 Q → va_P (dC, dI) vwCl (am_w ad (am_sh ca) 63 M29) H → va_S (am_A ad 63) s.heap H locs → lv_has ls 6 [(0, .ref (ad 43)), (1, .int y24), (2, .int y25), (3, .int y26), (4, .int y27), (5, .int y28)] → am_Wi p l e wsX5_work rmX5_work s m ([.ref (ad 43), .int x1, .int x2, .int x3] : List Value).toArray below meth c H locs dC dI ca ad Q (F0 m 142 ls []) := by
      intro M29 y24 y25 y26 y27 y28 ls H locs h hP hS hl
      replace h := w_X5_work_J142_s h
      refine lv_iload hx hb dX5_work_142 (lv_at hl 5 rfl) ?_
      refine lv_if_eq (tgt := 163) hx hb dX5_work_144 rfl (fun hc => ?_) (fun hc => ?_)
      · replace h := h.1 hc
        clear hc
        exact J163 M29 y24 y25 y26 y27 y28 ls H locs h hP hS (lv_sub hl [0, 1, 2, 3, 4, 5] rfl)
      · replace h := h.2 hc
        clear hc
        refine lv_iload hx hb dX5_work_147 (lv_at hl 5 rfl) ?_
        refine lv_iload_n hx hb dX5_work_149 rfl (lv_at hl 1 rfl) ?_
        refine lv_iconst (v := (nI 1)) hx hb dX5_work_150 rfl ?_
        refine lv_iadd hx hb dX5_work_151 ?_
        refine lv_icmp_eq (tgt := 163) hx hb dX5_work_152 rfl (fun hc => ?_) (fun hc => ?_)
        · replace h := h.1 hc
          clear hc
          exact J163 M29 y24 y25 y26 y27 y28 ls H locs h hP hS (lv_sub hl [0, 1, 2, 3, 4, 5] rfl)
        · replace h := h.2 hc
          clear hc
          refine lv_aload_n hx hb dX5_work_155 rfl (lv_at hl 0 rfl) ?_
          refine gf_X5_35 hx hb hta hown hK hP (am_wo (i := 43) (by decide) (am_s_model ca)) (am_fvr (j := 52) rfl) dX5_work_156 ?_
          refine lv_iload hx hb dX5_work_159 (lv_at hl 4 rfl) ?_
          refine lv_iconst (v := (nI 2)) hx hb dX5_work_161 rfl ?_
          refine am_iast hx hb hK hP hI hS (i := 52) (by decide) (am_s_m_states ca) h dX5_work_162 (fun M38 H locs hP hS h => ?_)
          exact J163 M38 y24 y25 y26 y27 y28 ls H locs h hP hS (lv_sub hl [0, 1, 2, 3, 4, 5] rfl)
  have J121 : ∀ (M21 : am_M) (y17 : Int32) (y18 : Int32) (y19 : Int32) (y20 : Int32) (ls : Array Slot) (H : Heap) (locs : List Loc), w_X5_work_J121 M21 y17 y18 y19 y20 Q → va_P (dC, dI) vwCl (am_w ad (am_sh ca) 63 M21) H → va_S (am_A ad 63) s.heap H locs → lv_has ls 6 [(0, .ref (ad 43)), (1, .int y17), (2, .int y18), (3, .int y19), (4, .int y20)] → am_Wi p l e wsX5_work rmX5_work s m ([.ref (ad 43), .int x1, .int x2, .int x3] : List Value).toArray below meth c H locs dC dI ca ad Q (F0 m 121 ls []) := by
      intro M21 y17 y18 y19 y20 ls H locs h hP hS hl
      replace h := w_X5_work_J121_s h
      refine lv_iload_n hx hb dX5_work_121 rfl (lv_at hl 3 rfl) ?_
      refine lv_if_ge (tgt := 129) hx hb dX5_work_122 rfl (fun hc => ?_) (fun hc => ?_)
      · replace h := h.1 hc
        clear hc
        refine lv_aload_n hx hb dX5_work_129 rfl (lv_at hl 0 rfl) ?_
        refine gf_X5_38 hx hb hta hown hK hP (am_wo (i := 43) (by decide) (am_s_model ca)) (am_fvr (j := 53) rfl) dX5_work_130 ?_
        refine lv_bipush (v := (nI 8)) hx hb dX5_work_133 rfl ?_
        refine lv_iload_n hx hb dX5_work_135 rfl (lv_at hl 2 rfl) ?_
        refine lv_imul hx hb dX5_work_136 ?_
        refine lv_iload_n hx hb dX5_work_137 rfl (lv_at hl 3 rfl) ?_
        refine lv_iadd hx hb dX5_work_138 ?_
        refine am_iald hx hb hK hP (i := 53) (by decide) (am_s_m_held ca) h dX5_work_139 (fun k22 hk22 h => ?_)
        refine am_topi h (fun y23 h => ?_)
        refine lv_istore hx hb dX5_work_140 hl (by decide) rfl (fun ls hl => ?_)
        have hl : lv_has ls 6 [(5, .int y23), (0, .ref (ad 43)), (1, .int y17), (2, .int y18), (3, .int y19), (4, .int y20)] := hl
        exact J142 M21 y17 y18 y19 y20 y23 ls H locs h hP hS (lv_sub hl [1, 2, 3, 4, 5, 0] rfl)
      · replace h := h.2 hc
        clear hc
        refine lv_iconst (v := (nI 0)) hx hb dX5_work_125 rfl ?_
        refine lv_goto (tgt := 140) hx hb dX5_work_126 rfl ?_
        refine am_topi h (fun y39 h => ?_)
        refine lv_istore hx hb dX5_work_140 hl (by decide) rfl (fun ls hl => ?_)
        have hl : lv_has ls 6 [(5, .int y39), (0, .ref (ad 43)), (1, .int y17), (2, .int y18), (3, .int y19), (4, .int y20)] := hl
        exact J142 M21 y17 y18 y19 y20 y39 ls H locs h hP hS (lv_sub hl [1, 2, 3, 4, 5, 0] rfl)
  have J95 : ∀ (M15 : am_M) (y11 : Int32) (y12 : Int32) (y13 : Int32) (y14 : Int32) (ls : Array Slot) (H : Heap) (locs : List Loc), w_X5_work_J95 M15 y11 y12 y13 y14 Q → va_P (dC, dI) vwCl (am_w ad (am_sh ca) 63 M15) H → va_S (am_A ad 63) s.heap H locs → lv_has ls 6 [(0, .ref (ad 43)), (1, .int y11), (2, .int y12), (3, .int y13), (4, .int y14)] → am_Wi p l e wsX5_work rmX5_work s m ([.ref (ad 43), .int x1, .int x2, .int x3] : List Value).toArray below meth c H locs dC dI ca ad Q (F0 m 95 ls []) := by
      intro M15 y11 y12 y13 y14 ls H locs h hP hS hl
      replace h := w_X5_work_J95_s h
      refine lv_aload_n hx hb dX5_work_95 rfl (lv_at hl 0 rfl) ?_
      refine gf_X5_23 hx hb hta hown hK hP (am_wo (i := 43) (by decide) (am_s_model ca)) (am_fvr (j := 48) rfl) dX5_work_96 ?_
      refine lv_iload hx hb dX5_work_99 (lv_at hl 4 rfl) ?_
      refine am_zald hx hb hK hP (i := 48) (by decide) (am_s_m_member ca) h dX5_work_101 (fun k16 hk16 h => ?_)
      refine lv_if_ne (tgt := 121) hx hb dX5_work_102 rfl (fun hc => ?_) (fun hc => ?_)
      · replace h := h.1 hc
        clear hc
        exact J121 M15 y11 y12 y13 y14 ls H locs h hP hS (lv_sub hl [0, 1, 2, 3, 4] rfl)
      · replace h := h.2 hc
        clear hc
        refine lv_aload_n hx hb dX5_work_105 rfl (lv_at hl 0 rfl) ?_
        refine gf_X5_23 hx hb hta hown hK hP (am_wo (i := 43) (by decide) (am_s_model ca)) (am_fvr (j := 48) rfl) dX5_work_106 ?_
        refine lv_iload hx hb dX5_work_109 (lv_at hl 4 rfl) ?_
        refine lv_iconst (v := (nI 1)) hx hb dX5_work_111 rfl ?_
        refine am_zast hx hb hK hP hI hS (i := 48) (by decide) (am_s_m_member ca) h dX5_work_112 (fun M40 H locs hP hS h => ?_)
        refine lv_aload_n hx hb dX5_work_113 rfl (lv_at hl 0 rfl) ?_
        refine gf_X5_35 hx hb hta hown hK hP (am_wo (i := 43) (by decide) (am_s_model ca)) (am_fvr (j := 52) rfl) dX5_work_114 ?_
        refine lv_iload hx hb dX5_work_117 (lv_at hl 4 rfl) ?_
        refine lv_iconst (v := (nI 1)) hx hb dX5_work_119 rfl ?_
        refine am_iast hx hb hK hP hI hS (i := 52) (by decide) (am_s_m_states ca) h dX5_work_120 (fun M41 H locs hP hS h => ?_)
        exact J121 M41 y11 y12 y13 y14 ls H locs h hP hS (lv_sub hl [0, 1, 2, 3, 4] rfl)
  refine am_enter (A := am_A ad 63) hP (fun H locs hP hS => ?_)
  refine lv_aload_n hx hb dX5_work_0 rfl (lv_at hl 0 rfl) ?_
  refine lv_iload_n hx hb dX5_work_1 rfl (lv_at hl 1 rfl) ?_
  refine am_calli (va_runV (C := RX5) (As := [.int x1]) (rest := []) ⟨hx, hb, hml, hown, hts⟩ (c_X5_noWork l dC dI ca ad hI M x1 _ h) ⟨callB_of 1 hts (am_gd mc_X5_noWork) rfl rfl rfl (hta _ mn_X5) (hta _ ml_X5_126) dc_X5_noWork ⟨Nat.le_of_ble_eq_true rfl, Nat.le_of_ble_eq_true rfl⟩, hta _ mi_X5_noWork, hta _ me_X5_noWork⟩ (am_preV (q := (RX5, TX5, 21)) hK hN hP rfl (by decide) (am_s_model ca)) rfl rfl hl.1 rfl (lv_room (Nat.le_of_ble_eq_true rfl)) dX5_work_2 ⟨Nat.zero_le _, Nat.zero_le _⟩) hS (fun y2 M1 H locs hP hS h => ?_)
  refine lv_if_ne (tgt := 26) hx hb dX5_work_5 rfl (fun hc => ?_) (fun hc => ?_)
  · replace h := h.1 hc
    clear hc
    refine lv_bipush (v := (-2)) hx hb dX5_work_26 rfl ?_
    exact am_iret hx hb hr hK hN hP hS h hlocks dX5_work_28
  · replace h := h.2 hc
    clear hc
    refine lv_iload_n hx hb dX5_work_8 rfl (lv_at hl 2 rfl) ?_
    refine am_calli (va_runS (As := [.int x2]) (rest := []) ⟨hx, hb, hml, hown, hts⟩ (c_X5_noNode l dC dI ca ad hI M1 x2 _ h) ⟨callB_of 1 hts (am_gd mc_X5_noNode) rfl rfl rfl (hta _ mn_X5) (hta _ ml_X5_122) dc_X5_noNode ⟨Nat.le_of_ble_eq_true rfl, Nat.le_of_ble_eq_true rfl⟩, hta _ ms_X5_noNode⟩ (am_preS hK hN hP) rfl rfl hl.1 rfl (lv_room (Nat.le_of_ble_eq_true rfl)) dX5_work_9 ⟨Nat.zero_le _, Nat.zero_le _⟩) hS (fun y4 M3 H locs hP hS h => ?_)
    refine lv_if_ne (tgt := 26) hx hb dX5_work_12 rfl (fun hc => ?_) (fun hc => ?_)
    · replace h := h.1 hc
      clear hc
      refine lv_bipush (v := (-2)) hx hb dX5_work_26 rfl ?_
      exact am_iret hx hb hr hK hN hP hS h hlocks dX5_work_28
    · replace h := h.2 hc
      clear hc
      refine lv_iload_n hx hb dX5_work_15 rfl (lv_at hl 3 rfl) ?_
      refine lv_iconst (v := (-1)) hx hb dX5_work_16 rfl ?_
      refine lv_icmp_lt (tgt := 26) hx hb dX5_work_17 rfl (fun hc => ?_) (fun hc => ?_)
      · replace h := h.1 hc
        clear hc
        refine lv_bipush (v := (-2)) hx hb dX5_work_26 rfl ?_
        exact am_iret hx hb hr hK hN hP hS h hlocks dX5_work_28
      · replace h := h.2 hc
        clear hc
        refine lv_iload_n hx hb dX5_work_20 rfl (lv_at hl 3 rfl) ?_
        refine lv_bipush (v := (nI 7)) hx hb dX5_work_21 rfl ?_
        refine lv_icmp_le (tgt := 29) hx hb dX5_work_23 rfl (fun hc => ?_) (fun hc => ?_)
        · replace h := h.1 hc
          clear hc
          refine lv_iconst (v := (nI 4)) hx hb dX5_work_29 rfl ?_
          refine lv_iload_n hx hb dX5_work_30 rfl (lv_at hl 1 rfl) ?_
          refine lv_imul hx hb dX5_work_31 ?_
          refine lv_iload_n hx hb dX5_work_32 rfl (lv_at hl 2 rfl) ?_
          refine lv_iadd hx hb dX5_work_33 ?_
          refine am_topi h (fun y5 h => ?_)
          refine lv_istore hx hb dX5_work_34 hl (by decide) rfl (fun ls hl => ?_)
          have hl : lv_has ls 6 [(4, .int y5), (0, .ref (ad 43)), (1, .int x1), (2, .int x2), (3, .int x3)] := hl
          refine lv_aload_n hx hb dX5_work_36 rfl (lv_at hl 1 rfl) ?_
          refine gf_X5_7 hx hb hta hown hK hP (am_wo (i := 43) (by decide) (am_s_model ca)) (am_fvr (j := 44) rfl) dX5_work_37 ?_
          refine lv_iload_n hx hb dX5_work_40 rfl (lv_at hl 3 rfl) ?_
          refine am_zald hx hb hK hP (i := 44) (by decide) (am_s_m_down ca) h dX5_work_41 (fun k6 hk6 h => ?_)
          refine lv_if_ne (tgt := 59) hx hb dX5_work_42 rfl (fun hc => ?_) (fun hc => ?_)
          · replace h := h.1 hc
            clear hc
            refine lv_bipush (v := (-3)) hx hb dX5_work_59 rfl ?_
            exact am_iret hx hb hr hK hN hP hS h hlocks dX5_work_61
          · replace h := h.2 hc
            clear hc
            refine lv_aload_n hx hb dX5_work_45 rfl (lv_at hl 1 rfl) ?_
            refine gf_X5_7 hx hb hta hown hK hP (am_wo (i := 43) (by decide) (am_s_model ca)) (am_fvr (j := 44) rfl) dX5_work_46 ?_
            refine lv_aload_n hx hb dX5_work_49 rfl (lv_at hl 1 rfl) ?_
            refine gf_X5_17 hx hb hta hown hK hP (am_wo (i := 43) (by decide) (am_s_model ca)) (am_fvr (j := 46) rfl) dX5_work_50 ?_
            refine lv_iload_n hx hb dX5_work_53 rfl (lv_at hl 2 rfl) ?_
            refine am_iald hx hb hK hP (i := 46) (by decide) (am_s_m_chief ca) h dX5_work_54 (fun k7 hk7 h => ?_)
            refine am_zald hx hb hK hP (i := 44) (by decide) (am_s_m_down ca) h dX5_work_55 (fun k8 hk8 h => ?_)
            refine lv_if_eq (tgt := 62) hx hb dX5_work_56 rfl (fun hc => ?_) (fun hc => ?_)
            · replace h := h.1 hc
              clear hc
              refine lv_aload_n hx hb dX5_work_62 rfl (lv_at hl 1 rfl) ?_
              refine gf_X5_20 hx hb hta hown hK hP (am_wo (i := 43) (by decide) (am_s_model ca)) (am_fvr (j := 47) rfl) dX5_work_63 ?_
              refine lv_iload_n hx hb dX5_work_66 rfl (lv_at hl 2 rfl) ?_
              refine am_iald hx hb hK hP (i := 47) (by decide) (am_s_m_stages ca) h dX5_work_67 (fun k9 hk9 h => ?_)
              refine lv_iconst (v := (nI 1)) hx hb dX5_work_68 rfl ?_
              refine lv_icmp_ne (tgt := 92) hx hb dX5_work_69 rfl (fun hc => ?_) (fun hc => ?_)
              · replace h := h.1 hc
                clear hc
                refine lv_bipush (v := (-4)) hx hb dX5_work_92 rfl ?_
                exact am_iret hx hb hr hK hN hP hS h hlocks dX5_work_94
              · replace h := h.2 hc
                clear hc
                refine lv_aload_n hx hb dX5_work_72 rfl (lv_at hl 1 rfl) ?_
                refine gf_X5_23 hx hb hta hown hK hP (am_wo (i := 43) (by decide) (am_s_model ca)) (am_fvr (j := 48) rfl) dX5_work_73 ?_
                refine lv_iload hx hb dX5_work_76 (lv_at hl 0 rfl) ?_
                refine am_zald hx hb hK hP (i := 48) (by decide) (am_s_m_member ca) h dX5_work_78 (fun k10 hk10 h => ?_)
                refine lv_if_eq (tgt := 95) hx hb dX5_work_79 rfl (fun hc => ?_) (fun hc => ?_)
                · replace h := h.1 hc
                  clear hc
                  exact J95 M3 x1 x2 x3 y5 ls H locs h hP hS (lv_sub hl [1, 2, 3, 4, 0] rfl)
                · replace h := h.2 hc
                  clear hc
                  refine lv_aload_n hx hb dX5_work_82 rfl (lv_at hl 1 rfl) ?_
                  refine gf_X5_35 hx hb hta hown hK hP (am_wo (i := 43) (by decide) (am_s_model ca)) (am_fvr (j := 52) rfl) dX5_work_83 ?_
                  refine lv_iload hx hb dX5_work_86 (lv_at hl 0 rfl) ?_
                  refine am_iald hx hb hK hP (i := 52) (by decide) (am_s_m_states ca) h dX5_work_88 (fun k42 hk42 h => ?_)
                  refine lv_if_ne (tgt := 95) hx hb dX5_work_89 rfl (fun hc => ?_) (fun hc => ?_)
                  · replace h := h.1 hc
                    clear hc
                    exact J95 M3 x1 x2 x3 y5 ls H locs h hP hS (lv_sub hl [1, 2, 3, 4, 0] rfl)
                  · replace h := h.2 hc
                    clear hc
                    refine lv_bipush (v := (-4)) hx hb dX5_work_92 rfl ?_
                    exact am_iret hx hb hr hK hN hP hS h hlocks dX5_work_94
            · replace h := h.2 hc
              clear hc
              refine lv_bipush (v := (-3)) hx hb dX5_work_59 rfl ?_
              exact am_iret hx hb hr hK hN hP hS h hlocks dX5_work_61
        · replace h := h.2 hc
          clear hc
          refine lv_bipush (v := (-2)) hx hb dX5_work_26 rfl ?_
          exact am_iret hx hb hr hK hN hP hS h hlocks dX5_work_28
abbrev rmX5_send : Room := { frames := 0, cells := 0, slots := 0, locals := 0 }
set_option maxHeartbeats 4000000 in
set_option maxRecDepth 100000 in
theorem c_X5_send (l : Launch) (dC : Nat → ClassId) (dI : Nat → Nat → Nat) (ca : Nat → ClassId) (ad : Nat → Nat) (hI : am_inj ad) (M : am_M) (x1 : Int32) (x2 : Int32) (x3 : Int32) (x4 : Int32) (Q : am_M → Prop) (h : w_X5_send M x1 x2 x3 x4 Q) : Met l yX5_send wsX5_send rmX5_send (va_Pc [.ref (ad 43), .int x1, .int x2, .int x3, .int x4] (am_B dC dI ca ad M)) (am_Qv dC dI ca ad Q) 0 0 (am_A ad 63) := by
  refine Met.ofW (cc := cX5_send) (maxL := 5) (ret := none) (by decide) rfl ?_
  intro p e s m args below meth c s₁ B hml hv
  obtain ⟨rfl, hP, hK, hN⟩ := hv
  have hx := B.exec
  have hb := B.bytes
  have hr := B.returns
  have hts := atoms_spec (ws := wsX5_send) B.pre
  have hta : ∀ w ∈ am_all, w.before _ s = true := fun w hw => hts w (List.mem_cons_of_mem _ hw)
  have hown : s.vm.findClass RX5 = some m.cls := findClass_of_methodNamed B.named
  have hlocks := B.notSynchronized
  have hl := lv_entry ([.ref (ad 43), .int x1, .int x2, .int x3, .int x4]) (n := 5) (Nat.le_of_ble_eq_true rfl)
  rw [lg_entry_eq]
  generalize (lg_sl ([.ref (ad 43), .int x1, .int x2, .int x3, .int x4]) ++ List.replicate (5 - (lg_sl ([.ref (ad 43), .int x1, .int x2, .int x3, .int x4])).length) Slot.unset).toArray = ls at hl ⊢
  have hl : lv_has ls 5 [(0, .ref (ad 43)), (1, .int x1), (2, .int x2), (3, .int x3), (4, .int x4)] := hl
  replace h := w_X5_send_s h
  refine am_enter (A := am_A ad 63) hP (fun H locs hP hS => ?_)
  refine lv_aload_n hx hb dX5_send_0 rfl (lv_at hl 0 rfl) ?_
  refine gf_X5_72 hx hb hta hown hK hP (am_wo (i := 43) (by decide) (am_s_model ca)) (am_fvi rfl) dX5_send_1 ?_
  refine lv_bipush (v := (nI 40)) hx hb dX5_send_4 rfl ?_
  refine lv_icmp_ge (tgt := 60) hx hb dX5_send_6 rfl (fun hc => ?_) (fun hc => ?_)
  · replace h := h.1 hc
    clear hc
    exact am_vret hx hb hr hK hN hP hS h hlocks dX5_send_60
  · replace h := h.2 hc
    clear hc
    refine lv_aload_n hx hb dX5_send_9 rfl (lv_at hl 0 rfl) ?_
    refine gf_X5_56 hx hb hta hown hK hP (am_wo (i := 43) (by decide) (am_s_model ca)) (am_fvr (j := 59) rfl) dX5_send_10 ?_
    refine lv_aload_n hx hb dX5_send_13 rfl (lv_at hl 0 rfl) ?_
    refine gf_X5_72 hx hb hta hown hK hP (am_wo (i := 43) (by decide) (am_s_model ca)) (am_fvi rfl) dX5_send_14 ?_
    refine lv_iload_n hx hb dX5_send_17 rfl (lv_at hl 1 rfl) ?_
    refine am_iast hx hb hK hP hI hS (i := 59) (by decide) (am_s_m_kinds ca) h dX5_send_18 (fun M1 H locs hP hS h => ?_)
    refine lv_aload_n hx hb dX5_send_19 rfl (lv_at hl 0 rfl) ?_
    refine gf_X5_59 hx hb hta hown hK hP (am_wo (i := 43) (by decide) (am_s_model ca)) (am_fvr (j := 60) rfl) dX5_send_20 ?_
    refine lv_aload_n hx hb dX5_send_23 rfl (lv_at hl 0 rfl) ?_
    refine gf_X5_72 hx hb hta hown hK hP (am_wo (i := 43) (by decide) (am_s_model ca)) (am_fvi rfl) dX5_send_24 ?_
    refine lv_iload_n hx hb dX5_send_27 rfl (lv_at hl 2 rfl) ?_
    refine am_iast hx hb hK hP hI hS (i := 60) (by decide) (am_s_m_from ca) h dX5_send_28 (fun M2 H locs hP hS h => ?_)
    refine lv_aload_n hx hb dX5_send_29 rfl (lv_at hl 0 rfl) ?_
    refine gf_X5_62 hx hb hta hown hK hP (am_wo (i := 43) (by decide) (am_s_model ca)) (am_fvr (j := 61) rfl) dX5_send_30 ?_
    refine lv_aload_n hx hb dX5_send_33 rfl (lv_at hl 0 rfl) ?_
    refine gf_X5_72 hx hb hta hown hK hP (am_wo (i := 43) (by decide) (am_s_model ca)) (am_fvi rfl) dX5_send_34 ?_
    refine lv_iload_n hx hb dX5_send_37 rfl (lv_at hl 3 rfl) ?_
    refine am_iast hx hb hK hP hI hS (i := 61) (by decide) (am_s_m_to ca) h dX5_send_38 (fun M3 H locs hP hS h => ?_)
    refine lv_aload_n hx hb dX5_send_39 rfl (lv_at hl 0 rfl) ?_
    refine gf_X5_65 hx hb hta hown hK hP (am_wo (i := 43) (by decide) (am_s_model ca)) (am_fvr (j := 62) rfl) dX5_send_40 ?_
    refine lv_aload_n hx hb dX5_send_43 rfl (lv_at hl 0 rfl) ?_
    refine gf_X5_72 hx hb hta hown hK hP (am_wo (i := 43) (by decide) (am_s_model ca)) (am_fvi rfl) dX5_send_44 ?_
    refine lv_iload hx hb dX5_send_47 (lv_at hl 4 rfl) ?_
    refine am_iast hx hb hK hP hI hS (i := 62) (by decide) (am_s_m_about ca) h dX5_send_49 (fun M4 H locs hP hS h => ?_)
    refine lv_aload_n hx hb dX5_send_50 rfl (lv_at hl 0 rfl) ?_
    refine lv_dup hx hb dX5_send_51 rfl ?_
    refine gf_X5_72 hx hb hta hown hK hP (am_wo (i := 43) (by decide) (am_s_model ca)) (am_fvi rfl) dX5_send_52 ?_
    refine lv_iconst (v := (nI 1)) hx hb dX5_send_55 rfl ?_
    refine lv_iadd hx hb dX5_send_56 ?_
    refine pf_X5_72 hx hb hta hown hK hP hI hS (i := 43) (by decide) (am_s_model ca) h dX5_send_57 (fun M5 H locs hP hS h => ?_)
    exact am_vret hx hb hr hK hN hP hS h hlocks dX5_send_60
abbrev rmX5_forget : Room := { frames := 0, cells := 0, slots := 0, locals := 0 }
set_option maxHeartbeats 4000000 in
set_option maxRecDepth 100000 in
theorem c_X5_forget (l : Launch) (dC : Nat → ClassId) (dI : Nat → Nat → Nat) (ca : Nat → ClassId) (ad : Nat → Nat) (hI : am_inj ad) (M : am_M) (x1 : Int32) (Q : am_M → Prop) (h : w_X5_forget M x1 Q) : Met l yX5_forget wsX5_forget rmX5_forget (va_Pc [.ref (ad 43), .int x1] (am_B dC dI ca ad M)) (am_Qv dC dI ca ad Q) 0 0 (am_A ad 63) := by
  refine Met.ofW (cc := cX5_forget) (maxL := 3) (ret := none) (by decide) rfl ?_
  intro p e s m args below meth c s₁ B hml hv
  obtain ⟨rfl, hP, hK, hN⟩ := hv
  have hx := B.exec
  have hb := B.bytes
  have hr := B.returns
  have hts := atoms_spec (ws := wsX5_forget) B.pre
  have hta : ∀ w ∈ am_all, w.before _ s = true := fun w hw => hts w (List.mem_cons_of_mem _ hw)
  have hown : s.vm.findClass RX5 = some m.cls := findClass_of_methodNamed B.named
  have hlocks := B.notSynchronized
  have hl := lv_entry ([.ref (ad 43), .int x1]) (n := 3) (Nat.le_of_ble_eq_true rfl)
  rw [lg_entry_eq]
  generalize (lg_sl ([.ref (ad 43), .int x1]) ++ List.replicate (3 - (lg_sl ([.ref (ad 43), .int x1])).length) Slot.unset).toArray = ls at hl ⊢
  have hl : lv_has ls 3 [(0, .ref (ad 43)), (1, .int x1)] := hl
  replace h := w_X5_forget_s h
  refine am_enter (A := am_A ad 63) hP (fun H locs hP hS => ?_)
  refine lv_aload_n hx hb dX5_forget_0 rfl (lv_at hl 0 rfl) ?_
  refine gf_X5_20 hx hb hta hown hK hP (am_wo (i := 43) (by decide) (am_s_model ca)) (am_fvr (j := 47) rfl) dX5_forget_1 ?_
  refine lv_iload_n hx hb dX5_forget_4 rfl (lv_at hl 1 rfl) ?_
  refine lv_iconst (v := (nI 0)) hx hb dX5_forget_5 rfl ?_
  refine am_iast hx hb hK hP hI hS (i := 47) (by decide) (am_s_m_stages ca) h dX5_forget_6 (fun M1 H locs hP hS h => ?_)
  refine lv_iconst (v := (nI 0)) hx hb dX5_forget_7 rfl ?_
  refine am_topi h (fun y2 h => ?_)
  refine lv_istore_n hx hb dX5_forget_8 rfl hl (by decide) rfl (fun ls hl => ?_)
  have hl : lv_has ls 3 [(2, .int y2), (0, .ref (ad 43)), (1, .int x1)] := hl
  obtain ⟨f9, h⟩ := h
  have key9 : ∀ (K : am_M → Int32 → Prop), (∀ (M4 : am_M) (z3 : Int32) (ls : Array Slot) (H : Heap) (locs : List Loc), K M4 z3 → va_P (dC, dI) vwCl (am_w ad (am_sh ca) 63 M4) H → va_S (am_A ad 63) s.heap H locs → lv_has ls 3 [(2, .int z3), (0, .ref (ad 43)), (1, .int x1)] → am_Wv p l e wsX5_forget rmX5_forget s m ([.ref (ad 43), .int x1] : List Value).toArray below meth c H locs dC dI ca ad Q (F0 m 64 ls [])) → ∀ (f9 : Nat) (M4 : am_M) (z3 : Int32) (ls : Array Slot) (H : Heap) (locs : List Loc), w_X5_forget_L9 x1 Q K f9 M4 z3 → va_P (dC, dI) vwCl (am_w ad (am_sh ca) 63 M4) H → va_S (am_A ad 63) s.heap H locs → lv_has ls 3 [(2, .int z3), (0, .ref (ad 43)), (1, .int x1)] → am_Wv p l e wsX5_forget rmX5_forget s m ([.ref (ad 43), .int x1] : List Value).toArray below meth c H locs dC dI ca ad Q (F0 m 9 ls []) := by
    intro K hex9 f9
    induction f9 with
    | zero => intro _ _ _ _ _ h; exact False.elim h
    | succ f9 ih9 =>
      intro M4 z3 ls H locs h hP hS hl
      replace h := w_X5_forget_L9_s h
      refine lv_iload_n hx hb dX5_forget_9 rfl (lv_at hl 0 rfl) ?_
      refine lv_iconst (v := (nI 4)) hx hb dX5_forget_10 rfl ?_
      refine lv_icmp_ge (tgt := 64) hx hb dX5_forget_11 rfl (fun hc => ?_) (fun hc => ?_)
      · replace h := h.1 hc
        clear hc
        exact hex9 M4 z3 ls H locs h hP hS (lv_sub hl [0, 1, 2] rfl)
      · replace h := h.2 hc
        clear hc
        refine lv_aload_n hx hb dX5_forget_14 rfl (lv_at hl 1 rfl) ?_
        refine gf_X5_23 hx hb hta hown hK hP (am_wo (i := 43) (by decide) (am_s_model ca)) (am_fvr (j := 48) rfl) dX5_forget_15 ?_
        refine lv_iconst (v := (nI 4)) hx hb dX5_forget_18 rfl ?_
        refine lv_iload_n hx hb dX5_forget_19 rfl (lv_at hl 2 rfl) ?_
        refine lv_imul hx hb dX5_forget_20 ?_
        refine lv_iload_n hx hb dX5_forget_21 rfl (lv_at hl 0 rfl) ?_
        refine lv_iadd hx hb dX5_forget_22 ?_
        refine lv_iconst (v := (nI 0)) hx hb dX5_forget_23 rfl ?_
        refine am_zast hx hb hK hP hI hS (i := 48) (by decide) (am_s_m_member ca) h dX5_forget_24 (fun M5 H locs hP hS h => ?_)
        refine lv_aload_n hx hb dX5_forget_25 rfl (lv_at hl 1 rfl) ?_
        refine gf_X5_26 hx hb hta hown hK hP (am_wo (i := 43) (by decide) (am_s_model ca)) (am_fvr (j := 49) rfl) dX5_forget_26 ?_
        refine lv_iconst (v := (nI 4)) hx hb dX5_forget_29 rfl ?_
        refine lv_iload_n hx hb dX5_forget_30 rfl (lv_at hl 2 rfl) ?_
        refine lv_imul hx hb dX5_forget_31 ?_
        refine lv_iload_n hx hb dX5_forget_32 rfl (lv_at hl 0 rfl) ?_
        refine lv_iadd hx hb dX5_forget_33 ?_
        refine lv_iconst (v := (nI 0)) hx hb dX5_forget_34 rfl ?_
        refine am_zast hx hb hK hP hI hS (i := 49) (by decide) (am_s_m_yes ca) h dX5_forget_35 (fun M6 H locs hP hS h => ?_)
        refine lv_aload_n hx hb dX5_forget_36 rfl (lv_at hl 1 rfl) ?_
        refine gf_X5_29 hx hb hta hown hK hP (am_wo (i := 43) (by decide) (am_s_model ca)) (am_fvr (j := 50) rfl) dX5_forget_37 ?_
        refine lv_iconst (v := (nI 4)) hx hb dX5_forget_40 rfl ?_
        refine lv_iload_n hx hb dX5_forget_41 rfl (lv_at hl 2 rfl) ?_
        refine lv_imul hx hb dX5_forget_42 ?_
        refine lv_iload_n hx hb dX5_forget_43 rfl (lv_at hl 0 rfl) ?_
        refine lv_iadd hx hb dX5_forget_44 ?_
        refine lv_iconst (v := (nI 0)) hx hb dX5_forget_45 rfl ?_
        refine am_zast hx hb hK hP hI hS (i := 50) (by decide) (am_s_m_read ca) h dX5_forget_46 (fun M7 H locs hP hS h => ?_)
        refine lv_aload_n hx hb dX5_forget_47 rfl (lv_at hl 1 rfl) ?_
        refine gf_X5_32 hx hb hta hown hK hP (am_wo (i := 43) (by decide) (am_s_model ca)) (am_fvr (j := 51) rfl) dX5_forget_48 ?_
        refine lv_iconst (v := (nI 4)) hx hb dX5_forget_51 rfl ?_
        refine lv_iload_n hx hb dX5_forget_52 rfl (lv_at hl 2 rfl) ?_
        refine lv_imul hx hb dX5_forget_53 ?_
        refine lv_iload_n hx hb dX5_forget_54 rfl (lv_at hl 0 rfl) ?_
        refine lv_iadd hx hb dX5_forget_55 ?_
        refine lv_iconst (v := (nI 0)) hx hb dX5_forget_56 rfl ?_
        refine am_zast hx hb hK hP hI hS (i := 51) (by decide) (am_s_m_due ca) h dX5_forget_57 (fun M8 H locs hP hS h => ?_)
        refine am_iinc (k := 0) (d := nI 1) hx hb dX5_forget_58 hl rfl rfl (by decide) h (fun y9 ls h hl => ?_)
        have hl : lv_has ls 3 [(2, .int y9), (0, .ref (ad 43)), (1, .int x1)] := hl
        refine lv_goto (tgt := 9) hx hb dX5_forget_61 rfl ?_
        exact ih9 M8 y9 ls H locs h hP hS (lv_sub hl [0, 1, 2] rfl)
  refine key9 _ ?_ f9 M1 y2 ls H locs h hP hS hl
  intro M10 z11 ls H locs h hP hS hl
  exact am_vret hx hb hr hK hN hP hS h hlocks dX5_forget_64
abbrev rmX5_commit : Room := { frames := 1, cells := 0, slots := 0, locals := 24 }
set_option maxHeartbeats 4000000 in
set_option maxRecDepth 100000 in
theorem c_X5_commit (l : Launch) (dC : Nat → ClassId) (dI : Nat → Nat → Nat) (ca : Nat → ClassId) (ad : Nat → Nat) (hI : am_inj ad) (M : am_M) (x1 : Int32) (Q : Int32 → am_M → Prop) (h : w_X5_commit M x1 Q) : Met l yX5_commit wsX5_commit rmX5_commit (va_Pc [.ref (ad 43), .int x1] (am_B dC dI ca ad M)) (am_Qi dC dI ca ad Q) 0 0 (am_A ad 63) := by
  refine Met.ofW (cc := cX5_commit) (maxL := 4) (ret := (some .int)) (by decide) rfl ?_
  intro p e s m args below meth c s₁ B hml hv
  obtain ⟨rfl, hP, hK, hN⟩ := hv
  have hx := B.exec
  have hb := B.bytes
  have hr := B.returns
  have hts := atoms_spec (ws := wsX5_commit) B.pre
  have hta : ∀ w ∈ am_all, w.before _ s = true := fun w hw => hts w (List.mem_cons_of_mem _ hw)
  have hown : s.vm.findClass RX5 = some m.cls := findClass_of_methodNamed B.named
  have hlocks := B.notSynchronized
  have hl := lv_entry ([.ref (ad 43), .int x1]) (n := 4) (Nat.le_of_ble_eq_true rfl)
  rw [lg_entry_eq]
  generalize (lg_sl ([.ref (ad 43), .int x1]) ++ List.replicate (4 - (lg_sl ([.ref (ad 43), .int x1])).length) Slot.unset).toArray = ls at hl ⊢
  have hl : lv_has ls 4 [(0, .ref (ad 43)), (1, .int x1)] := hl
  replace h := w_X5_commit_s h
  refine am_enter (A := am_A ad 63) hP (fun H locs hP hS => ?_)
  refine lv_aload_n hx hb dX5_commit_0 rfl (lv_at hl 0 rfl) ?_
  refine lv_iload_n hx hb dX5_commit_1 rfl (lv_at hl 1 rfl) ?_
  refine am_calli (va_runV (C := RX5) (As := [.int x1]) (rest := []) ⟨hx, hb, hml, hown, hts⟩ (c_X5_noWork l dC dI ca ad hI M x1 _ h) ⟨callB_of 1 hts (am_gd mc_X5_noWork) rfl rfl rfl (hta _ mn_X5) (hta _ ml_X5_126) dc_X5_noWork ⟨Nat.le_of_ble_eq_true rfl, Nat.le_of_ble_eq_true rfl⟩, hta _ mi_X5_noWork, hta _ me_X5_noWork⟩ (am_preV (q := (RX5, TX5, 21)) hK hN hP rfl (by decide) (am_s_model ca)) rfl rfl hl.1 rfl (lv_room (Nat.le_of_ble_eq_true rfl)) dX5_commit_2 ⟨Nat.zero_le _, Nat.zero_le _⟩) hS (fun y2 M1 H locs hP hS h => ?_)
  refine lv_if_eq (tgt := 11) hx hb dX5_commit_5 rfl (fun hc => ?_) (fun hc => ?_)
  · replace h := h.1 hc
    clear hc
    refine lv_aload_n hx hb dX5_commit_11 rfl (lv_at hl 0 rfl) ?_
    refine gf_X5_7 hx hb hta hown hK hP (am_wo (i := 43) (by decide) (am_s_model ca)) (am_fvr (j := 44) rfl) dX5_commit_12 ?_
    refine lv_aload_n hx hb dX5_commit_15 rfl (lv_at hl 0 rfl) ?_
    refine gf_X5_17 hx hb hta hown hK hP (am_wo (i := 43) (by decide) (am_s_model ca)) (am_fvr (j := 46) rfl) dX5_commit_16 ?_
    refine lv_iload_n hx hb dX5_commit_19 rfl (lv_at hl 1 rfl) ?_
    refine am_iald hx hb hK hP (i := 46) (by decide) (am_s_m_chief ca) h dX5_commit_20 (fun k3 hk3 h => ?_)
    refine am_zald hx hb hK hP (i := 44) (by decide) (am_s_m_down ca) h dX5_commit_21 (fun k4 hk4 h => ?_)
    refine lv_if_eq (tgt := 28) hx hb dX5_commit_22 rfl (fun hc => ?_) (fun hc => ?_)
    · replace h := h.1 hc
      clear hc
      refine lv_aload_n hx hb dX5_commit_28 rfl (lv_at hl 0 rfl) ?_
      refine gf_X5_20 hx hb hta hown hK hP (am_wo (i := 43) (by decide) (am_s_model ca)) (am_fvr (j := 47) rfl) dX5_commit_29 ?_
      refine lv_iload_n hx hb dX5_commit_32 rfl (lv_at hl 1 rfl) ?_
      refine am_iald hx hb hK hP (i := 47) (by decide) (am_s_m_stages ca) h dX5_commit_33 (fun k5 hk5 h => ?_)
      refine lv_iconst (v := (nI 1)) hx hb dX5_commit_34 rfl ?_
      refine lv_icmp_eq (tgt := 41) hx hb dX5_commit_35 rfl (fun hc => ?_) (fun hc => ?_)
      · replace h := h.1 hc
        clear hc
        refine lv_iconst (v := (nI 0)) hx hb dX5_commit_41 rfl ?_
        refine am_topi h (fun y6 h => ?_)
        refine lv_istore_n hx hb dX5_commit_42 rfl hl (by decide) rfl (fun ls hl => ?_)
        have hl : lv_has ls 4 [(2, .int y6), (0, .ref (ad 43)), (1, .int x1)] := hl
        refine lv_aload_n hx hb dX5_commit_43 rfl (lv_at hl 1 rfl) ?_
        refine gf_X5_20 hx hb hta hown hK hP (am_wo (i := 43) (by decide) (am_s_model ca)) (am_fvr (j := 47) rfl) dX5_commit_44 ?_
        refine lv_iload_n hx hb dX5_commit_47 rfl (lv_at hl 2 rfl) ?_
        refine lv_iconst (v := (nI 2)) hx hb dX5_commit_48 rfl ?_
        refine am_iast hx hb hK hP hI hS (i := 47) (by decide) (am_s_m_stages ca) h dX5_commit_49 (fun M7 H locs hP hS h => ?_)
        refine lv_iconst (v := (nI 0)) hx hb dX5_commit_50 rfl ?_
        refine am_topi h (fun y8 h => ?_)
        refine lv_istore_n hx hb dX5_commit_51 rfl hl (by decide) rfl (fun ls hl => ?_)
        have hl : lv_has ls 4 [(3, .int y8), (2, .int y6), (0, .ref (ad 43)), (1, .int x1)] := hl
        obtain ⟨f52, h⟩ := h
        have key52 : ∀ (K : am_M → Int32 → Int32 → Prop), (∀ (M11 : am_M) (z9 : Int32) (z10 : Int32) (ls : Array Slot) (H : Heap) (locs : List Loc), K M11 z9 z10 → va_P (dC, dI) vwCl (am_w ad (am_sh ca) 63 M11) H → va_S (am_A ad 63) s.heap H locs → lv_has ls 4 [(3, .int z10), (2, .int z9), (0, .ref (ad 43)), (1, .int x1)] → am_Wi p l e wsX5_commit rmX5_commit s m ([.ref (ad 43), .int x1] : List Value).toArray below meth c H locs dC dI ca ad Q (F0 m 92 ls [])) → ∀ (f52 : Nat) (M11 : am_M) (z9 : Int32) (z10 : Int32) (ls : Array Slot) (H : Heap) (locs : List Loc), w_X5_commit_L52 x1 Q K f52 M11 z9 z10 → va_P (dC, dI) vwCl (am_w ad (am_sh ca) 63 M11) H → va_S (am_A ad 63) s.heap H locs → lv_has ls 4 [(3, .int z10), (2, .int z9), (0, .ref (ad 43)), (1, .int x1)] → am_Wi p l e wsX5_commit rmX5_commit s m ([.ref (ad 43), .int x1] : List Value).toArray below meth c H locs dC dI ca ad Q (F0 m 52 ls []) := by
          intro K hex52 f52
          induction f52 with
          | zero => intro _ _ _ _ _ _ h; exact False.elim h
          | succ f52 ih52 =>
            intro M11 z9 z10 ls H locs h hP hS hl
            replace h := w_X5_commit_L52_s h
            refine lv_iload_n hx hb dX5_commit_52 rfl (lv_at hl 0 rfl) ?_
            refine lv_iconst (v := (nI 4)) hx hb dX5_commit_53 rfl ?_
            refine lv_icmp_ge (tgt := 92) hx hb dX5_commit_54 rfl (fun hc => ?_) (fun hc => ?_)
            · replace h := h.1 hc
              clear hc
              exact hex52 M11 z9 z10 ls H locs h hP hS (lv_sub hl [0, 1, 2, 3] rfl)
            · replace h := h.2 hc
              clear hc
              refine lv_aload_n hx hb dX5_commit_57 rfl (lv_at hl 2 rfl) ?_
              refine gf_X5_23 hx hb hta hown hK hP (am_wo (i := 43) (by decide) (am_s_model ca)) (am_fvr (j := 48) rfl) dX5_commit_58 ?_
              refine lv_iconst (v := (nI 4)) hx hb dX5_commit_61 rfl ?_
              refine lv_iload_n hx hb dX5_commit_62 rfl (lv_at hl 3 rfl) ?_
              refine lv_imul hx hb dX5_commit_63 ?_
              refine lv_iload_n hx hb dX5_commit_64 rfl (lv_at hl 0 rfl) ?_
              refine lv_iadd hx hb dX5_commit_65 ?_
              refine am_zald hx hb hK hP (i := 48) (by decide) (am_s_m_member ca) h dX5_commit_66 (fun k12 hk12 h => ?_)
              refine lv_if_eq (tgt := 86) hx hb dX5_commit_67 rfl (fun hc => ?_) (fun hc => ?_)
              · replace h := h.1 hc
                clear hc
                refine am_iinc (k := 0) (d := nI 1) hx hb dX5_commit_86 hl rfl rfl (by decide) h (fun y13 ls h hl => ?_)
                have hl : lv_has ls 4 [(3, .int y13), (2, .int z9), (0, .ref (ad 43)), (1, .int x1)] := hl
                refine lv_goto (tgt := 52) hx hb dX5_commit_89 rfl ?_
                exact ih52 M11 z9 y13 ls H locs h hP hS (lv_sub hl [0, 1, 2, 3] rfl)
              · replace h := h.2 hc
                clear hc
                refine lv_aload_n hx hb dX5_commit_70 rfl (lv_at hl 2 rfl) ?_
                refine lv_iconst (v := (nI 1)) hx hb dX5_commit_71 rfl ?_
                refine lv_aload_n hx hb dX5_commit_72 rfl (lv_at hl 2 rfl) ?_
                refine gf_X5_17 hx hb hta hown hK hP (am_wo (i := 43) (by decide) (am_s_model ca)) (am_fvr (j := 46) rfl) dX5_commit_73 ?_
                refine lv_iload_n hx hb dX5_commit_76 rfl (lv_at hl 3 rfl) ?_
                refine am_iald hx hb hK hP (i := 46) (by decide) (am_s_m_chief ca) h dX5_commit_77 (fun k14 hk14 h => ?_)
                refine lv_iload_n hx hb dX5_commit_78 rfl (lv_at hl 0 rfl) ?_
                refine lv_iload_n hx hb dX5_commit_79 rfl (lv_at hl 3 rfl) ?_
                refine am_callv (va_runV (C := RX5) (As := [.int (nI 1), .int (nI (M11.2 23 0 k14)), .int z10, .int x1]) (rest := []) ⟨hx, hb, hml, hown, hts⟩ (c_X5_send l dC dI ca ad hI M11 (nI 1) (nI (M11.2 23 0 k14)) z10 x1 _ h) ⟨callB_of 4 hts (am_gd mc_X5_send) rfl rfl rfl (hta _ mn_X5) (hta _ ml_X5_83) dc_X5_send ⟨Nat.le_of_ble_eq_true rfl, Nat.le_of_ble_eq_true rfl⟩, hta _ mi_X5_send, hta _ me_X5_send⟩ (am_preV (q := (RX5, TX5, 21)) hK hN hP rfl (by decide) (am_s_model ca)) rfl rfl hl.1 rfl (lv_room (Nat.le_of_ble_eq_true rfl)) dX5_commit_80 ⟨Nat.zero_le _, Nat.zero_le _⟩) hS (fun M15 H locs hP hS h => ?_)
                refine am_iinc (k := 1) (d := nI 1) hx hb dX5_commit_83 hl rfl rfl (by decide) h (fun y16 ls h hl => ?_)
                have hl : lv_has ls 4 [(2, .int y16), (3, .int z10), (0, .ref (ad 43)), (1, .int x1)] := hl
                refine am_iinc (k := 1) (d := nI 1) hx hb dX5_commit_86 hl rfl rfl (by decide) h (fun y17 ls h hl => ?_)
                have hl : lv_has ls 4 [(3, .int y17), (2, .int y16), (0, .ref (ad 43)), (1, .int x1)] := hl
                refine lv_goto (tgt := 52) hx hb dX5_commit_89 rfl ?_
                exact ih52 M15 y16 y17 ls H locs h hP hS (lv_sub hl [0, 1, 2, 3] rfl)
        refine key52 _ ?_ f52 M7 y6 y8 ls H locs h hP hS hl
        intro M18 z19 z20 ls H locs h hP hS hl
        refine lv_iload_n hx hb dX5_commit_92 rfl (lv_at hl 1 rfl) ?_
        refine lv_if_ne (tgt := 101) hx hb dX5_commit_93 rfl (fun hc => ?_) (fun hc => ?_)
        · replace h := h.1 hc
          clear hc
          refine lv_iload_n hx hb dX5_commit_101 rfl (lv_at hl 1 rfl) ?_
          exact am_iret hx hb hr hK hN hP hS h hlocks dX5_commit_102
        · replace h := h.2 hc
          clear hc
          refine lv_aload_n hx hb dX5_commit_96 rfl (lv_at hl 2 rfl) ?_
          refine lv_iload_n hx hb dX5_commit_97 rfl (lv_at hl 3 rfl) ?_
          refine am_callv (va_runV (C := RX5) (As := [.int x1]) (rest := []) ⟨hx, hb, hml, hown, hts⟩ (c_X5_forget l dC dI ca ad hI M18 x1 _ h) ⟨callB_of 1 hts (am_gd mc_X5_forget) rfl rfl rfl (hta _ mn_X5) (hta _ ml_X5_86) dc_X5_forget ⟨Nat.le_of_ble_eq_true rfl, Nat.le_of_ble_eq_true rfl⟩, hta _ mi_X5_forget, hta _ me_X5_forget⟩ (am_preV (q := (RX5, TX5, 21)) hK hN hP rfl (by decide) (am_s_model ca)) rfl rfl hl.1 rfl (lv_room (Nat.le_of_ble_eq_true rfl)) dX5_commit_98 ⟨Nat.zero_le _, Nat.zero_le _⟩) hS (fun M21 H locs hP hS h => ?_)
          refine lv_iload_n hx hb dX5_commit_101 rfl (lv_at hl 1 rfl) ?_
          exact am_iret hx hb hr hK hN hP hS h hlocks dX5_commit_102
      · replace h := h.2 hc
        clear hc
        refine lv_bipush (v := (-4)) hx hb dX5_commit_38 rfl ?_
        exact am_iret hx hb hr hK hN hP hS h hlocks dX5_commit_40
    · replace h := h.2 hc
      clear hc
      refine lv_bipush (v := (-3)) hx hb dX5_commit_25 rfl ?_
      exact am_iret hx hb hr hK hN hP hS h hlocks dX5_commit_27
  · replace h := h.2 hc
    clear hc
    refine lv_bipush (v := (-2)) hx hb dX5_commit_8 rfl ?_
    exact am_iret hx hb hr hK hN hP hS h hlocks dX5_commit_10
abbrev rmX5_write : Room := { frames := 0, cells := 0, slots := 0, locals := 0 }
set_option maxHeartbeats 4000000 in
set_option maxRecDepth 100000 in
theorem c_X5_write (l : Launch) (dC : Nat → ClassId) (dI : Nat → Nat → Nat) (ca : Nat → ClassId) (ad : Nat → Nat) (hI : am_inj ad) (M : am_M) (x1 : Int32) (x2 : Int32) (x3 : Int32) (x4 : Int32) (Q : am_M → Prop) (h : w_X5_write M x1 x2 x3 x4 Q) : Met l yX5_write wsX5_write rmX5_write (va_Pc [.ref (ad 43), .int x1, .int x2, .int x3, .int x4] (am_B dC dI ca ad M)) (am_Qv dC dI ca ad Q) 0 0 (am_A ad 63) := by
  refine Met.ofW (cc := cX5_write) (maxL := 6) (ret := none) (by decide) rfl ?_
  intro p e s m args below meth c s₁ B hml hv
  obtain ⟨rfl, hP, hK, hN⟩ := hv
  have hx := B.exec
  have hb := B.bytes
  have hr := B.returns
  have hts := atoms_spec (ws := wsX5_write) B.pre
  have hta : ∀ w ∈ am_all, w.before _ s = true := fun w hw => hts w (List.mem_cons_of_mem _ hw)
  have hown : s.vm.findClass RX5 = some m.cls := findClass_of_methodNamed B.named
  have hlocks := B.notSynchronized
  have hl := lv_entry ([.ref (ad 43), .int x1, .int x2, .int x3, .int x4]) (n := 6) (Nat.le_of_ble_eq_true rfl)
  rw [lg_entry_eq]
  generalize (lg_sl ([.ref (ad 43), .int x1, .int x2, .int x3, .int x4]) ++ List.replicate (6 - (lg_sl ([.ref (ad 43), .int x1, .int x2, .int x3, .int x4])).length) Slot.unset).toArray = ls at hl ⊢
  have hl : lv_has ls 6 [(0, .ref (ad 43)), (1, .int x1), (2, .int x2), (3, .int x3), (4, .int x4)] := hl
  replace h := w_X5_write_s h
  refine am_enter (A := am_A ad 63) hP (fun H locs hP hS => ?_)
  refine lv_bipush (v := (nI 64)) hx hb dX5_write_0 rfl ?_
  refine lv_iload_n hx hb dX5_write_2 rfl (lv_at hl 1 rfl) ?_
  refine lv_imul hx hb dX5_write_3 ?_
  refine lv_aload_n hx hb dX5_write_4 rfl (lv_at hl 0 rfl) ?_
  refine gf_X5_41 hx hb hta hown hK hP (am_wo (i := 43) (by decide) (am_s_model ca)) (am_fvr (j := 54) rfl) dX5_write_5 ?_
  refine lv_iload_n hx hb dX5_write_8 rfl (lv_at hl 1 rfl) ?_
  refine am_iald hx hb hK hP (i := 54) (by decide) (am_s_m_length ca) h dX5_write_9 (fun k1 hk1 h => ?_)
  refine lv_iadd hx hb dX5_write_10 ?_
  refine am_topi h (fun y2 h => ?_)
  refine lv_istore hx hb dX5_write_11 hl (by decide) rfl (fun ls hl => ?_)
  have hl : lv_has ls 6 [(5, .int y2), (0, .ref (ad 43)), (1, .int x1), (2, .int x2), (3, .int x3), (4, .int x4)] := hl
  refine lv_aload_n hx hb dX5_write_13 rfl (lv_at hl 1 rfl) ?_
  refine gf_X5_44 hx hb hta hown hK hP (am_wo (i := 43) (by decide) (am_s_model ca)) (am_fvr (j := 55) rfl) dX5_write_14 ?_
  refine lv_iload hx hb dX5_write_17 (lv_at hl 0 rfl) ?_
  refine lv_iload_n hx hb dX5_write_19 rfl (lv_at hl 3 rfl) ?_
  refine am_iast hx hb hK hP hI hS (i := 55) (by decide) (am_s_m_logOf ca) h dX5_write_20 (fun M3 H locs hP hS h => ?_)
  refine lv_aload_n hx hb dX5_write_21 rfl (lv_at hl 1 rfl) ?_
  refine gf_X5_47 hx hb hta hown hK hP (am_wo (i := 43) (by decide) (am_s_model ca)) (am_fvr (j := 56) rfl) dX5_write_22 ?_
  refine lv_iload hx hb dX5_write_25 (lv_at hl 0 rfl) ?_
  refine lv_iload_n hx hb dX5_write_27 rfl (lv_at hl 4 rfl) ?_
  refine am_iast hx hb hK hP hI hS (i := 56) (by decide) (am_s_m_logKind ca) h dX5_write_28 (fun M4 H locs hP hS h => ?_)
  refine lv_aload_n hx hb dX5_write_29 rfl (lv_at hl 1 rfl) ?_
  refine gf_X5_50 hx hb hta hown hK hP (am_wo (i := 43) (by decide) (am_s_model ca)) (am_fvr (j := 57) rfl) dX5_write_30 ?_
  refine lv_iload hx hb dX5_write_33 (lv_at hl 0 rfl) ?_
  refine lv_iload hx hb dX5_write_35 (lv_at hl 5 rfl) ?_
  refine am_iast hx hb hK hP hI hS (i := 57) (by decide) (am_s_m_logWhat ca) h dX5_write_37 (fun M5 H locs hP hS h => ?_)
  refine lv_aload_n hx hb dX5_write_38 rfl (lv_at hl 1 rfl) ?_
  refine gf_X5_53 hx hb hta hown hK hP (am_wo (i := 43) (by decide) (am_s_model ca)) (am_fvr (j := 58) rfl) dX5_write_39 ?_
  refine lv_iload hx hb dX5_write_42 (lv_at hl 0 rfl) ?_
  refine lv_iconst (v := (nI 0)) hx hb dX5_write_44 rfl ?_
  refine am_zast hx hb hK hP hI hS (i := 58) (by decide) (am_s_m_logSafe ca) h dX5_write_45 (fun M6 H locs hP hS h => ?_)
  refine lv_aload_n hx hb dX5_write_46 rfl (lv_at hl 1 rfl) ?_
  refine gf_X5_41 hx hb hta hown hK hP (am_wo (i := 43) (by decide) (am_s_model ca)) (am_fvr (j := 54) rfl) dX5_write_47 ?_
  refine lv_iload_n hx hb dX5_write_50 rfl (lv_at hl 2 rfl) ?_
  refine lv_dup2_11 hx hb dX5_write_51 rfl rfl ?_
  refine am_iald hx hb hK hP (i := 54) (by decide) (am_s_m_length ca) h dX5_write_52 (fun k7 hk7 h => ?_)
  refine lv_iconst (v := (nI 1)) hx hb dX5_write_53 rfl ?_
  refine lv_iadd hx hb dX5_write_54 ?_
  refine am_iast hx hb hK hP hI hS (i := 54) (by decide) (am_s_m_length ca) h dX5_write_55 (fun M8 H locs hP hS h => ?_)
  exact am_vret hx hb hr hK hN hP hS h hlocks dX5_write_56
abbrev rmX5_pullBack : Room := { frames := 1, cells := 0, slots := 0, locals := 25 }
set_option maxHeartbeats 4000000 in
set_option maxRecDepth 100000 in
theorem c_X5_pullBack (l : Launch) (dC : Nat → ClassId) (dI : Nat → Nat → Nat) (ca : Nat → ClassId) (ad : Nat → Nat) (hI : am_inj ad) (M : am_M) (x1 : Int32) (x2 : Int32) (Q : Int32 → am_M → Prop) (h : w_X5_pullBack M x1 x2 Q) : Met l yX5_pullBack wsX5_pullBack rmX5_pullBack (va_Pc [.ref (ad 43), .int x1, .int x2] (am_B dC dI ca ad M)) (am_Qi dC dI ca ad Q) 0 0 (am_A ad 63) := by
  refine Met.ofW (cc := cX5_pullBack) (maxL := 5) (ret := (some .int)) (by decide) rfl ?_
  intro p e s m args below meth c s₁ B hml hv
  obtain ⟨rfl, hP, hK, hN⟩ := hv
  have hx := B.exec
  have hb := B.bytes
  have hr := B.returns
  have hts := atoms_spec (ws := wsX5_pullBack) B.pre
  have hta : ∀ w ∈ am_all, w.before _ s = true := fun w hw => hts w (List.mem_cons_of_mem _ hw)
  have hown : s.vm.findClass RX5 = some m.cls := findClass_of_methodNamed B.named
  have hlocks := B.notSynchronized
  have hl := lv_entry ([.ref (ad 43), .int x1, .int x2]) (n := 5) (Nat.le_of_ble_eq_true rfl)
  rw [lg_entry_eq]
  generalize (lg_sl ([.ref (ad 43), .int x1, .int x2]) ++ List.replicate (5 - (lg_sl ([.ref (ad 43), .int x1, .int x2])).length) Slot.unset).toArray = ls at hl ⊢
  have hl : lv_has ls 5 [(0, .ref (ad 43)), (1, .int x1), (2, .int x2)] := hl
  replace h := w_X5_pullBack_s h
  refine am_enter (A := am_A ad 63) hP (fun H locs hP hS => ?_)
  refine lv_iconst (v := (nI 0)) hx hb dX5_pullBack_0 rfl ?_
  refine am_topi h (fun y1 h => ?_)
  refine lv_istore_n hx hb dX5_pullBack_1 rfl hl (by decide) rfl (fun ls hl => ?_)
  have hl : lv_has ls 5 [(3, .int y1), (0, .ref (ad 43)), (1, .int x1), (2, .int x2)] := hl
  refine lv_aload_n hx hb dX5_pullBack_2 rfl (lv_at hl 1 rfl) ?_
  refine lv_aload_n hx hb dX5_pullBack_3 rfl (lv_at hl 1 rfl) ?_
  refine gf_X5_17 hx hb hta hown hK hP (am_wo (i := 43) (by decide) (am_s_model ca)) (am_fvr (j := 46) rfl) dX5_pullBack_4 ?_
  refine lv_iload_n hx hb dX5_pullBack_7 rfl (lv_at hl 2 rfl) ?_
  refine am_iald hx hb hK hP (i := 46) (by decide) (am_s_m_chief ca) h dX5_pullBack_8 (fun k2 hk2 h => ?_)
  refine lv_iload_n hx hb dX5_pullBack_9 rfl (lv_at hl 2 rfl) ?_
  refine lv_iconst (v := (nI 5)) hx hb dX5_pullBack_10 rfl ?_
  refine lv_iconst (v := (nI 0)) hx hb dX5_pullBack_11 rfl ?_
  refine am_callv (va_runV (C := RX5) (As := [.int (nI (M.2 23 0 k2)), .int x1, .int (nI 5), .int (nI 0)]) (rest := []) ⟨hx, hb, hml, hown, hts⟩ (c_X5_write l dC dI ca ad hI M (nI (M.2 23 0 k2)) x1 (nI 5) (nI 0) _ h) ⟨callB_of 4 hts (am_gd mc_X5_write) rfl rfl rfl (hta _ mn_X5) (hta _ ml_X5_75) dc_X5_write ⟨Nat.le_of_ble_eq_true rfl, Nat.le_of_ble_eq_true rfl⟩, hta _ mi_X5_write, hta _ me_X5_write⟩ (am_preV (q := (RX5, TX5, 21)) hK hN hP rfl (by decide) (am_s_model ca)) rfl rfl hl.1 rfl (lv_room (Nat.le_of_ble_eq_true rfl)) dX5_pullBack_12 ⟨Nat.zero_le _, Nat.zero_le _⟩) hS (fun M3 H locs hP hS h => ?_)
  refine lv_iconst (v := (nI 0)) hx hb dX5_pullBack_15 rfl ?_
  refine am_topi h (fun y4 h => ?_)
  refine lv_istore hx hb dX5_pullBack_16 hl (by decide) rfl (fun ls hl => ?_)
  have hl : lv_has ls 5 [(4, .int y4), (3, .int y1), (0, .ref (ad 43)), (1, .int x1), (2, .int x2)] := hl
  obtain ⟨f18, h⟩ := h
  have key18 : ∀ (K : am_M → Int32 → Int32 → Prop), (∀ (M7 : am_M) (z5 : Int32) (z6 : Int32) (ls : Array Slot) (H : Heap) (locs : List Loc), K M7 z5 z6 → va_P (dC, dI) vwCl (am_w ad (am_sh ca) 63 M7) H → va_S (am_A ad 63) s.heap H locs → lv_has ls 5 [(4, .int z6), (3, .int z5), (0, .ref (ad 43)), (1, .int x1), (2, .int x2)] → am_Wi p l e wsX5_pullBack rmX5_pullBack s m ([.ref (ad 43), .int x1, .int x2] : List Value).toArray below meth c H locs dC dI ca ad Q (F0 m 82 ls [])) → ∀ (f18 : Nat) (M7 : am_M) (z5 : Int32) (z6 : Int32) (ls : Array Slot) (H : Heap) (locs : List Loc), w_X5_pullBack_L18 x1 x2 Q K f18 M7 z5 z6 → va_P (dC, dI) vwCl (am_w ad (am_sh ca) 63 M7) H → va_S (am_A ad 63) s.heap H locs → lv_has ls 5 [(4, .int z6), (3, .int z5), (0, .ref (ad 43)), (1, .int x1), (2, .int x2)] → am_Wi p l e wsX5_pullBack rmX5_pullBack s m ([.ref (ad 43), .int x1, .int x2] : List Value).toArray below meth c H locs dC dI ca ad Q (F0 m 18 ls []) := by
    intro K hex18 f18
    induction f18 with
    | zero => intro _ _ _ _ _ _ h; exact False.elim h
    | succ f18 ih18 =>
      intro M7 z5 z6 ls H locs h hP hS hl
      replace h := w_X5_pullBack_L18_s h
      refine lv_iload hx hb dX5_pullBack_18 (lv_at hl 0 rfl) ?_
      refine lv_iconst (v := (nI 4)) hx hb dX5_pullBack_20 rfl ?_
      refine lv_icmp_ge (tgt := 82) hx hb dX5_pullBack_21 rfl (fun hc => ?_) (fun hc => ?_)
      · replace h := h.1 hc
        clear hc
        exact hex18 M7 z5 z6 ls H locs h hP hS (lv_sub hl [0, 1, 2, 3, 4] rfl)
      · replace h := h.2 hc
        clear hc
        refine lv_aload_n hx hb dX5_pullBack_24 rfl (lv_at hl 2 rfl) ?_
        refine gf_X5_23 hx hb hta hown hK hP (am_wo (i := 43) (by decide) (am_s_model ca)) (am_fvr (j := 48) rfl) dX5_pullBack_25 ?_
        refine lv_iconst (v := (nI 4)) hx hb dX5_pullBack_28 rfl ?_
        refine lv_iload_n hx hb dX5_pullBack_29 rfl (lv_at hl 3 rfl) ?_
        refine lv_imul hx hb dX5_pullBack_30 ?_
        refine lv_iload hx hb dX5_pullBack_31 (lv_at hl 0 rfl) ?_
        refine lv_iadd hx hb dX5_pullBack_33 ?_
        refine am_zald hx hb hK hP (i := 48) (by decide) (am_s_m_member ca) h dX5_pullBack_34 (fun k8 hk8 h => ?_)
        refine lv_if_eq (tgt := 76) hx hb dX5_pullBack_35 rfl (fun hc => ?_) (fun hc => ?_)
        · replace h := h.1 hc
          clear hc
          refine am_iinc (k := 0) (d := nI 1) hx hb dX5_pullBack_76 hl rfl rfl (by decide) h (fun y9 ls h hl => ?_)
          have hl : lv_has ls 5 [(4, .int y9), (3, .int z5), (0, .ref (ad 43)), (1, .int x1), (2, .int x2)] := hl
          refine lv_goto (tgt := 18) hx hb dX5_pullBack_79 rfl ?_
          exact ih18 M7 z5 y9 ls H locs h hP hS (lv_sub hl [0, 1, 2, 3, 4] rfl)
        · replace h := h.2 hc
          clear hc
          refine lv_aload_n hx hb dX5_pullBack_38 rfl (lv_at hl 2 rfl) ?_
          refine gf_X5_29 hx hb hta hown hK hP (am_wo (i := 43) (by decide) (am_s_model ca)) (am_fvr (j := 50) rfl) dX5_pullBack_39 ?_
          refine lv_iconst (v := (nI 4)) hx hb dX5_pullBack_42 rfl ?_
          refine lv_iload_n hx hb dX5_pullBack_43 rfl (lv_at hl 3 rfl) ?_
          refine lv_imul hx hb dX5_pullBack_44 ?_
          refine lv_iload hx hb dX5_pullBack_45 (lv_at hl 0 rfl) ?_
          refine lv_iadd hx hb dX5_pullBack_47 ?_
          refine am_zald hx hb hK hP (i := 50) (by decide) (am_s_m_read ca) h dX5_pullBack_48 (fun k10 hk10 h => ?_)
          refine lv_if_ne (tgt := 76) hx hb dX5_pullBack_49 rfl (fun hc => ?_) (fun hc => ?_)
          · replace h := h.1 hc
            clear hc
            refine am_iinc (k := 0) (d := nI 1) hx hb dX5_pullBack_76 hl rfl rfl (by decide) h (fun y11 ls h hl => ?_)
            have hl : lv_has ls 5 [(4, .int y11), (3, .int z5), (0, .ref (ad 43)), (1, .int x1), (2, .int x2)] := hl
            refine lv_goto (tgt := 18) hx hb dX5_pullBack_79 rfl ?_
            exact ih18 M7 z5 y11 ls H locs h hP hS (lv_sub hl [0, 1, 2, 3, 4] rfl)
          · replace h := h.2 hc
            clear hc
            refine lv_iload hx hb dX5_pullBack_52 (lv_at hl 0 rfl) ?_
            refine lv_iload_n hx hb dX5_pullBack_54 rfl (lv_at hl 4 rfl) ?_
            refine lv_icmp_eq (tgt := 76) hx hb dX5_pullBack_55 rfl (fun hc => ?_) (fun hc => ?_)
            · replace h := h.1 hc
              clear hc
              refine am_iinc (k := 0) (d := nI 1) hx hb dX5_pullBack_76 hl rfl rfl (by decide) h (fun y12 ls h hl => ?_)
              have hl : lv_has ls 5 [(4, .int y12), (3, .int z5), (0, .ref (ad 43)), (1, .int x1), (2, .int x2)] := hl
              refine lv_goto (tgt := 18) hx hb dX5_pullBack_79 rfl ?_
              exact ih18 M7 z5 y12 ls H locs h hP hS (lv_sub hl [0, 1, 2, 3, 4] rfl)
            · replace h := h.2 hc
              clear hc
              refine lv_aload_n hx hb dX5_pullBack_58 rfl (lv_at hl 2 rfl) ?_
              refine lv_bipush (v := (nI 6)) hx hb dX5_pullBack_59 rfl ?_
              refine lv_aload_n hx hb dX5_pullBack_61 rfl (lv_at hl 2 rfl) ?_
              refine gf_X5_17 hx hb hta hown hK hP (am_wo (i := 43) (by decide) (am_s_model ca)) (am_fvr (j := 46) rfl) dX5_pullBack_62 ?_
              refine lv_iload_n hx hb dX5_pullBack_65 rfl (lv_at hl 3 rfl) ?_
              refine am_iald hx hb hK hP (i := 46) (by decide) (am_s_m_chief ca) h dX5_pullBack_66 (fun k13 hk13 h => ?_)
              refine lv_iload hx hb dX5_pullBack_67 (lv_at hl 0 rfl) ?_
              refine lv_iload_n hx hb dX5_pullBack_69 rfl (lv_at hl 3 rfl) ?_
              refine am_callv (va_runV (C := RX5) (As := [.int (nI 6), .int (nI (M7.2 23 0 k13)), .int z6, .int x1]) (rest := []) ⟨hx, hb, hml, hown, hts⟩ (c_X5_send l dC dI ca ad hI M7 (nI 6) (nI (M7.2 23 0 k13)) z6 x1 _ h) ⟨callB_of 4 hts (am_gd mc_X5_send) rfl rfl rfl (hta _ mn_X5) (hta _ ml_X5_83) dc_X5_send ⟨Nat.le_of_ble_eq_true rfl, Nat.le_of_ble_eq_true rfl⟩, hta _ mi_X5_send, hta _ me_X5_send⟩ (am_preV (q := (RX5, TX5, 21)) hK hN hP rfl (by decide) (am_s_model ca)) rfl rfl hl.1 rfl (lv_room (Nat.le_of_ble_eq_true rfl)) dX5_pullBack_70 ⟨Nat.zero_le _, Nat.zero_le _⟩) hS (fun M14 H locs hP hS h => ?_)
              refine am_iinc (k := 1) (d := nI 1) hx hb dX5_pullBack_73 hl rfl rfl (by decide) h (fun y15 ls h hl => ?_)
              have hl : lv_has ls 5 [(3, .int y15), (4, .int z6), (0, .ref (ad 43)), (1, .int x1), (2, .int x2)] := hl
              refine am_iinc (k := 1) (d := nI 1) hx hb dX5_pullBack_76 hl rfl rfl (by decide) h (fun y16 ls h hl => ?_)
              have hl : lv_has ls 5 [(4, .int y16), (3, .int y15), (0, .ref (ad 43)), (1, .int x1), (2, .int x2)] := hl
              refine lv_goto (tgt := 18) hx hb dX5_pullBack_79 rfl ?_
              exact ih18 M14 y15 y16 ls H locs h hP hS (lv_sub hl [0, 1, 2, 3, 4] rfl)
  refine key18 _ ?_ f18 M3 y1 y4 ls H locs h hP hS hl
  intro M17 z18 z19 ls H locs h hP hS hl
  refine lv_aload_n hx hb dX5_pullBack_82 rfl (lv_at hl 2 rfl) ?_
  refine lv_iload_n hx hb dX5_pullBack_83 rfl (lv_at hl 3 rfl) ?_
  refine am_callv (va_runV (C := RX5) (As := [.int x1]) (rest := []) ⟨hx, hb, hml, hown, hts⟩ (c_X5_forget l dC dI ca ad hI M17 x1 _ h) ⟨callB_of 1 hts (am_gd mc_X5_forget) rfl rfl rfl (hta _ mn_X5) (hta _ ml_X5_86) dc_X5_forget ⟨Nat.le_of_ble_eq_true rfl, Nat.le_of_ble_eq_true rfl⟩, hta _ mi_X5_forget, hta _ me_X5_forget⟩ (am_preV (q := (RX5, TX5, 21)) hK hN hP rfl (by decide) (am_s_model ca)) rfl rfl hl.1 rfl (lv_room (Nat.le_of_ble_eq_true rfl)) dX5_pullBack_84 ⟨Nat.zero_le _, Nat.zero_le _⟩) hS (fun M20 H locs hP hS h => ?_)
  refine lv_iload_n hx hb dX5_pullBack_87 rfl (lv_at hl 1 rfl) ?_
  exact am_iret hx hb hr hK hN hP hS h hlocks dX5_pullBack_88
abbrev rmX5_withdraw : Room := { frames := 2, cells := 0, slots := 0, locals := 49 }
set_option maxHeartbeats 4000000 in
set_option maxRecDepth 100000 in
theorem c_X5_withdraw (l : Launch) (dC : Nat → ClassId) (dI : Nat → Nat → Nat) (ca : Nat → ClassId) (ad : Nat → Nat) (hI : am_inj ad) (M : am_M) (x1 : Int32) (Q : Int32 → am_M → Prop) (h : w_X5_withdraw M x1 Q) : Met l yX5_withdraw wsX5_withdraw rmX5_withdraw (va_Pc [.ref (ad 43), .int x1] (am_B dC dI ca ad M)) (am_Qi dC dI ca ad Q) 0 0 (am_A ad 63) := by
  refine Met.ofW (cc := cX5_withdraw) (maxL := 2) (ret := (some .int)) (by decide) rfl ?_
  intro p e s m args below meth c s₁ B hml hv
  obtain ⟨rfl, hP, hK, hN⟩ := hv
  have hx := B.exec
  have hb := B.bytes
  have hr := B.returns
  have hts := atoms_spec (ws := wsX5_withdraw) B.pre
  have hta : ∀ w ∈ am_all, w.before _ s = true := fun w hw => hts w (List.mem_cons_of_mem _ hw)
  have hown : s.vm.findClass RX5 = some m.cls := findClass_of_methodNamed B.named
  have hlocks := B.notSynchronized
  have hl := lv_entry ([.ref (ad 43), .int x1]) (n := 2) (Nat.le_of_ble_eq_true rfl)
  rw [lg_entry_eq]
  generalize (lg_sl ([.ref (ad 43), .int x1]) ++ List.replicate (2 - (lg_sl ([.ref (ad 43), .int x1])).length) Slot.unset).toArray = ls at hl ⊢
  have hl : lv_has ls 2 [(0, .ref (ad 43)), (1, .int x1)] := hl
  replace h := w_X5_withdraw_s h
  refine am_enter (A := am_A ad 63) hP (fun H locs hP hS => ?_)
  refine lv_aload_n hx hb dX5_withdraw_0 rfl (lv_at hl 0 rfl) ?_
  refine lv_iload_n hx hb dX5_withdraw_1 rfl (lv_at hl 1 rfl) ?_
  refine am_calli (va_runV (C := RX5) (As := [.int x1]) (rest := []) ⟨hx, hb, hml, hown, hts⟩ (c_X5_noWork l dC dI ca ad hI M x1 _ h) ⟨callB_of 1 hts (am_gd mc_X5_noWork) rfl rfl rfl (hta _ mn_X5) (hta _ ml_X5_126) dc_X5_noWork ⟨Nat.le_of_ble_eq_true rfl, Nat.le_of_ble_eq_true rfl⟩, hta _ mi_X5_noWork, hta _ me_X5_noWork⟩ (am_preV (q := (RX5, TX5, 21)) hK hN hP rfl (by decide) (am_s_model ca)) rfl rfl hl.1 rfl (lv_room (Nat.le_of_ble_eq_true rfl)) dX5_withdraw_2 ⟨Nat.zero_le _, Nat.zero_le _⟩) hS (fun y2 M1 H locs hP hS h => ?_)
  refine lv_if_eq (tgt := 11) hx hb dX5_withdraw_5 rfl (fun hc => ?_) (fun hc => ?_)
  · replace h := h.1 hc
    clear hc
    refine lv_aload_n hx hb dX5_withdraw_11 rfl (lv_at hl 0 rfl) ?_
    refine gf_X5_7 hx hb hta hown hK hP (am_wo (i := 43) (by decide) (am_s_model ca)) (am_fvr (j := 44) rfl) dX5_withdraw_12 ?_
    refine lv_aload_n hx hb dX5_withdraw_15 rfl (lv_at hl 0 rfl) ?_
    refine gf_X5_17 hx hb hta hown hK hP (am_wo (i := 43) (by decide) (am_s_model ca)) (am_fvr (j := 46) rfl) dX5_withdraw_16 ?_
    refine lv_iload_n hx hb dX5_withdraw_19 rfl (lv_at hl 1 rfl) ?_
    refine am_iald hx hb hK hP (i := 46) (by decide) (am_s_m_chief ca) h dX5_withdraw_20 (fun k3 hk3 h => ?_)
    refine am_zald hx hb hK hP (i := 44) (by decide) (am_s_m_down ca) h dX5_withdraw_21 (fun k4 hk4 h => ?_)
    refine lv_if_eq (tgt := 28) hx hb dX5_withdraw_22 rfl (fun hc => ?_) (fun hc => ?_)
    · replace h := h.1 hc
      clear hc
      refine lv_aload_n hx hb dX5_withdraw_28 rfl (lv_at hl 0 rfl) ?_
      refine gf_X5_20 hx hb hta hown hK hP (am_wo (i := 43) (by decide) (am_s_model ca)) (am_fvr (j := 47) rfl) dX5_withdraw_29 ?_
      refine lv_iload_n hx hb dX5_withdraw_32 rfl (lv_at hl 1 rfl) ?_
      refine am_iald hx hb hK hP (i := 47) (by decide) (am_s_m_stages ca) h dX5_withdraw_33 (fun k5 hk5 h => ?_)
      refine lv_iconst (v := (nI 1)) hx hb dX5_withdraw_34 rfl ?_
      refine lv_icmp_eq (tgt := 48) hx hb dX5_withdraw_35 rfl (fun hc => ?_) (fun hc => ?_)
      · replace h := h.1 hc
        clear hc
        refine lv_aload_n hx hb dX5_withdraw_48 rfl (lv_at hl 0 rfl) ?_
        refine lv_iload_n hx hb dX5_withdraw_49 rfl (lv_at hl 1 rfl) ?_
        refine lv_iconst (v := (-1)) hx hb dX5_withdraw_50 rfl ?_
        refine am_calli (va_runV (C := RX5) (As := [.int x1, .int (-1)]) (rest := []) ⟨hx, hb, hml, hown, hts⟩ (c_X5_pullBack l dC dI ca ad hI M1 x1 (-1) _ h) ⟨callB_of 2 hts (am_gd mc_X5_pullBack) rfl rfl rfl (hta _ mn_X5) (hta _ ml_X5_106) dc_X5_pullBack ⟨Nat.le_of_ble_eq_true rfl, Nat.le_of_ble_eq_true rfl⟩, hta _ mi_X5_pullBack, hta _ me_X5_pullBack⟩ (am_preV (q := (RX5, TX5, 21)) hK hN hP rfl (by decide) (am_s_model ca)) rfl rfl hl.1 rfl (lv_room (Nat.le_of_ble_eq_true rfl)) dX5_withdraw_51 ⟨Nat.zero_le _, Nat.zero_le _⟩) hS (fun y7 M6 H locs hP hS h => ?_)
        refine lv_goto (tgt := 59) hx hb dX5_withdraw_54 rfl ?_
        exact am_iret hx hb hr hK hN hP hS h hlocks dX5_withdraw_59
      · replace h := h.2 hc
        clear hc
        refine lv_aload_n hx hb dX5_withdraw_38 rfl (lv_at hl 0 rfl) ?_
        refine gf_X5_20 hx hb hta hown hK hP (am_wo (i := 43) (by decide) (am_s_model ca)) (am_fvr (j := 47) rfl) dX5_withdraw_39 ?_
        refine lv_iload_n hx hb dX5_withdraw_42 rfl (lv_at hl 1 rfl) ?_
        refine am_iald hx hb hK hP (i := 47) (by decide) (am_s_m_stages ca) h dX5_withdraw_43 (fun k8 hk8 h => ?_)
        refine lv_iconst (v := (nI 2)) hx hb dX5_withdraw_44 rfl ?_
        refine lv_icmp_ne (tgt := 57) hx hb dX5_withdraw_45 rfl (fun hc => ?_) (fun hc => ?_)
        · replace h := h.1 hc
          clear hc
          refine lv_bipush (v := (-4)) hx hb dX5_withdraw_57 rfl ?_
          exact am_iret hx hb hr hK hN hP hS h hlocks dX5_withdraw_59
        · replace h := h.2 hc
          clear hc
          refine lv_aload_n hx hb dX5_withdraw_48 rfl (lv_at hl 0 rfl) ?_
          refine lv_iload_n hx hb dX5_withdraw_49 rfl (lv_at hl 1 rfl) ?_
          refine lv_iconst (v := (-1)) hx hb dX5_withdraw_50 rfl ?_
          refine am_calli (va_runV (C := RX5) (As := [.int x1, .int (-1)]) (rest := []) ⟨hx, hb, hml, hown, hts⟩ (c_X5_pullBack l dC dI ca ad hI M1 x1 (-1) _ h) ⟨callB_of 2 hts (am_gd mc_X5_pullBack) rfl rfl rfl (hta _ mn_X5) (hta _ ml_X5_106) dc_X5_pullBack ⟨Nat.le_of_ble_eq_true rfl, Nat.le_of_ble_eq_true rfl⟩, hta _ mi_X5_pullBack, hta _ me_X5_pullBack⟩ (am_preV (q := (RX5, TX5, 21)) hK hN hP rfl (by decide) (am_s_model ca)) rfl rfl hl.1 rfl (lv_room (Nat.le_of_ble_eq_true rfl)) dX5_withdraw_51 ⟨Nat.zero_le _, Nat.zero_le _⟩) hS (fun y10 M9 H locs hP hS h => ?_)
          refine lv_goto (tgt := 59) hx hb dX5_withdraw_54 rfl ?_
          exact am_iret hx hb hr hK hN hP hS h hlocks dX5_withdraw_59
    · replace h := h.2 hc
      clear hc
      refine lv_bipush (v := (-3)) hx hb dX5_withdraw_25 rfl ?_
      exact am_iret hx hb hr hK hN hP hS h hlocks dX5_withdraw_27
  · replace h := h.2 hc
    clear hc
    refine lv_bipush (v := (-2)) hx hb dX5_withdraw_8 rfl ?_
    exact am_iret hx hb hr hK hN hP hS h hlocks dX5_withdraw_10
abbrev rmX5_take : Room := { frames := 0, cells := 0, slots := 0, locals := 0 }
set_option maxHeartbeats 4000000 in
set_option maxRecDepth 100000 in
theorem c_X5_take (l : Launch) (dC : Nat → ClassId) (dI : Nat → Nat → Nat) (ca : Nat → ClassId) (ad : Nat → Nat) (hI : am_inj ad) (M : am_M) (x1 : Int32) (Q : am_M → Prop) (h : w_X5_take M x1 Q) : Met l yX5_take wsX5_take rmX5_take (va_Pc [.ref (ad 43), .int x1] (am_B dC dI ca ad M)) (am_Qv dC dI ca ad Q) 0 0 (am_A ad 63) := by
  refine Met.ofW (cc := cX5_take) (maxL := 3) (ret := none) (by decide) rfl ?_
  intro p e s m args below meth c s₁ B hml hv
  obtain ⟨rfl, hP, hK, hN⟩ := hv
  have hx := B.exec
  have hb := B.bytes
  have hr := B.returns
  have hts := atoms_spec (ws := wsX5_take) B.pre
  have hta : ∀ w ∈ am_all, w.before _ s = true := fun w hw => hts w (List.mem_cons_of_mem _ hw)
  have hown : s.vm.findClass RX5 = some m.cls := findClass_of_methodNamed B.named
  have hlocks := B.notSynchronized
  have hl := lv_entry ([.ref (ad 43), .int x1]) (n := 3) (Nat.le_of_ble_eq_true rfl)
  rw [lg_entry_eq]
  generalize (lg_sl ([.ref (ad 43), .int x1]) ++ List.replicate (3 - (lg_sl ([.ref (ad 43), .int x1])).length) Slot.unset).toArray = ls at hl ⊢
  have hl : lv_has ls 3 [(0, .ref (ad 43)), (1, .int x1)] := hl
  replace h := w_X5_take_s h
  refine am_enter (A := am_A ad 63) hP (fun H locs hP hS => ?_)
  refine lv_aload_n hx hb dX5_take_0 rfl (lv_at hl 0 rfl) ?_
  refine lv_dup hx hb dX5_take_1 rfl ?_
  refine gf_X5_72 hx hb hta hown hK hP (am_wo (i := 43) (by decide) (am_s_model ca)) (am_fvi rfl) dX5_take_2 ?_
  refine lv_iconst (v := (nI 1)) hx hb dX5_take_5 rfl ?_
  refine lv_isub hx hb dX5_take_6 ?_
  refine pf_X5_72 hx hb hta hown hK hP hI hS (i := 43) (by decide) (am_s_model ca) h dX5_take_7 (fun M1 H locs hP hS h => ?_)
  refine lv_iload_n hx hb dX5_take_10 rfl (lv_at hl 1 rfl) ?_
  refine am_topi h (fun y2 h => ?_)
  refine lv_istore_n hx hb dX5_take_11 rfl hl (by decide) rfl (fun ls hl => ?_)
  have hl : lv_has ls 3 [(2, .int y2), (0, .ref (ad 43)), (1, .int x1)] := hl
  obtain ⟨f12, h⟩ := h
  have key12 : ∀ (K : am_M → Int32 → Prop), (∀ (M4 : am_M) (z3 : Int32) (ls : Array Slot) (H : Heap) (locs : List Loc), K M4 z3 → va_P (dC, dI) vwCl (am_w ad (am_sh ca) 63 M4) H → va_S (am_A ad 63) s.heap H locs → lv_has ls 3 [(2, .int z3), (0, .ref (ad 43)), (1, .int x1)] → am_Wv p l e wsX5_take rmX5_take s m ([.ref (ad 43), .int x1] : List Value).toArray below meth c H locs dC dI ca ad Q (F0 m 82 ls [])) → ∀ (f12 : Nat) (M4 : am_M) (z3 : Int32) (ls : Array Slot) (H : Heap) (locs : List Loc), w_X5_take_L12 x1 Q K f12 M4 z3 → va_P (dC, dI) vwCl (am_w ad (am_sh ca) 63 M4) H → va_S (am_A ad 63) s.heap H locs → lv_has ls 3 [(2, .int z3), (0, .ref (ad 43)), (1, .int x1)] → am_Wv p l e wsX5_take rmX5_take s m ([.ref (ad 43), .int x1] : List Value).toArray below meth c H locs dC dI ca ad Q (F0 m 12 ls []) := by
    intro K hex12 f12
    induction f12 with
    | zero => intro _ _ _ _ _ h; exact False.elim h
    | succ f12 ih12 =>
      intro M4 z3 ls H locs h hP hS hl
      replace h := w_X5_take_L12_s h
      refine lv_iload_n hx hb dX5_take_12 rfl (lv_at hl 0 rfl) ?_
      refine lv_aload_n hx hb dX5_take_13 rfl (lv_at hl 1 rfl) ?_
      refine gf_X5_72 hx hb hta hown hK hP (am_wo (i := 43) (by decide) (am_s_model ca)) (am_fvi rfl) dX5_take_14 ?_
      refine lv_icmp_ge (tgt := 82) hx hb dX5_take_17 rfl (fun hc => ?_) (fun hc => ?_)
      · replace h := h.1 hc
        clear hc
        exact hex12 M4 z3 ls H locs h hP hS (lv_sub hl [0, 1, 2] rfl)
      · replace h := h.2 hc
        clear hc
        refine lv_aload_n hx hb dX5_take_20 rfl (lv_at hl 1 rfl) ?_
        refine gf_X5_56 hx hb hta hown hK hP (am_wo (i := 43) (by decide) (am_s_model ca)) (am_fvr (j := 59) rfl) dX5_take_21 ?_
        refine lv_iload_n hx hb dX5_take_24 rfl (lv_at hl 0 rfl) ?_
        refine lv_aload_n hx hb dX5_take_25 rfl (lv_at hl 1 rfl) ?_
        refine gf_X5_56 hx hb hta hown hK hP (am_wo (i := 43) (by decide) (am_s_model ca)) (am_fvr (j := 59) rfl) dX5_take_26 ?_
        refine lv_iload_n hx hb dX5_take_29 rfl (lv_at hl 0 rfl) ?_
        refine lv_iconst (v := (nI 1)) hx hb dX5_take_30 rfl ?_
        refine lv_iadd hx hb dX5_take_31 ?_
        refine am_iald hx hb hK hP (i := 59) (by decide) (am_s_m_kinds ca) h dX5_take_32 (fun k5 hk5 h => ?_)
        refine am_iast hx hb hK hP hI hS (i := 59) (by decide) (am_s_m_kinds ca) h dX5_take_33 (fun M6 H locs hP hS h => ?_)
        refine lv_aload_n hx hb dX5_take_34 rfl (lv_at hl 1 rfl) ?_
        refine gf_X5_59 hx hb hta hown hK hP (am_wo (i := 43) (by decide) (am_s_model ca)) (am_fvr (j := 60) rfl) dX5_take_35 ?_
        refine lv_iload_n hx hb dX5_take_38 rfl (lv_at hl 0 rfl) ?_
        refine lv_aload_n hx hb dX5_take_39 rfl (lv_at hl 1 rfl) ?_
        refine gf_X5_59 hx hb hta hown hK hP (am_wo (i := 43) (by decide) (am_s_model ca)) (am_fvr (j := 60) rfl) dX5_take_40 ?_
        refine lv_iload_n hx hb dX5_take_43 rfl (lv_at hl 0 rfl) ?_
        refine lv_iconst (v := (nI 1)) hx hb dX5_take_44 rfl ?_
        refine lv_iadd hx hb dX5_take_45 ?_
        refine am_iald hx hb hK hP (i := 60) (by decide) (am_s_m_from ca) h dX5_take_46 (fun k7 hk7 h => ?_)
        refine am_iast hx hb hK hP hI hS (i := 60) (by decide) (am_s_m_from ca) h dX5_take_47 (fun M8 H locs hP hS h => ?_)
        refine lv_aload_n hx hb dX5_take_48 rfl (lv_at hl 1 rfl) ?_
        refine gf_X5_62 hx hb hta hown hK hP (am_wo (i := 43) (by decide) (am_s_model ca)) (am_fvr (j := 61) rfl) dX5_take_49 ?_
        refine lv_iload_n hx hb dX5_take_52 rfl (lv_at hl 0 rfl) ?_
        refine lv_aload_n hx hb dX5_take_53 rfl (lv_at hl 1 rfl) ?_
        refine gf_X5_62 hx hb hta hown hK hP (am_wo (i := 43) (by decide) (am_s_model ca)) (am_fvr (j := 61) rfl) dX5_take_54 ?_
        refine lv_iload_n hx hb dX5_take_57 rfl (lv_at hl 0 rfl) ?_
        refine lv_iconst (v := (nI 1)) hx hb dX5_take_58 rfl ?_
        refine lv_iadd hx hb dX5_take_59 ?_
        refine am_iald hx hb hK hP (i := 61) (by decide) (am_s_m_to ca) h dX5_take_60 (fun k9 hk9 h => ?_)
        refine am_iast hx hb hK hP hI hS (i := 61) (by decide) (am_s_m_to ca) h dX5_take_61 (fun M10 H locs hP hS h => ?_)
        refine lv_aload_n hx hb dX5_take_62 rfl (lv_at hl 1 rfl) ?_
        refine gf_X5_65 hx hb hta hown hK hP (am_wo (i := 43) (by decide) (am_s_model ca)) (am_fvr (j := 62) rfl) dX5_take_63 ?_
        refine lv_iload_n hx hb dX5_take_66 rfl (lv_at hl 0 rfl) ?_
        refine lv_aload_n hx hb dX5_take_67 rfl (lv_at hl 1 rfl) ?_
        refine gf_X5_65 hx hb hta hown hK hP (am_wo (i := 43) (by decide) (am_s_model ca)) (am_fvr (j := 62) rfl) dX5_take_68 ?_
        refine lv_iload_n hx hb dX5_take_71 rfl (lv_at hl 0 rfl) ?_
        refine lv_iconst (v := (nI 1)) hx hb dX5_take_72 rfl ?_
        refine lv_iadd hx hb dX5_take_73 ?_
        refine am_iald hx hb hK hP (i := 62) (by decide) (am_s_m_about ca) h dX5_take_74 (fun k11 hk11 h => ?_)
        refine am_iast hx hb hK hP hI hS (i := 62) (by decide) (am_s_m_about ca) h dX5_take_75 (fun M12 H locs hP hS h => ?_)
        refine am_iinc (k := 0) (d := nI 1) hx hb dX5_take_76 hl rfl rfl (by decide) h (fun y13 ls h hl => ?_)
        have hl : lv_has ls 3 [(2, .int y13), (0, .ref (ad 43)), (1, .int x1)] := hl
        refine lv_goto (tgt := 12) hx hb dX5_take_79 rfl ?_
        exact ih12 M12 y13 ls H locs h hP hS (lv_sub hl [0, 1, 2] rfl)
  refine key12 _ ?_ f12 M1 y2 ls H locs h hP hS hl
  intro M14 z15 ls H locs h hP hS hl
  exact am_vret hx hb hr hK hN hP hS h hlocks dX5_take_82
abbrev rmX5_letGo : Room := { frames := 0, cells := 0, slots := 0, locals := 0 }
set_option maxHeartbeats 4000000 in
set_option maxRecDepth 100000 in
theorem c_X5_letGo (l : Launch) (dC : Nat → ClassId) (dI : Nat → Nat → Nat) (ca : Nat → ClassId) (ad : Nat → Nat) (hI : am_inj ad) (M : am_M) (x1 : Int32) (x2 : Int32) (Q : am_M → Prop) (h : w_X5_letGo M x1 x2 Q) : Met l yX5_letGo wsX5_letGo rmX5_letGo (va_Pc [.ref (ad 43), .int x1, .int x2] (am_B dC dI ca ad M)) (am_Qv dC dI ca ad Q) 0 0 (am_A ad 63) := by
  refine Met.ofW (cc := cX5_letGo) (maxL := 4) (ret := none) (by decide) rfl ?_
  intro p e s m args below meth c s₁ B hml hv
  obtain ⟨rfl, hP, hK, hN⟩ := hv
  have hx := B.exec
  have hb := B.bytes
  have hr := B.returns
  have hts := atoms_spec (ws := wsX5_letGo) B.pre
  have hta : ∀ w ∈ am_all, w.before _ s = true := fun w hw => hts w (List.mem_cons_of_mem _ hw)
  have hown : s.vm.findClass RX5 = some m.cls := findClass_of_methodNamed B.named
  have hlocks := B.notSynchronized
  have hl := lv_entry ([.ref (ad 43), .int x1, .int x2]) (n := 4) (Nat.le_of_ble_eq_true rfl)
  rw [lg_entry_eq]
  generalize (lg_sl ([.ref (ad 43), .int x1, .int x2]) ++ List.replicate (4 - (lg_sl ([.ref (ad 43), .int x1, .int x2])).length) Slot.unset).toArray = ls at hl ⊢
  have hl : lv_has ls 4 [(0, .ref (ad 43)), (1, .int x1), (2, .int x2)] := hl
  replace h := w_X5_letGo_s h
  refine am_enter (A := am_A ad 63) hP (fun H locs hP hS => ?_)
  refine lv_iconst (v := (nI 0)) hx hb dX5_letGo_0 rfl ?_
  refine am_topi h (fun y1 h => ?_)
  refine lv_istore_n hx hb dX5_letGo_1 rfl hl (by decide) rfl (fun ls hl => ?_)
  have hl : lv_has ls 4 [(3, .int y1), (0, .ref (ad 43)), (1, .int x1), (2, .int x2)] := hl
  obtain ⟨f2, h⟩ := h
  have key2 : ∀ (K : am_M → Int32 → Prop), (∀ (M3 : am_M) (z2 : Int32) (ls : Array Slot) (H : Heap) (locs : List Loc), K M3 z2 → va_P (dC, dI) vwCl (am_w ad (am_sh ca) 63 M3) H → va_S (am_A ad 63) s.heap H locs → lv_has ls 4 [(3, .int z2), (0, .ref (ad 43)), (1, .int x1), (2, .int x2)] → am_Wv p l e wsX5_letGo rmX5_letGo s m ([.ref (ad 43), .int x1, .int x2] : List Value).toArray below meth c H locs dC dI ca ad Q (F0 m 57 ls [])) → ∀ (f2 : Nat) (M3 : am_M) (z2 : Int32) (ls : Array Slot) (H : Heap) (locs : List Loc), w_X5_letGo_L2 x1 x2 Q K f2 M3 z2 → va_P (dC, dI) vwCl (am_w ad (am_sh ca) 63 M3) H → va_S (am_A ad 63) s.heap H locs → lv_has ls 4 [(3, .int z2), (0, .ref (ad 43)), (1, .int x1), (2, .int x2)] → am_Wv p l e wsX5_letGo rmX5_letGo s m ([.ref (ad 43), .int x1, .int x2] : List Value).toArray below meth c H locs dC dI ca ad Q (F0 m 2 ls []) := by
    intro K hex2 f2
    induction f2 with
    | zero => intro _ _ _ _ _ h; exact False.elim h
    | succ f2 ih2 =>
      intro M3 z2 ls H locs h hP hS hl
      replace h := w_X5_letGo_L2_s h
      refine lv_iload_n hx hb dX5_letGo_2 rfl (lv_at hl 0 rfl) ?_
      refine lv_bipush (v := (nI 8)) hx hb dX5_letGo_3 rfl ?_
      refine lv_icmp_ge (tgt := 57) hx hb dX5_letGo_5 rfl (fun hc => ?_) (fun hc => ?_)
      · replace h := h.1 hc
        clear hc
        exact hex2 M3 z2 ls H locs h hP hS (lv_sub hl [0, 1, 2, 3] rfl)
      · replace h := h.2 hc
        clear hc
        refine lv_aload_n hx hb dX5_letGo_8 rfl (lv_at hl 1 rfl) ?_
        refine gf_X5_38 hx hb hta hown hK hP (am_wo (i := 43) (by decide) (am_s_model ca)) (am_fvr (j := 53) rfl) dX5_letGo_9 ?_
        refine lv_bipush (v := (nI 8)) hx hb dX5_letGo_12 rfl ?_
        refine lv_iload_n hx hb dX5_letGo_14 rfl (lv_at hl 2 rfl) ?_
        refine lv_imul hx hb dX5_letGo_15 ?_
        refine lv_iload_n hx hb dX5_letGo_16 rfl (lv_at hl 0 rfl) ?_
        refine lv_iadd hx hb dX5_letGo_17 ?_
        refine lv_aload_n hx hb dX5_letGo_18 rfl (lv_at hl 1 rfl) ?_
        refine gf_X5_38 hx hb hta hown hK hP (am_wo (i := 43) (by decide) (am_s_model ca)) (am_fvr (j := 53) rfl) dX5_letGo_19 ?_
        refine lv_bipush (v := (nI 8)) hx hb dX5_letGo_22 rfl ?_
        refine lv_iload_n hx hb dX5_letGo_24 rfl (lv_at hl 2 rfl) ?_
        refine lv_imul hx hb dX5_letGo_25 ?_
        refine lv_iload_n hx hb dX5_letGo_26 rfl (lv_at hl 0 rfl) ?_
        refine lv_iadd hx hb dX5_letGo_27 ?_
        refine am_iald hx hb hK hP (i := 53) (by decide) (am_s_m_held ca) h dX5_letGo_28 (fun k4 hk4 h => ?_)
        refine lv_iload_n hx hb dX5_letGo_29 rfl (lv_at hl 3 rfl) ?_
        refine lv_iconst (v := (nI 1)) hx hb dX5_letGo_30 rfl ?_
        refine lv_iadd hx hb dX5_letGo_31 ?_
        refine lv_icmp_ne (tgt := 39) hx hb dX5_letGo_32 rfl (fun hc => ?_) (fun hc => ?_)
        · replace h := h.1 hc
          clear hc
          refine lv_aload_n hx hb dX5_letGo_39 rfl (lv_at hl 1 rfl) ?_
          refine gf_X5_38 hx hb hta hown hK hP (am_wo (i := 43) (by decide) (am_s_model ca)) (am_fvr (j := 53) rfl) dX5_letGo_40 ?_
          refine lv_bipush (v := (nI 8)) hx hb dX5_letGo_43 rfl ?_
          refine lv_iload_n hx hb dX5_letGo_45 rfl (lv_at hl 2 rfl) ?_
          refine lv_imul hx hb dX5_letGo_46 ?_
          refine lv_iload_n hx hb dX5_letGo_47 rfl (lv_at hl 0 rfl) ?_
          refine lv_iadd hx hb dX5_letGo_48 ?_
          refine am_iald hx hb hK hP (i := 53) (by decide) (am_s_m_held ca) h dX5_letGo_49 (fun k5 hk5 h => ?_)
          refine am_iast hx hb hK hP hI hS (i := 53) (by decide) (am_s_m_held ca) h dX5_letGo_50 (fun M6 H locs hP hS h => ?_)
          refine am_iinc (k := 0) (d := nI 1) hx hb dX5_letGo_51 hl rfl rfl (by decide) h (fun y7 ls h hl => ?_)
          have hl : lv_has ls 4 [(3, .int y7), (0, .ref (ad 43)), (1, .int x1), (2, .int x2)] := hl
          refine lv_goto (tgt := 2) hx hb dX5_letGo_54 rfl ?_
          exact ih2 M6 y7 ls H locs h hP hS (lv_sub hl [0, 1, 2, 3] rfl)
        · replace h := h.2 hc
          clear hc
          refine lv_iconst (v := (nI 0)) hx hb dX5_letGo_35 rfl ?_
          refine lv_goto (tgt := 50) hx hb dX5_letGo_36 rfl ?_
          refine am_iast hx hb hK hP hI hS (i := 53) (by decide) (am_s_m_held ca) h dX5_letGo_50 (fun M8 H locs hP hS h => ?_)
          refine am_iinc (k := 0) (d := nI 1) hx hb dX5_letGo_51 hl rfl rfl (by decide) h (fun y9 ls h hl => ?_)
          have hl : lv_has ls 4 [(3, .int y9), (0, .ref (ad 43)), (1, .int x1), (2, .int x2)] := hl
          refine lv_goto (tgt := 2) hx hb dX5_letGo_54 rfl ?_
          exact ih2 M8 y9 ls H locs h hP hS (lv_sub hl [0, 1, 2, 3] rfl)
  refine key2 _ ?_ f2 M y1 ls H locs h hP hS hl
  intro M10 z11 ls H locs h hP hS hl
  refine lv_aload_n hx hb dX5_letGo_57 rfl (lv_at hl 1 rfl) ?_
  refine gf_X5_35 hx hb hta hown hK hP (am_wo (i := 43) (by decide) (am_s_model ca)) (am_fvr (j := 52) rfl) dX5_letGo_58 ?_
  refine lv_iconst (v := (nI 4)) hx hb dX5_letGo_61 rfl ?_
  refine lv_iload_n hx hb dX5_letGo_62 rfl (lv_at hl 3 rfl) ?_
  refine lv_imul hx hb dX5_letGo_63 ?_
  refine lv_iload_n hx hb dX5_letGo_64 rfl (lv_at hl 2 rfl) ?_
  refine lv_iadd hx hb dX5_letGo_65 ?_
  refine lv_iconst (v := (nI 0)) hx hb dX5_letGo_66 rfl ?_
  refine am_iast hx hb hK hP hI hS (i := 52) (by decide) (am_s_m_states ca) h dX5_letGo_67 (fun M12 H locs hP hS h => ?_)
  exact am_vret hx hb hr hK hN hP hS h hlocks dX5_letGo_68
abbrev rmX5_giveUp : Room := { frames := 1, cells := 0, slots := 0, locals := 25 }
set_option maxHeartbeats 4000000 in
set_option maxRecDepth 100000 in
theorem c_X5_giveUp (l : Launch) (dC : Nat → ClassId) (dI : Nat → Nat → Nat) (ca : Nat → ClassId) (ad : Nat → Nat) (hI : am_inj ad) (M : am_M) (x1 : Int32) (x2 : Int32) (Q : am_M → Prop) (h : w_X5_giveUp M x1 x2 Q) : Met l yX5_giveUp wsX5_giveUp rmX5_giveUp (va_Pc [.ref (ad 43), .int x1, .int x2] (am_B dC dI ca ad M)) (am_Qv dC dI ca ad Q) 0 0 (am_A ad 63) := by
  refine Met.ofW (cc := cX5_giveUp) (maxL := 3) (ret := none) (by decide) rfl ?_
  intro p e s m args below meth c s₁ B hml hv
  obtain ⟨rfl, hP, hK, hN⟩ := hv
  have hx := B.exec
  have hb := B.bytes
  have hr := B.returns
  have hts := atoms_spec (ws := wsX5_giveUp) B.pre
  have hta : ∀ w ∈ am_all, w.before _ s = true := fun w hw => hts w (List.mem_cons_of_mem _ hw)
  have hown : s.vm.findClass RX5 = some m.cls := findClass_of_methodNamed B.named
  have hlocks := B.notSynchronized
  have hl := lv_entry ([.ref (ad 43), .int x1, .int x2]) (n := 3) (Nat.le_of_ble_eq_true rfl)
  rw [lg_entry_eq]
  generalize (lg_sl ([.ref (ad 43), .int x1, .int x2]) ++ List.replicate (3 - (lg_sl ([.ref (ad 43), .int x1, .int x2])).length) Slot.unset).toArray = ls at hl ⊢
  have hl : lv_has ls 3 [(0, .ref (ad 43)), (1, .int x1), (2, .int x2)] := hl
  replace h := w_X5_giveUp_s h
  refine am_enter (A := am_A ad 63) hP (fun H locs hP hS => ?_)
  refine lv_aload_n hx hb dX5_giveUp_0 rfl (lv_at hl 0 rfl) ?_
  refine lv_iload_n hx hb dX5_giveUp_1 rfl (lv_at hl 1 rfl) ?_
  refine lv_iload_n hx hb dX5_giveUp_2 rfl (lv_at hl 2 rfl) ?_
  refine lv_iconst (v := (nI 3)) hx hb dX5_giveUp_3 rfl ?_
  refine lv_iconst (v := (nI 0)) hx hb dX5_giveUp_4 rfl ?_
  refine am_callv (va_runV (C := RX5) (As := [.int x1, .int x2, .int (nI 3), .int (nI 0)]) (rest := []) ⟨hx, hb, hml, hown, hts⟩ (c_X5_write l dC dI ca ad hI M x1 x2 (nI 3) (nI 0) _ h) ⟨callB_of 4 hts (am_gd mc_X5_write) rfl rfl rfl (hta _ mn_X5) (hta _ ml_X5_75) dc_X5_write ⟨Nat.le_of_ble_eq_true rfl, Nat.le_of_ble_eq_true rfl⟩, hta _ mi_X5_write, hta _ me_X5_write⟩ (am_preV (q := (RX5, TX5, 21)) hK hN hP rfl (by decide) (am_s_model ca)) rfl rfl hl.1 rfl (lv_room (Nat.le_of_ble_eq_true rfl)) dX5_giveUp_5 ⟨Nat.zero_le _, Nat.zero_le _⟩) hS (fun M1 H locs hP hS h => ?_)
  refine lv_aload_n hx hb dX5_giveUp_8 rfl (lv_at hl 0 rfl) ?_
  refine lv_iload_n hx hb dX5_giveUp_9 rfl (lv_at hl 1 rfl) ?_
  refine lv_iload_n hx hb dX5_giveUp_10 rfl (lv_at hl 2 rfl) ?_
  refine am_callv (va_runV (C := RX5) (As := [.int x1, .int x2]) (rest := []) ⟨hx, hb, hml, hown, hts⟩ (c_X5_letGo l dC dI ca ad hI M1 x1 x2 _ h) ⟨callB_of 2 hts (am_gd mc_X5_letGo) rfl rfl rfl (hta _ mn_X5) (hta _ ml_X5_79) dc_X5_letGo ⟨Nat.le_of_ble_eq_true rfl, Nat.le_of_ble_eq_true rfl⟩, hta _ mi_X5_letGo, hta _ me_X5_letGo⟩ (am_preV (q := (RX5, TX5, 21)) hK hN hP rfl (by decide) (am_s_model ca)) rfl rfl hl.1 rfl (lv_room (Nat.le_of_ble_eq_true rfl)) dX5_giveUp_11 ⟨Nat.zero_le _, Nat.zero_le _⟩) hS (fun M2 H locs hP hS h => ?_)
  exact am_vret hx hb hr hK hN hP hS h hlocks dX5_giveUp_14
abbrev rmX5_holding : Room := { frames := 0, cells := 0, slots := 0, locals := 0 }
set_option maxHeartbeats 4000000 in
set_option maxRecDepth 100000 in
theorem c_X5_holding (l : Launch) (dC : Nat → ClassId) (dI : Nat → Nat → Nat) (ca : Nat → ClassId) (ad : Nat → Nat) (hI : am_inj ad) (M : am_M) (x1 : Int32) (x2 : Int32) (Q : Int32 → am_M → Prop) (h : w_X5_holding M x1 x2 Q) : Met l yX5_holding wsX5_holding rmX5_holding (va_Pc [.ref (ad 43), .int x1, .int x2] (am_B dC dI ca ad M)) (am_Qi dC dI ca ad Q) 0 0 (am_A ad 63) := by
  refine Met.ofW (cc := cX5_holding) (maxL := 5) (ret := (some .int)) (by decide) rfl ?_
  intro p e s m args below meth c s₁ B hml hv
  obtain ⟨rfl, hP, hK, hN⟩ := hv
  have hx := B.exec
  have hb := B.bytes
  have hr := B.returns
  have hts := atoms_spec (ws := wsX5_holding) B.pre
  have hta : ∀ w ∈ am_all, w.before _ s = true := fun w hw => hts w (List.mem_cons_of_mem _ hw)
  have hown : s.vm.findClass RX5 = some m.cls := findClass_of_methodNamed B.named
  have hlocks := B.notSynchronized
  have hl := lv_entry ([.ref (ad 43), .int x1, .int x2]) (n := 5) (Nat.le_of_ble_eq_true rfl)
  rw [lg_entry_eq]
  generalize (lg_sl ([.ref (ad 43), .int x1, .int x2]) ++ List.replicate (5 - (lg_sl ([.ref (ad 43), .int x1, .int x2])).length) Slot.unset).toArray = ls at hl ⊢
  have hl : lv_has ls 5 [(0, .ref (ad 43)), (1, .int x1), (2, .int x2)] := hl
  replace h := w_X5_holding_s h
  refine am_enter (A := am_A ad 63) hP (fun H locs hP hS => ?_)
  refine lv_iconst (v := (nI 0)) hx hb dX5_holding_0 rfl ?_
  refine am_topi h (fun y1 h => ?_)
  refine lv_istore_n hx hb dX5_holding_1 rfl hl (by decide) rfl (fun ls hl => ?_)
  have hl : lv_has ls 5 [(3, .int y1), (0, .ref (ad 43)), (1, .int x1), (2, .int x2)] := hl
  refine lv_iconst (v := (nI 0)) hx hb dX5_holding_2 rfl ?_
  refine am_topi h (fun y2 h => ?_)
  refine lv_istore hx hb dX5_holding_3 hl (by decide) rfl (fun ls hl => ?_)
  have hl : lv_has ls 5 [(4, .int y2), (3, .int y1), (0, .ref (ad 43)), (1, .int x1), (2, .int x2)] := hl
  obtain ⟨f5, h⟩ := h
  have key5 : ∀ (K : am_M → Int32 → Int32 → Prop), (∀ (M5 : am_M) (z3 : Int32) (z4 : Int32) (ls : Array Slot) (H : Heap) (locs : List Loc), K M5 z3 z4 → va_P (dC, dI) vwCl (am_w ad (am_sh ca) 63 M5) H → va_S (am_A ad 63) s.heap H locs → lv_has ls 5 [(4, .int z4), (3, .int z3), (0, .ref (ad 43)), (1, .int x1), (2, .int x2)] → am_Wi p l e wsX5_holding rmX5_holding s m ([.ref (ad 43), .int x1, .int x2] : List Value).toArray below meth c H locs dC dI ca ad Q (F0 m 47 ls [])) → ∀ (f5 : Nat) (M5 : am_M) (z3 : Int32) (z4 : Int32) (ls : Array Slot) (H : Heap) (locs : List Loc), w_X5_holding_L5 x1 x2 Q K f5 M5 z3 z4 → va_P (dC, dI) vwCl (am_w ad (am_sh ca) 63 M5) H → va_S (am_A ad 63) s.heap H locs → lv_has ls 5 [(4, .int z4), (3, .int z3), (0, .ref (ad 43)), (1, .int x1), (2, .int x2)] → am_Wi p l e wsX5_holding rmX5_holding s m ([.ref (ad 43), .int x1, .int x2] : List Value).toArray below meth c H locs dC dI ca ad Q (F0 m 5 ls []) := by
    intro K hex5 f5
    induction f5 with
    | zero => intro _ _ _ _ _ _ h; exact False.elim h
    | succ f5 ih5 =>
      intro M5 z3 z4 ls H locs h hP hS hl
      replace h := w_X5_holding_L5_s h
      refine lv_iload hx hb dX5_holding_5 (lv_at hl 0 rfl) ?_
      refine lv_bipush (v := (nI 8)) hx hb dX5_holding_7 rfl ?_
      refine lv_icmp_ge (tgt := 47) hx hb dX5_holding_9 rfl (fun hc => ?_) (fun hc => ?_)
      · replace h := h.1 hc
        clear hc
        exact hex5 M5 z3 z4 ls H locs h hP hS (lv_sub hl [0, 1, 2, 3, 4] rfl)
      · replace h := h.2 hc
        clear hc
        refine lv_aload_n hx hb dX5_holding_12 rfl (lv_at hl 2 rfl) ?_
        refine gf_X5_38 hx hb hta hown hK hP (am_wo (i := 43) (by decide) (am_s_model ca)) (am_fvr (j := 53) rfl) dX5_holding_13 ?_
        refine lv_bipush (v := (nI 8)) hx hb dX5_holding_16 rfl ?_
        refine lv_iload_n hx hb dX5_holding_18 rfl (lv_at hl 3 rfl) ?_
        refine lv_imul hx hb dX5_holding_19 ?_
        refine lv_iload hx hb dX5_holding_20 (lv_at hl 0 rfl) ?_
        refine lv_iadd hx hb dX5_holding_22 ?_
        refine am_iald hx hb hK hP (i := 53) (by decide) (am_s_m_held ca) h dX5_holding_23 (fun k6 hk6 h => ?_)
        refine lv_iload_n hx hb dX5_holding_24 rfl (lv_at hl 4 rfl) ?_
        refine lv_iconst (v := (nI 1)) hx hb dX5_holding_25 rfl ?_
        refine lv_iadd hx hb dX5_holding_26 ?_
        refine lv_icmp_ne (tgt := 39) hx hb dX5_holding_27 rfl (fun hc => ?_) (fun hc => ?_)
        · replace h := h.1 hc
          clear hc
          refine lv_iload_n hx hb dX5_holding_39 rfl (lv_at hl 1 rfl) ?_
          refine am_topi h (fun y7 h => ?_)
          refine lv_istore_n hx hb dX5_holding_40 rfl hl (by decide) rfl (fun ls hl => ?_)
          have hl : lv_has ls 5 [(3, .int y7), (4, .int z4), (0, .ref (ad 43)), (1, .int x1), (2, .int x2)] := hl
          refine am_iinc (k := 1) (d := nI 1) hx hb dX5_holding_41 hl rfl rfl (by decide) h (fun y8 ls h hl => ?_)
          have hl : lv_has ls 5 [(4, .int y8), (3, .int y7), (0, .ref (ad 43)), (1, .int x1), (2, .int x2)] := hl
          refine lv_goto (tgt := 5) hx hb dX5_holding_44 rfl ?_
          exact ih5 M5 y7 y8 ls H locs h hP hS (lv_sub hl [0, 1, 2, 3, 4] rfl)
        · replace h := h.2 hc
          clear hc
          refine lv_iload_n hx hb dX5_holding_30 rfl (lv_at hl 1 rfl) ?_
          refine lv_iconst (v := (nI 1)) hx hb dX5_holding_31 rfl ?_
          refine lv_iload hx hb dX5_holding_32 (lv_at hl 0 rfl) ?_
          refine lv_ishl hx hb dX5_holding_34 ?_
          refine lv_ior hx hb dX5_holding_35 ?_
          refine lv_goto (tgt := 40) hx hb dX5_holding_36 rfl ?_
          refine am_topi h (fun y9 h => ?_)
          refine lv_istore_n hx hb dX5_holding_40 rfl hl (by decide) rfl (fun ls hl => ?_)
          have hl : lv_has ls 5 [(3, .int y9), (4, .int z4), (0, .ref (ad 43)), (1, .int x1), (2, .int x2)] := hl
          refine am_iinc (k := 1) (d := nI 1) hx hb dX5_holding_41 hl rfl rfl (by decide) h (fun y10 ls h hl => ?_)
          have hl : lv_has ls 5 [(4, .int y10), (3, .int y9), (0, .ref (ad 43)), (1, .int x1), (2, .int x2)] := hl
          refine lv_goto (tgt := 5) hx hb dX5_holding_44 rfl ?_
          exact ih5 M5 y9 y10 ls H locs h hP hS (lv_sub hl [0, 1, 2, 3, 4] rfl)
  refine key5 _ ?_ f5 M y1 y2 ls H locs h hP hS hl
  intro M11 z12 z13 ls H locs h hP hS hl
  refine lv_iload_n hx hb dX5_holding_47 rfl (lv_at hl 1 rfl) ?_
  exact am_iret hx hb hr hK hN hP hS h hlocks dX5_holding_48
abbrev rmX5_force : Room := { frames := 1, cells := 0, slots := 0, locals := 25 }
set_option maxHeartbeats 4000000 in
set_option maxRecDepth 100000 in
theorem c_X5_force (l : Launch) (dC : Nat → ClassId) (dI : Nat → Nat → Nat) (ca : Nat → ClassId) (ad : Nat → Nat) (hI : am_inj ad) (M : am_M) (x1 : Int32) (x2 : Int32) (x3 : Int32) (x4 : Int32) (Q : am_M → Prop) (h : w_X5_force M x1 x2 x3 x4 Q) : Met l yX5_force wsX5_force rmX5_force (va_Pc [.ref (ad 43), .int x1, .int x2, .int x3, .int x4] (am_B dC dI ca ad M)) (am_Qv dC dI ca ad Q) 0 0 (am_A ad 63) := by
  refine Met.ofW (cc := cX5_force) (maxL := 6) (ret := none) (by decide) rfl ?_
  intro p e s m args below meth c s₁ B hml hv
  obtain ⟨rfl, hP, hK, hN⟩ := hv
  have hx := B.exec
  have hb := B.bytes
  have hr := B.returns
  have hts := atoms_spec (ws := wsX5_force) B.pre
  have hta : ∀ w ∈ am_all, w.before _ s = true := fun w hw => hts w (List.mem_cons_of_mem _ hw)
  have hown : s.vm.findClass RX5 = some m.cls := findClass_of_methodNamed B.named
  have hlocks := B.notSynchronized
  have hl := lv_entry ([.ref (ad 43), .int x1, .int x2, .int x3, .int x4]) (n := 6) (Nat.le_of_ble_eq_true rfl)
  rw [lg_entry_eq]
  generalize (lg_sl ([.ref (ad 43), .int x1, .int x2, .int x3, .int x4]) ++ List.replicate (6 - (lg_sl ([.ref (ad 43), .int x1, .int x2, .int x3, .int x4])).length) Slot.unset).toArray = ls at hl ⊢
  have hl : lv_has ls 6 [(0, .ref (ad 43)), (1, .int x1), (2, .int x2), (3, .int x3), (4, .int x4)] := hl
  replace h := w_X5_force_s h
  refine am_enter (A := am_A ad 63) hP (fun H locs hP hS => ?_)
  refine lv_aload_n hx hb dX5_force_0 rfl (lv_at hl 0 rfl) ?_
  refine lv_iload_n hx hb dX5_force_1 rfl (lv_at hl 1 rfl) ?_
  refine lv_iload_n hx hb dX5_force_2 rfl (lv_at hl 2 rfl) ?_
  refine lv_iload_n hx hb dX5_force_3 rfl (lv_at hl 3 rfl) ?_
  refine lv_iload hx hb dX5_force_4 (lv_at hl 4 rfl) ?_
  refine am_callv (va_runV (C := RX5) (As := [.int x1, .int x2, .int x3, .int x4]) (rest := []) ⟨hx, hb, hml, hown, hts⟩ (c_X5_write l dC dI ca ad hI M x1 x2 x3 x4 _ h) ⟨callB_of 4 hts (am_gd mc_X5_write) rfl rfl rfl (hta _ mn_X5) (hta _ ml_X5_75) dc_X5_write ⟨Nat.le_of_ble_eq_true rfl, Nat.le_of_ble_eq_true rfl⟩, hta _ mi_X5_write, hta _ me_X5_write⟩ (am_preV (q := (RX5, TX5, 21)) hK hN hP rfl (by decide) (am_s_model ca)) rfl rfl hl.1 rfl (lv_room (Nat.le_of_ble_eq_true rfl)) dX5_force_6 ⟨Nat.zero_le _, Nat.zero_le _⟩) hS (fun M1 H locs hP hS h => ?_)
  refine lv_iconst (v := (nI 0)) hx hb dX5_force_9 rfl ?_
  refine am_topi h (fun y2 h => ?_)
  refine lv_istore hx hb dX5_force_10 hl (by decide) rfl (fun ls hl => ?_)
  have hl : lv_has ls 6 [(5, .int y2), (0, .ref (ad 43)), (1, .int x1), (2, .int x2), (3, .int x3), (4, .int x4)] := hl
  obtain ⟨f12, h⟩ := h
  have key12 : ∀ (K : am_M → Int32 → Prop), (∀ (M4 : am_M) (z3 : Int32) (ls : Array Slot) (H : Heap) (locs : List Loc), K M4 z3 → va_P (dC, dI) vwCl (am_w ad (am_sh ca) 63 M4) H → va_S (am_A ad 63) s.heap H locs → lv_has ls 6 [(5, .int z3), (0, .ref (ad 43)), (1, .int x1), (2, .int x2), (3, .int x3), (4, .int x4)] → am_Wv p l e wsX5_force rmX5_force s m ([.ref (ad 43), .int x1, .int x2, .int x3, .int x4] : List Value).toArray below meth c H locs dC dI ca ad Q (F0 m 42 ls [])) → ∀ (f12 : Nat) (M4 : am_M) (z3 : Int32) (ls : Array Slot) (H : Heap) (locs : List Loc), w_X5_force_L12 x1 x2 x3 x4 Q K f12 M4 z3 → va_P (dC, dI) vwCl (am_w ad (am_sh ca) 63 M4) H → va_S (am_A ad 63) s.heap H locs → lv_has ls 6 [(5, .int z3), (0, .ref (ad 43)), (1, .int x1), (2, .int x2), (3, .int x3), (4, .int x4)] → am_Wv p l e wsX5_force rmX5_force s m ([.ref (ad 43), .int x1, .int x2, .int x3, .int x4] : List Value).toArray below meth c H locs dC dI ca ad Q (F0 m 12 ls []) := by
    intro K hex12 f12
    induction f12 with
    | zero => intro _ _ _ _ _ h; exact False.elim h
    | succ f12 ih12 =>
      intro M4 z3 ls H locs h hP hS hl
      replace h := w_X5_force_L12_s h
      refine lv_iload hx hb dX5_force_12 (lv_at hl 0 rfl) ?_
      refine lv_aload_n hx hb dX5_force_14 rfl (lv_at hl 1 rfl) ?_
      refine gf_X5_41 hx hb hta hown hK hP (am_wo (i := 43) (by decide) (am_s_model ca)) (am_fvr (j := 54) rfl) dX5_force_15 ?_
      refine lv_iload_n hx hb dX5_force_18 rfl (lv_at hl 2 rfl) ?_
      refine am_iald hx hb hK hP (i := 54) (by decide) (am_s_m_length ca) h dX5_force_19 (fun k5 hk5 h => ?_)
      refine lv_icmp_ge (tgt := 42) hx hb dX5_force_20 rfl (fun hc => ?_) (fun hc => ?_)
      · replace h := h.1 hc
        clear hc
        exact hex12 M4 z3 ls H locs h hP hS (lv_sub hl [0, 1, 2, 3, 4, 5] rfl)
      · replace h := h.2 hc
        clear hc
        refine lv_aload_n hx hb dX5_force_23 rfl (lv_at hl 1 rfl) ?_
        refine gf_X5_53 hx hb hta hown hK hP (am_wo (i := 43) (by decide) (am_s_model ca)) (am_fvr (j := 58) rfl) dX5_force_24 ?_
        refine lv_bipush (v := (nI 64)) hx hb dX5_force_27 rfl ?_
        refine lv_iload_n hx hb dX5_force_29 rfl (lv_at hl 2 rfl) ?_
        refine lv_imul hx hb dX5_force_30 ?_
        refine lv_iload hx hb dX5_force_31 (lv_at hl 0 rfl) ?_
        refine lv_iadd hx hb dX5_force_33 ?_
        refine lv_iconst (v := (nI 1)) hx hb dX5_force_34 rfl ?_
        refine am_zast hx hb hK hP hI hS (i := 58) (by decide) (am_s_m_logSafe ca) h dX5_force_35 (fun M6 H locs hP hS h => ?_)
        refine am_iinc (k := 0) (d := nI 1) hx hb dX5_force_36 hl rfl rfl (by decide) h (fun y7 ls h hl => ?_)
        have hl : lv_has ls 6 [(5, .int y7), (0, .ref (ad 43)), (1, .int x1), (2, .int x2), (3, .int x3), (4, .int x4)] := hl
        refine lv_goto (tgt := 12) hx hb dX5_force_39 rfl ?_
        exact ih12 M6 y7 ls H locs h hP hS (lv_sub hl [0, 1, 2, 3, 4, 5] rfl)
  refine key12 _ ?_ f12 M1 y2 ls H locs h hP hS hl
  intro M8 z9 ls H locs h hP hS hl
  refine lv_aload_n hx hb dX5_force_42 rfl (lv_at hl 1 rfl) ?_
  refine gf_X5_13 hx hb hta hown hK hP (am_wo (i := 43) (by decide) (am_s_model ca)) (am_fvr (j := 45) rfl) dX5_force_43 ?_
  refine lv_iload_n hx hb dX5_force_46 rfl (lv_at hl 2 rfl) ?_
  refine lv_dup2_11 hx hb dX5_force_47 rfl rfl ?_
  refine am_iald hx hb hK hP (i := 45) (by decide) (am_s_m_forces ca) h dX5_force_48 (fun k10 hk10 h => ?_)
  refine lv_iconst (v := (nI 1)) hx hb dX5_force_49 rfl ?_
  refine lv_iadd hx hb dX5_force_50 ?_
  refine am_iast hx hb hK hP hI hS (i := 45) (by decide) (am_s_m_forces ca) h dX5_force_51 (fun M11 H locs hP hS h => ?_)
  exact am_vret hx hb hr hK hN hP hS h hlocks dX5_force_52
abbrev rmX5_hearPrepare : Room := { frames := 2, cells := 0, slots := 0, locals := 50 }
set_option maxHeartbeats 4000000 in
set_option maxRecDepth 100000 in
theorem c_X5_hearPrepare (l : Launch) (dC : Nat → ClassId) (dI : Nat → Nat → Nat) (ca : Nat → ClassId) (ad : Nat → Nat) (hI : am_inj ad) (M : am_M) (x1 : Int32) (x2 : Int32) (x3 : Int32) (Q : am_M → Prop) (h : w_X5_hearPrepare M x1 x2 x3 Q) : Met l yX5_hearPrepare wsX5_hearPrepare rmX5_hearPrepare (va_Pc [.ref (ad 43), .int x1, .int x2, .int x3] (am_B dC dI ca ad M)) (am_Qv dC dI ca ad Q) 0 0 (am_A ad 63) := by
  refine Met.ofW (cc := cX5_hearPrepare) (maxL := 6) (ret := none) (by decide) rfl ?_
  intro p e s m args below meth c s₁ B hml hv
  obtain ⟨rfl, hP, hK, hN⟩ := hv
  have hx := B.exec
  have hb := B.bytes
  have hr := B.returns
  have hts := atoms_spec (ws := wsX5_hearPrepare) B.pre
  have hta : ∀ w ∈ am_all, w.before _ s = true := fun w hw => hts w (List.mem_cons_of_mem _ hw)
  have hown : s.vm.findClass RX5 = some m.cls := findClass_of_methodNamed B.named
  have hlocks := B.notSynchronized
  have hl := lv_entry ([.ref (ad 43), .int x1, .int x2, .int x3]) (n := 6) (Nat.le_of_ble_eq_true rfl)
  rw [lg_entry_eq]
  generalize (lg_sl ([.ref (ad 43), .int x1, .int x2, .int x3]) ++ List.replicate (6 - (lg_sl ([.ref (ad 43), .int x1, .int x2, .int x3])).length) Slot.unset).toArray = ls at hl ⊢
  have hl : lv_has ls 6 [(0, .ref (ad 43)), (1, .int x1), (2, .int x2), (3, .int x3)] := hl
  replace h := w_X5_hearPrepare_s h
  have J101 : ∀ (M15 : am_M) (y10 : Int32) (y11 : Int32) (y12 : Int32) (y13 : Int32) (y14 : Int32) (ls : Array Slot) (H : Heap) (locs : List Loc), w_X5_hearPrepare_J101 M15 y10 y11 y12 y13 y14 Q → va_P (dC, dI) vwCl (am_w ad (am_sh ca) 63 M15) H → va_S (am_A ad 63) s.heap H locs → lv_has ls 6 [(0, .ref (ad 43)), (1, .int y10), (2, .int y11), (3, .int y12), (4, .int y13), (5, .int y14)] → am_Wv p l e wsX5_hearPrepare rmX5_hearPrepare s m ([.ref (ad 43), .int x1, .int x2, .int x3] : List Value).toArray below meth c H locs dC dI ca ad Q (F0 m 101 ls []) := by
      intro M15 y10 y11 y12 y13 y14 ls H locs h hP hS hl
      replace h := w_X5_hearPrepare_J101_s h
      refine lv_aload_n hx hb dX5_hearPrepare_101 rfl (lv_at hl 0 rfl) ?_
      refine lv_iload hx hb dX5_hearPrepare_102 (lv_at hl 5 rfl) ?_
      refine lv_iload_n hx hb dX5_hearPrepare_104 rfl (lv_at hl 1 rfl) ?_
      refine lv_iload_n hx hb dX5_hearPrepare_105 rfl (lv_at hl 2 rfl) ?_
      refine lv_iload_n hx hb dX5_hearPrepare_106 rfl (lv_at hl 3 rfl) ?_
      refine am_callv (va_runV (C := RX5) (As := [.int y14, .int y10, .int y11, .int y12]) (rest := []) ⟨hx, hb, hml, hown, hts⟩ (c_X5_send l dC dI ca ad hI M15 y14 y10 y11 y12 _ h) ⟨callB_of 4 hts (am_gd mc_X5_send) rfl rfl rfl (hta _ mn_X5) (hta _ ml_X5_83) dc_X5_send ⟨Nat.le_of_ble_eq_true rfl, Nat.le_of_ble_eq_true rfl⟩, hta _ mi_X5_send, hta _ me_X5_send⟩ (am_preV (q := (RX5, TX5, 21)) hK hN hP rfl (by decide) (am_s_model ca)) rfl rfl hl.1 rfl (lv_room (Nat.le_of_ble_eq_true rfl)) dX5_hearPrepare_107 ⟨Nat.zero_le _, Nat.zero_le _⟩) hS (fun M16 H locs hP hS h => ?_)
      exact am_vret hx hb hr hK hN hP hS h hlocks dX5_hearPrepare_110
  have J71 : ∀ (M9 : am_M) (y4 : Int32) (y5 : Int32) (y6 : Int32) (y7 : Int32) (y8 : Int32) (ls : Array Slot) (H : Heap) (locs : List Loc), w_X5_hearPrepare_J71 M9 y4 y5 y6 y7 y8 Q → va_P (dC, dI) vwCl (am_w ad (am_sh ca) 63 M9) H → va_S (am_A ad 63) s.heap H locs → lv_has ls 6 [(0, .ref (ad 43)), (1, .int y4), (2, .int y5), (3, .int y6), (4, .int y7), (5, .int y8)] → am_Wv p l e wsX5_hearPrepare rmX5_hearPrepare s m ([.ref (ad 43), .int x1, .int x2, .int x3] : List Value).toArray below meth c H locs dC dI ca ad Q (F0 m 71 ls []) := by
      intro M9 y4 y5 y6 y7 y8 ls H locs h hP hS hl
      replace h := w_X5_hearPrepare_J71_s h
      refine lv_iload hx hb dX5_hearPrepare_71 (lv_at hl 4 rfl) ?_
      refine lv_iconst (v := (nI 1)) hx hb dX5_hearPrepare_73 rfl ?_
      refine lv_icmp_ne (tgt := 101) hx hb dX5_hearPrepare_74 rfl (fun hc => ?_) (fun hc => ?_)
      · replace h := h.1 hc
        clear hc
        exact J101 M9 y4 y5 y6 y7 y8 ls H locs h hP hS (lv_sub hl [0, 1, 2, 3, 4, 5] rfl)
      · replace h := h.2 hc
        clear hc
        refine lv_aload_n hx hb dX5_hearPrepare_77 rfl (lv_at hl 0 rfl) ?_
        refine lv_iload_n hx hb dX5_hearPrepare_78 rfl (lv_at hl 1 rfl) ?_
        refine lv_iload_n hx hb dX5_hearPrepare_79 rfl (lv_at hl 3 rfl) ?_
        refine lv_iconst (v := (nI 1)) hx hb dX5_hearPrepare_80 rfl ?_
        refine lv_aload_n hx hb dX5_hearPrepare_81 rfl (lv_at hl 0 rfl) ?_
        refine lv_iload_n hx hb dX5_hearPrepare_82 rfl (lv_at hl 1 rfl) ?_
        refine lv_iload_n hx hb dX5_hearPrepare_83 rfl (lv_at hl 3 rfl) ?_
        refine am_calli (va_runV (C := RX5) (As := [.int y4, .int y6]) (rest := [.int (nI 1), .int y6, .int y4, .ref (ad 43)]) ⟨hx, hb, hml, hown, hts⟩ (c_X5_holding l dC dI ca ad hI M9 y4 y6 _ h) ⟨callB_of 2 hts (am_gd mc_X5_holding) rfl rfl rfl (hta _ mn_X5) (hta _ ml_X5_103) dc_X5_holding ⟨Nat.le_of_ble_eq_true rfl, Nat.le_of_ble_eq_true rfl⟩, hta _ mi_X5_holding, hta _ me_X5_holding⟩ (am_preV (q := (RX5, TX5, 21)) hK hN hP rfl (by decide) (am_s_model ca)) rfl rfl hl.1 rfl (lv_room (Nat.le_of_ble_eq_true rfl)) dX5_hearPrepare_84 ⟨Nat.zero_le _, Nat.zero_le _⟩) hS (fun y18 M17 H locs hP hS h => ?_)
        refine am_callv (va_runV (C := RX5) (As := [.int y4, .int y6, .int (nI 1), .int y18]) (rest := []) ⟨hx, hb, hml, hown, hts⟩ (c_X5_force l dC dI ca ad hI M17 y4 y6 (nI 1) y18 _ h) ⟨callB_of 4 hts (am_gd mc_X5_force) rfl rfl rfl (hta _ mn_X5) (hta _ ml_X5_94) dc_X5_force ⟨Nat.le_of_ble_eq_true rfl, Nat.le_of_ble_eq_true rfl⟩, hta _ mi_X5_force, hta _ me_X5_force⟩ (am_preV (q := (RX5, TX5, 21)) hK hN hP rfl (by decide) (am_s_model ca)) rfl rfl hl.1 rfl (lv_room (Nat.le_of_ble_eq_true rfl)) dX5_hearPrepare_87 ⟨Nat.zero_le _, Nat.zero_le _⟩) hS (fun M19 H locs hP hS h => ?_)
        refine lv_aload_n hx hb dX5_hearPrepare_90 rfl (lv_at hl 0 rfl) ?_
        refine gf_X5_35 hx hb hta hown hK hP (am_wo (i := 43) (by decide) (am_s_model ca)) (am_fvr (j := 52) rfl) dX5_hearPrepare_91 ?_
        refine lv_iconst (v := (nI 4)) hx hb dX5_hearPrepare_94 rfl ?_
        refine lv_iload_n hx hb dX5_hearPrepare_95 rfl (lv_at hl 3 rfl) ?_
        refine lv_imul hx hb dX5_hearPrepare_96 ?_
        refine lv_iload_n hx hb dX5_hearPrepare_97 rfl (lv_at hl 1 rfl) ?_
        refine lv_iadd hx hb dX5_hearPrepare_98 ?_
        refine lv_iconst (v := (nI 3)) hx hb dX5_hearPrepare_99 rfl ?_
        refine am_iast hx hb hK hP hI hS (i := 52) (by decide) (am_s_m_states ca) h dX5_hearPrepare_100 (fun M20 H locs hP hS h => ?_)
        exact J101 M20 y4 y5 y6 y7 y8 ls H locs h hP hS (lv_sub hl [0, 1, 2, 3, 4, 5] rfl)
  refine am_enter (A := am_A ad 63) hP (fun H locs hP hS => ?_)
  refine lv_aload_n hx hb dX5_hearPrepare_0 rfl (lv_at hl 0 rfl) ?_
  refine gf_X5_35 hx hb hta hown hK hP (am_wo (i := 43) (by decide) (am_s_model ca)) (am_fvr (j := 52) rfl) dX5_hearPrepare_1 ?_
  refine lv_iconst (v := (nI 4)) hx hb dX5_hearPrepare_4 rfl ?_
  refine lv_iload_n hx hb dX5_hearPrepare_5 rfl (lv_at hl 3 rfl) ?_
  refine lv_imul hx hb dX5_hearPrepare_6 ?_
  refine lv_iload_n hx hb dX5_hearPrepare_7 rfl (lv_at hl 1 rfl) ?_
  refine lv_iadd hx hb dX5_hearPrepare_8 ?_
  refine am_iald hx hb hK hP (i := 52) (by decide) (am_s_m_states ca) h dX5_hearPrepare_9 (fun k1 hk1 h => ?_)
  refine am_topi h (fun y2 h => ?_)
  refine lv_istore hx hb dX5_hearPrepare_10 hl (by decide) rfl (fun ls hl => ?_)
  have hl : lv_has ls 6 [(4, .int y2), (0, .ref (ad 43)), (1, .int x1), (2, .int x2), (3, .int x3)] := hl
  refine lv_iconst (v := (nI 2)) hx hb dX5_hearPrepare_12 rfl ?_
  refine am_topi h (fun y3 h => ?_)
  refine lv_istore hx hb dX5_hearPrepare_13 hl (by decide) rfl (fun ls hl => ?_)
  have hl : lv_has ls 6 [(5, .int y3), (4, .int y2), (0, .ref (ad 43)), (1, .int x1), (2, .int x2), (3, .int x3)] := hl
  refine lv_iload hx hb dX5_hearPrepare_15 (lv_at hl 1 rfl) ?_
  refine lv_if_ne (tgt := 26) hx hb dX5_hearPrepare_17 rfl (fun hc => ?_) (fun hc => ?_)
  · replace h := h.1 hc
    clear hc
    refine lv_iload hx hb dX5_hearPrepare_26 (lv_at hl 1 rfl) ?_
    refine lv_iconst (v := (nI 2)) hx hb dX5_hearPrepare_28 rfl ?_
    refine lv_icmp_ne (tgt := 44) hx hb dX5_hearPrepare_29 rfl (fun hc => ?_) (fun hc => ?_)
    · replace h := h.1 hc
      clear hc
      refine lv_iload hx hb dX5_hearPrepare_44 (lv_at hl 1 rfl) ?_
      refine lv_iconst (v := (nI 1)) hx hb dX5_hearPrepare_46 rfl ?_
      refine lv_icmp_ne (tgt := 71) hx hb dX5_hearPrepare_47 rfl (fun hc => ?_) (fun hc => ?_)
      · replace h := h.1 hc
        clear hc
        exact J71 M x1 x2 x3 y2 y3 ls H locs h hP hS (lv_sub hl [2, 3, 4, 5, 1, 0] rfl)
      · replace h := h.2 hc
        clear hc
        refine lv_aload_n hx hb dX5_hearPrepare_50 rfl (lv_at hl 2 rfl) ?_
        refine lv_iload_n hx hb dX5_hearPrepare_51 rfl (lv_at hl 3 rfl) ?_
        refine lv_iload_n hx hb dX5_hearPrepare_52 rfl (lv_at hl 5 rfl) ?_
        refine am_calli (va_runV (C := RX5) (As := [.int x1, .int x3]) (rest := []) ⟨hx, hb, hml, hown, hts⟩ (c_X5_holding l dC dI ca ad hI M x1 x3 _ h) ⟨callB_of 2 hts (am_gd mc_X5_holding) rfl rfl rfl (hta _ mn_X5) (hta _ ml_X5_103) dc_X5_holding ⟨Nat.le_of_ble_eq_true rfl, Nat.le_of_ble_eq_true rfl⟩, hta _ mi_X5_holding, hta _ me_X5_holding⟩ (am_preV (q := (RX5, TX5, 21)) hK hN hP rfl (by decide) (am_s_model ca)) rfl rfl hl.1 rfl (lv_room (Nat.le_of_ble_eq_true rfl)) dX5_hearPrepare_53 ⟨Nat.zero_le _, Nat.zero_le _⟩) hS (fun y22 M21 H locs hP hS h => ?_)
        refine lv_if_ne (tgt := 71) hx hb dX5_hearPrepare_56 rfl (fun hc => ?_) (fun hc => ?_)
        · replace h := h.1 hc
          clear hc
          exact J71 M21 x1 x2 x3 y2 y3 ls H locs h hP hS (lv_sub hl [2, 3, 4, 5, 1, 0] rfl)
        · replace h := h.2 hc
          clear hc
          refine lv_aload_n hx hb dX5_hearPrepare_59 rfl (lv_at hl 2 rfl) ?_
          refine lv_iload_n hx hb dX5_hearPrepare_60 rfl (lv_at hl 3 rfl) ?_
          refine lv_iload_n hx hb dX5_hearPrepare_61 rfl (lv_at hl 5 rfl) ?_
          refine am_callv (va_runV (C := RX5) (As := [.int x1, .int x3]) (rest := []) ⟨hx, hb, hml, hown, hts⟩ (c_X5_letGo l dC dI ca ad hI M21 x1 x3 _ h) ⟨callB_of 2 hts (am_gd mc_X5_letGo) rfl rfl rfl (hta _ mn_X5) (hta _ ml_X5_79) dc_X5_letGo ⟨Nat.le_of_ble_eq_true rfl, Nat.le_of_ble_eq_true rfl⟩, hta _ mi_X5_letGo, hta _ me_X5_letGo⟩ (am_preV (q := (RX5, TX5, 21)) hK hN hP rfl (by decide) (am_s_model ca)) rfl rfl hl.1 rfl (lv_room (Nat.le_of_ble_eq_true rfl)) dX5_hearPrepare_62 ⟨Nat.zero_le _, Nat.zero_le _⟩) hS (fun M23 H locs hP hS h => ?_)
          refine lv_iconst (v := (nI 3)) hx hb dX5_hearPrepare_65 rfl ?_
          refine am_topi h (fun y24 h => ?_)
          refine lv_istore hx hb dX5_hearPrepare_66 hl (by decide) rfl (fun ls hl => ?_)
          have hl : lv_has ls 6 [(5, .int y24), (4, .int y2), (0, .ref (ad 43)), (1, .int x1), (2, .int x2), (3, .int x3)] := hl
          refine lv_goto (tgt := 101) hx hb dX5_hearPrepare_68 rfl ?_
          exact J101 M23 x1 x2 x3 y2 y24 ls H locs h hP hS (lv_sub hl [2, 3, 4, 5, 1, 0] rfl)
    · replace h := h.2 hc
      clear hc
      refine lv_aload_n hx hb dX5_hearPrepare_32 rfl (lv_at hl 2 rfl) ?_
      refine lv_iload_n hx hb dX5_hearPrepare_33 rfl (lv_at hl 3 rfl) ?_
      refine lv_iload_n hx hb dX5_hearPrepare_34 rfl (lv_at hl 5 rfl) ?_
      refine am_callv (va_runV (C := RX5) (As := [.int x1, .int x3]) (rest := []) ⟨hx, hb, hml, hown, hts⟩ (c_X5_giveUp l dC dI ca ad hI M x1 x3 _ h) ⟨callB_of 2 hts (am_gd mc_X5_giveUp) rfl rfl rfl (hta _ mn_X5) (hta _ ml_X5_100) dc_X5_giveUp ⟨Nat.le_of_ble_eq_true rfl, Nat.le_of_ble_eq_true rfl⟩, hta _ mi_X5_giveUp, hta _ me_X5_giveUp⟩ (am_preV (q := (RX5, TX5, 21)) hK hN hP rfl (by decide) (am_s_model ca)) rfl rfl hl.1 rfl (lv_room (Nat.le_of_ble_eq_true rfl)) dX5_hearPrepare_35 ⟨Nat.zero_le _, Nat.zero_le _⟩) hS (fun M25 H locs hP hS h => ?_)
      refine lv_iconst (v := (nI 4)) hx hb dX5_hearPrepare_38 rfl ?_
      refine am_topi h (fun y26 h => ?_)
      refine lv_istore hx hb dX5_hearPrepare_39 hl (by decide) rfl (fun ls hl => ?_)
      have hl : lv_has ls 6 [(5, .int y26), (4, .int y2), (0, .ref (ad 43)), (1, .int x1), (2, .int x2), (3, .int x3)] := hl
      refine lv_goto (tgt := 101) hx hb dX5_hearPrepare_41 rfl ?_
      exact J101 M25 x1 x2 x3 y2 y26 ls H locs h hP hS (lv_sub hl [2, 3, 4, 5, 1, 0] rfl)
  · replace h := h.2 hc
    clear hc
    refine lv_iconst (v := (nI 4)) hx hb dX5_hearPrepare_20 rfl ?_
    refine am_topi h (fun y27 h => ?_)
    refine lv_istore hx hb dX5_hearPrepare_21 hl (by decide) rfl (fun ls hl => ?_)
    have hl : lv_has ls 6 [(5, .int y27), (4, .int y2), (0, .ref (ad 43)), (1, .int x1), (2, .int x2), (3, .int x3)] := hl
    refine lv_goto (tgt := 101) hx hb dX5_hearPrepare_23 rfl ?_
    exact J101 M x1 x2 x3 y2 y27 ls H locs h hP hS (lv_sub hl [2, 3, 4, 5, 1, 0] rfl)
abbrev rmX5_bits : Room := { frames := 0, cells := 0, slots := 0, locals := 0 }
set_option maxHeartbeats 4000000 in
set_option maxRecDepth 100000 in
theorem c_X5_bits (l : Launch) (dC : Nat → ClassId) (dI : Nat → Nat → Nat) (ca : Nat → ClassId) (ad : Nat → Nat) (hI : am_inj ad) (M : am_M) (x1 : Int32) (x2 : Int32) (Q : Int32 → am_M → Prop) (h : w_X5_bits M x1 x2 Q) : Met l yX5_bits wsX5_bits rmX5_bits (va_Pc [.ref (ad 43), .int x1, .int x2] (am_B dC dI ca ad M)) (am_Qi dC dI ca ad Q) 0 0 (am_A ad 63) := by
  refine Met.ofW (cc := cX5_bits) (maxL := 7) (ret := (some .int)) (by decide) rfl ?_
  intro p e s m args below meth c s₁ B hml hv
  obtain ⟨rfl, hP, hK, hN⟩ := hv
  have hx := B.exec
  have hb := B.bytes
  have hr := B.returns
  have hts := atoms_spec (ws := wsX5_bits) B.pre
  have hta : ∀ w ∈ am_all, w.before _ s = true := fun w hw => hts w (List.mem_cons_of_mem _ hw)
  have hown : s.vm.findClass RX5 = some m.cls := findClass_of_methodNamed B.named
  have hlocks := B.notSynchronized
  have hl := lv_entry ([.ref (ad 43), .int x1, .int x2]) (n := 7) (Nat.le_of_ble_eq_true rfl)
  rw [lg_entry_eq]
  generalize (lg_sl ([.ref (ad 43), .int x1, .int x2]) ++ List.replicate (7 - (lg_sl ([.ref (ad 43), .int x1, .int x2])).length) Slot.unset).toArray = ls at hl ⊢
  have hl : lv_has ls 7 [(0, .ref (ad 43)), (1, .int x1), (2, .int x2)] := hl
  replace h := w_X5_bits_s h
  refine am_enter (A := am_A ad 63) hP (fun H locs hP hS => ?_)
  refine lv_iconst (v := (nI 0)) hx hb dX5_bits_0 rfl ?_
  refine am_topi h (fun y1 h => ?_)
  refine lv_istore_n hx hb dX5_bits_1 rfl hl (by decide) rfl (fun ls hl => ?_)
  have hl : lv_has ls 7 [(3, .int y1), (0, .ref (ad 43)), (1, .int x1), (2, .int x2)] := hl
  refine lv_iconst (v := (nI 0)) hx hb dX5_bits_2 rfl ?_
  refine am_topi h (fun y2 h => ?_)
  refine lv_istore hx hb dX5_bits_3 hl (by decide) rfl (fun ls hl => ?_)
  have hl : lv_has ls 7 [(4, .int y2), (3, .int y1), (0, .ref (ad 43)), (1, .int x1), (2, .int x2)] := hl
  obtain ⟨f5, h⟩ := h
  have key5 : ∀ (K : am_M → Int32 → Int32 → Prop), (∀ (M5 : am_M) (z3 : Int32) (z4 : Int32) (ls : Array Slot) (H : Heap) (locs : List Loc), K M5 z3 z4 → va_P (dC, dI) vwCl (am_w ad (am_sh ca) 63 M5) H → va_S (am_A ad 63) s.heap H locs → lv_has ls 7 [(4, .int z4), (3, .int z3), (0, .ref (ad 43)), (1, .int x1), (2, .int x2)] → am_Wi p l e wsX5_bits rmX5_bits s m ([.ref (ad 43), .int x1, .int x2] : List Value).toArray below meth c H locs dC dI ca ad Q (F0 m 94 ls [])) → ∀ (f5 : Nat) (M5 : am_M) (z3 : Int32) (z4 : Int32) (ls : Array Slot) (H : Heap) (locs : List Loc), w_X5_bits_L5 x1 x2 Q K f5 M5 z3 z4 → va_P (dC, dI) vwCl (am_w ad (am_sh ca) 63 M5) H → va_S (am_A ad 63) s.heap H locs → lv_has ls 7 [(4, .int z4), (3, .int z3), (0, .ref (ad 43)), (1, .int x1), (2, .int x2)] → am_Wi p l e wsX5_bits rmX5_bits s m ([.ref (ad 43), .int x1, .int x2] : List Value).toArray below meth c H locs dC dI ca ad Q (F0 m 5 ls []) := by
    intro K hex5 f5
    induction f5 with
    | zero => intro _ _ _ _ _ _ h; exact False.elim h
    | succ f5 ih5 =>
      intro M5 z3 z4 ls H locs h hP hS hl
      replace h := w_X5_bits_L5_s h
      refine lv_iload hx hb dX5_bits_5 (lv_at hl 0 rfl) ?_
      refine lv_iconst (v := (nI 4)) hx hb dX5_bits_7 rfl ?_
      refine lv_icmp_ge (tgt := 94) hx hb dX5_bits_8 rfl (fun hc => ?_) (fun hc => ?_)
      · replace h := h.1 hc
        clear hc
        exact hex5 M5 z3 z4 ls H locs h hP hS (lv_sub hl [0, 1, 2, 3, 4] rfl)
      · replace h := h.2 hc
        clear hc
        refine lv_iconst (v := (nI 4)) hx hb dX5_bits_11 rfl ?_
        refine lv_iload_n hx hb dX5_bits_12 rfl (lv_at hl 3 rfl) ?_
        refine lv_imul hx hb dX5_bits_13 ?_
        refine lv_iload hx hb dX5_bits_14 (lv_at hl 0 rfl) ?_
        refine lv_iadd hx hb dX5_bits_16 ?_
        refine am_topi h (fun y6 h => ?_)
        refine lv_istore hx hb dX5_bits_17 hl (by decide) rfl (fun ls hl => ?_)
        have hl : lv_has ls 7 [(5, .int y6), (4, .int z4), (3, .int z3), (0, .ref (ad 43)), (1, .int x1), (2, .int x2)] := hl
        refine lv_iload_n hx hb dX5_bits_19 rfl (lv_at hl 5 rfl) ?_
        refine lv_if_ne (tgt := 33) hx hb dX5_bits_20 rfl (fun hc => ?_) (fun hc => ?_)
        · replace h := h.1 hc
          clear hc
          refine lv_iload_n hx hb dX5_bits_33 rfl (lv_at hl 5 rfl) ?_
          refine lv_iconst (v := (nI 1)) hx hb dX5_bits_34 rfl ?_
          refine lv_icmp_ne (tgt := 48) hx hb dX5_bits_35 rfl (fun hc => ?_) (fun hc => ?_)
          · replace h := h.1 hc
            clear hc
            refine lv_iload_n hx hb dX5_bits_48 rfl (lv_at hl 5 rfl) ?_
            refine lv_iconst (v := (nI 2)) hx hb dX5_bits_49 rfl ?_
            refine lv_icmp_ne (tgt := 63) hx hb dX5_bits_50 rfl (fun hc => ?_) (fun hc => ?_)
            · replace h := h.1 hc
              clear hc
              refine lv_aload_n hx hb dX5_bits_63 rfl (lv_at hl 3 rfl) ?_
              refine gf_X5_32 hx hb hta hown hK hP (am_wo (i := 43) (by decide) (am_s_model ca)) (am_fvr (j := 51) rfl) dX5_bits_64 ?_
              refine lv_iload hx hb dX5_bits_67 (lv_at hl 0 rfl) ?_
              refine am_zald hx hb hK hP (i := 51) (by decide) (am_s_m_due ca) h dX5_bits_69 (fun k7 hk7 h => ?_)
              refine am_topi h (fun y8 h => ?_)
              refine lv_istore hx hb dX5_bits_70 hl (by decide) rfl (fun ls hl => ?_)
              have hl : lv_has ls 7 [(6, .int y8), (5, .int y6), (4, .int z4), (3, .int z3), (0, .ref (ad 43)), (1, .int x1), (2, .int x2)] := hl
              refine lv_iload hx hb dX5_bits_72 (lv_at hl 0 rfl) ?_
              refine lv_if_eq (tgt := 86) hx hb dX5_bits_74 rfl (fun hc => ?_) (fun hc => ?_)
              · replace h := h.1 hc
                clear hc
                refine lv_iload_n hx hb dX5_bits_86 rfl (lv_at hl 3 rfl) ?_
                refine am_topi h (fun y9 h => ?_)
                refine lv_istore_n hx hb dX5_bits_87 rfl hl (by decide) rfl (fun ls hl => ?_)
                have hl : lv_has ls 7 [(3, .int y9), (6, .int y8), (5, .int y6), (4, .int z4), (0, .ref (ad 43)), (1, .int x1), (2, .int x2)] := hl
                refine am_iinc (k := 3) (d := nI 1) hx hb dX5_bits_88 hl rfl rfl (by decide) h (fun y10 ls h hl => ?_)
                have hl : lv_has ls 7 [(4, .int y10), (3, .int y9), (6, .int y8), (5, .int y6), (0, .ref (ad 43)), (1, .int x1), (2, .int x2)] := hl
                refine lv_goto (tgt := 5) hx hb dX5_bits_91 rfl ?_
                exact ih5 M5 y9 y10 ls H locs h hP hS (lv_sub hl [0, 1, 4, 5, 6] rfl)
              · replace h := h.2 hc
                clear hc
                refine lv_iload_n hx hb dX5_bits_77 rfl (lv_at hl 3 rfl) ?_
                refine lv_iconst (v := (nI 1)) hx hb dX5_bits_78 rfl ?_
                refine lv_iload hx hb dX5_bits_79 (lv_at hl 2 rfl) ?_
                refine lv_ishl hx hb dX5_bits_81 ?_
                refine lv_ior hx hb dX5_bits_82 ?_
                refine lv_goto (tgt := 87) hx hb dX5_bits_83 rfl ?_
                refine am_topi h (fun y11 h => ?_)
                refine lv_istore_n hx hb dX5_bits_87 rfl hl (by decide) rfl (fun ls hl => ?_)
                have hl : lv_has ls 7 [(3, .int y11), (6, .int y8), (5, .int y6), (4, .int z4), (0, .ref (ad 43)), (1, .int x1), (2, .int x2)] := hl
                refine am_iinc (k := 3) (d := nI 1) hx hb dX5_bits_88 hl rfl rfl (by decide) h (fun y12 ls h hl => ?_)
                have hl : lv_has ls 7 [(4, .int y12), (3, .int y11), (6, .int y8), (5, .int y6), (0, .ref (ad 43)), (1, .int x1), (2, .int x2)] := hl
                refine lv_goto (tgt := 5) hx hb dX5_bits_91 rfl ?_
                exact ih5 M5 y11 y12 ls H locs h hP hS (lv_sub hl [0, 1, 4, 5, 6] rfl)
            · replace h := h.2 hc
              clear hc
              refine lv_aload_n hx hb dX5_bits_53 rfl (lv_at hl 3 rfl) ?_
              refine gf_X5_29 hx hb hta hown hK hP (am_wo (i := 43) (by decide) (am_s_model ca)) (am_fvr (j := 50) rfl) dX5_bits_54 ?_
              refine lv_iload hx hb dX5_bits_57 (lv_at hl 0 rfl) ?_
              refine am_zald hx hb hK hP (i := 50) (by decide) (am_s_m_read ca) h dX5_bits_59 (fun k13 hk13 h => ?_)
              refine lv_goto (tgt := 70) hx hb dX5_bits_60 rfl ?_
              refine am_topi h (fun y14 h => ?_)
              refine lv_istore hx hb dX5_bits_70 hl (by decide) rfl (fun ls hl => ?_)
              have hl : lv_has ls 7 [(6, .int y14), (5, .int y6), (4, .int z4), (3, .int z3), (0, .ref (ad 43)), (1, .int x1), (2, .int x2)] := hl
              refine lv_iload hx hb dX5_bits_72 (lv_at hl 0 rfl) ?_
              refine lv_if_eq (tgt := 86) hx hb dX5_bits_74 rfl (fun hc => ?_) (fun hc => ?_)
              · replace h := h.1 hc
                clear hc
                refine lv_iload_n hx hb dX5_bits_86 rfl (lv_at hl 3 rfl) ?_
                refine am_topi h (fun y15 h => ?_)
                refine lv_istore_n hx hb dX5_bits_87 rfl hl (by decide) rfl (fun ls hl => ?_)
                have hl : lv_has ls 7 [(3, .int y15), (6, .int y14), (5, .int y6), (4, .int z4), (0, .ref (ad 43)), (1, .int x1), (2, .int x2)] := hl
                refine am_iinc (k := 3) (d := nI 1) hx hb dX5_bits_88 hl rfl rfl (by decide) h (fun y16 ls h hl => ?_)
                have hl : lv_has ls 7 [(4, .int y16), (3, .int y15), (6, .int y14), (5, .int y6), (0, .ref (ad 43)), (1, .int x1), (2, .int x2)] := hl
                refine lv_goto (tgt := 5) hx hb dX5_bits_91 rfl ?_
                exact ih5 M5 y15 y16 ls H locs h hP hS (lv_sub hl [0, 1, 4, 5, 6] rfl)
              · replace h := h.2 hc
                clear hc
                refine lv_iload_n hx hb dX5_bits_77 rfl (lv_at hl 3 rfl) ?_
                refine lv_iconst (v := (nI 1)) hx hb dX5_bits_78 rfl ?_
                refine lv_iload hx hb dX5_bits_79 (lv_at hl 2 rfl) ?_
                refine lv_ishl hx hb dX5_bits_81 ?_
                refine lv_ior hx hb dX5_bits_82 ?_
                refine lv_goto (tgt := 87) hx hb dX5_bits_83 rfl ?_
                refine am_topi h (fun y17 h => ?_)
                refine lv_istore_n hx hb dX5_bits_87 rfl hl (by decide) rfl (fun ls hl => ?_)
                have hl : lv_has ls 7 [(3, .int y17), (6, .int y14), (5, .int y6), (4, .int z4), (0, .ref (ad 43)), (1, .int x1), (2, .int x2)] := hl
                refine am_iinc (k := 3) (d := nI 1) hx hb dX5_bits_88 hl rfl rfl (by decide) h (fun y18 ls h hl => ?_)
                have hl : lv_has ls 7 [(4, .int y18), (3, .int y17), (6, .int y14), (5, .int y6), (0, .ref (ad 43)), (1, .int x1), (2, .int x2)] := hl
                refine lv_goto (tgt := 5) hx hb dX5_bits_91 rfl ?_
                exact ih5 M5 y17 y18 ls H locs h hP hS (lv_sub hl [0, 1, 4, 5, 6] rfl)
          · replace h := h.2 hc
            clear hc
            refine lv_aload_n hx hb dX5_bits_38 rfl (lv_at hl 3 rfl) ?_
            refine gf_X5_26 hx hb hta hown hK hP (am_wo (i := 43) (by decide) (am_s_model ca)) (am_fvr (j := 49) rfl) dX5_bits_39 ?_
            refine lv_iload hx hb dX5_bits_42 (lv_at hl 0 rfl) ?_
            refine am_zald hx hb hK hP (i := 49) (by decide) (am_s_m_yes ca) h dX5_bits_44 (fun k19 hk19 h => ?_)
            refine lv_goto (tgt := 70) hx hb dX5_bits_45 rfl ?_
            refine am_topi h (fun y20 h => ?_)
            refine lv_istore hx hb dX5_bits_70 hl (by decide) rfl (fun ls hl => ?_)
            have hl : lv_has ls 7 [(6, .int y20), (5, .int y6), (4, .int z4), (3, .int z3), (0, .ref (ad 43)), (1, .int x1), (2, .int x2)] := hl
            refine lv_iload hx hb dX5_bits_72 (lv_at hl 0 rfl) ?_
            refine lv_if_eq (tgt := 86) hx hb dX5_bits_74 rfl (fun hc => ?_) (fun hc => ?_)
            · replace h := h.1 hc
              clear hc
              refine lv_iload_n hx hb dX5_bits_86 rfl (lv_at hl 3 rfl) ?_
              refine am_topi h (fun y21 h => ?_)
              refine lv_istore_n hx hb dX5_bits_87 rfl hl (by decide) rfl (fun ls hl => ?_)
              have hl : lv_has ls 7 [(3, .int y21), (6, .int y20), (5, .int y6), (4, .int z4), (0, .ref (ad 43)), (1, .int x1), (2, .int x2)] := hl
              refine am_iinc (k := 3) (d := nI 1) hx hb dX5_bits_88 hl rfl rfl (by decide) h (fun y22 ls h hl => ?_)
              have hl : lv_has ls 7 [(4, .int y22), (3, .int y21), (6, .int y20), (5, .int y6), (0, .ref (ad 43)), (1, .int x1), (2, .int x2)] := hl
              refine lv_goto (tgt := 5) hx hb dX5_bits_91 rfl ?_
              exact ih5 M5 y21 y22 ls H locs h hP hS (lv_sub hl [0, 1, 4, 5, 6] rfl)
            · replace h := h.2 hc
              clear hc
              refine lv_iload_n hx hb dX5_bits_77 rfl (lv_at hl 3 rfl) ?_
              refine lv_iconst (v := (nI 1)) hx hb dX5_bits_78 rfl ?_
              refine lv_iload hx hb dX5_bits_79 (lv_at hl 2 rfl) ?_
              refine lv_ishl hx hb dX5_bits_81 ?_
              refine lv_ior hx hb dX5_bits_82 ?_
              refine lv_goto (tgt := 87) hx hb dX5_bits_83 rfl ?_
              refine am_topi h (fun y23 h => ?_)
              refine lv_istore_n hx hb dX5_bits_87 rfl hl (by decide) rfl (fun ls hl => ?_)
              have hl : lv_has ls 7 [(3, .int y23), (6, .int y20), (5, .int y6), (4, .int z4), (0, .ref (ad 43)), (1, .int x1), (2, .int x2)] := hl
              refine am_iinc (k := 3) (d := nI 1) hx hb dX5_bits_88 hl rfl rfl (by decide) h (fun y24 ls h hl => ?_)
              have hl : lv_has ls 7 [(4, .int y24), (3, .int y23), (6, .int y20), (5, .int y6), (0, .ref (ad 43)), (1, .int x1), (2, .int x2)] := hl
              refine lv_goto (tgt := 5) hx hb dX5_bits_91 rfl ?_
              exact ih5 M5 y23 y24 ls H locs h hP hS (lv_sub hl [0, 1, 4, 5, 6] rfl)
        · replace h := h.2 hc
          clear hc
          refine lv_aload_n hx hb dX5_bits_23 rfl (lv_at hl 3 rfl) ?_
          refine gf_X5_23 hx hb hta hown hK hP (am_wo (i := 43) (by decide) (am_s_model ca)) (am_fvr (j := 48) rfl) dX5_bits_24 ?_
          refine lv_iload hx hb dX5_bits_27 (lv_at hl 0 rfl) ?_
          refine am_zald hx hb hK hP (i := 48) (by decide) (am_s_m_member ca) h dX5_bits_29 (fun k25 hk25 h => ?_)
          refine lv_goto (tgt := 70) hx hb dX5_bits_30 rfl ?_
          refine am_topi h (fun y26 h => ?_)
          refine lv_istore hx hb dX5_bits_70 hl (by decide) rfl (fun ls hl => ?_)
          have hl : lv_has ls 7 [(6, .int y26), (5, .int y6), (4, .int z4), (3, .int z3), (0, .ref (ad 43)), (1, .int x1), (2, .int x2)] := hl
          refine lv_iload hx hb dX5_bits_72 (lv_at hl 0 rfl) ?_
          refine lv_if_eq (tgt := 86) hx hb dX5_bits_74 rfl (fun hc => ?_) (fun hc => ?_)
          · replace h := h.1 hc
            clear hc
            refine lv_iload_n hx hb dX5_bits_86 rfl (lv_at hl 3 rfl) ?_
            refine am_topi h (fun y27 h => ?_)
            refine lv_istore_n hx hb dX5_bits_87 rfl hl (by decide) rfl (fun ls hl => ?_)
            have hl : lv_has ls 7 [(3, .int y27), (6, .int y26), (5, .int y6), (4, .int z4), (0, .ref (ad 43)), (1, .int x1), (2, .int x2)] := hl
            refine am_iinc (k := 3) (d := nI 1) hx hb dX5_bits_88 hl rfl rfl (by decide) h (fun y28 ls h hl => ?_)
            have hl : lv_has ls 7 [(4, .int y28), (3, .int y27), (6, .int y26), (5, .int y6), (0, .ref (ad 43)), (1, .int x1), (2, .int x2)] := hl
            refine lv_goto (tgt := 5) hx hb dX5_bits_91 rfl ?_
            exact ih5 M5 y27 y28 ls H locs h hP hS (lv_sub hl [0, 1, 4, 5, 6] rfl)
          · replace h := h.2 hc
            clear hc
            refine lv_iload_n hx hb dX5_bits_77 rfl (lv_at hl 3 rfl) ?_
            refine lv_iconst (v := (nI 1)) hx hb dX5_bits_78 rfl ?_
            refine lv_iload hx hb dX5_bits_79 (lv_at hl 2 rfl) ?_
            refine lv_ishl hx hb dX5_bits_81 ?_
            refine lv_ior hx hb dX5_bits_82 ?_
            refine lv_goto (tgt := 87) hx hb dX5_bits_83 rfl ?_
            refine am_topi h (fun y29 h => ?_)
            refine lv_istore_n hx hb dX5_bits_87 rfl hl (by decide) rfl (fun ls hl => ?_)
            have hl : lv_has ls 7 [(3, .int y29), (6, .int y26), (5, .int y6), (4, .int z4), (0, .ref (ad 43)), (1, .int x1), (2, .int x2)] := hl
            refine am_iinc (k := 3) (d := nI 1) hx hb dX5_bits_88 hl rfl rfl (by decide) h (fun y30 ls h hl => ?_)
            have hl : lv_has ls 7 [(4, .int y30), (3, .int y29), (6, .int y26), (5, .int y6), (0, .ref (ad 43)), (1, .int x1), (2, .int x2)] := hl
            refine lv_goto (tgt := 5) hx hb dX5_bits_91 rfl ?_
            exact ih5 M5 y29 y30 ls H locs h hP hS (lv_sub hl [0, 1, 4, 5, 6] rfl)
  refine key5 _ ?_ f5 M y1 y2 ls H locs h hP hS hl
  intro M31 z32 z33 ls H locs h hP hS hl
  refine lv_iload_n hx hb dX5_bits_94 rfl (lv_at hl 1 rfl) ?_
  exact am_iret hx hb hr hK hN hP hS h hlocks dX5_bits_95
abbrev rmX5_sendDue : Room := { frames := 1, cells := 0, slots := 0, locals := 24 }
set_option maxHeartbeats 4000000 in
set_option maxRecDepth 100000 in
theorem c_X5_sendDue (l : Launch) (dC : Nat → ClassId) (dI : Nat → Nat → Nat) (ca : Nat → ClassId) (ad : Nat → Nat) (hI : am_inj ad) (M : am_M) (x1 : Int32) (Q : am_M → Prop) (h : w_X5_sendDue M x1 Q) : Met l yX5_sendDue wsX5_sendDue rmX5_sendDue (va_Pc [.ref (ad 43), .int x1] (am_B dC dI ca ad M)) (am_Qv dC dI ca ad Q) 0 0 (am_A ad 63) := by
  refine Met.ofW (cc := cX5_sendDue) (maxL := 3) (ret := none) (by decide) rfl ?_
  intro p e s m args below meth c s₁ B hml hv
  obtain ⟨rfl, hP, hK, hN⟩ := hv
  have hx := B.exec
  have hb := B.bytes
  have hr := B.returns
  have hts := atoms_spec (ws := wsX5_sendDue) B.pre
  have hta : ∀ w ∈ am_all, w.before _ s = true := fun w hw => hts w (List.mem_cons_of_mem _ hw)
  have hown : s.vm.findClass RX5 = some m.cls := findClass_of_methodNamed B.named
  have hlocks := B.notSynchronized
  have hl := lv_entry ([.ref (ad 43), .int x1]) (n := 3) (Nat.le_of_ble_eq_true rfl)
  rw [lg_entry_eq]
  generalize (lg_sl ([.ref (ad 43), .int x1]) ++ List.replicate (3 - (lg_sl ([.ref (ad 43), .int x1])).length) Slot.unset).toArray = ls at hl ⊢
  have hl : lv_has ls 3 [(0, .ref (ad 43)), (1, .int x1)] := hl
  replace h := w_X5_sendDue_s h
  refine am_enter (A := am_A ad 63) hP (fun H locs hP hS => ?_)
  refine lv_iconst (v := (nI 0)) hx hb dX5_sendDue_0 rfl ?_
  refine am_topi h (fun y1 h => ?_)
  refine lv_istore_n hx hb dX5_sendDue_1 rfl hl (by decide) rfl (fun ls hl => ?_)
  have hl : lv_has ls 3 [(2, .int y1), (0, .ref (ad 43)), (1, .int x1)] := hl
  obtain ⟨f2, h⟩ := h
  have key2 : ∀ (K : am_M → Int32 → Prop), (∀ (M3 : am_M) (z2 : Int32) (ls : Array Slot) (H : Heap) (locs : List Loc), K M3 z2 → va_P (dC, dI) vwCl (am_w ad (am_sh ca) 63 M3) H → va_S (am_A ad 63) s.heap H locs → lv_has ls 3 [(2, .int z2), (0, .ref (ad 43)), (1, .int x1)] → am_Wv p l e wsX5_sendDue rmX5_sendDue s m ([.ref (ad 43), .int x1] : List Value).toArray below meth c H locs dC dI ca ad Q (F0 m 39 ls [])) → ∀ (f2 : Nat) (M3 : am_M) (z2 : Int32) (ls : Array Slot) (H : Heap) (locs : List Loc), w_X5_sendDue_L2 x1 Q K f2 M3 z2 → va_P (dC, dI) vwCl (am_w ad (am_sh ca) 63 M3) H → va_S (am_A ad 63) s.heap H locs → lv_has ls 3 [(2, .int z2), (0, .ref (ad 43)), (1, .int x1)] → am_Wv p l e wsX5_sendDue rmX5_sendDue s m ([.ref (ad 43), .int x1] : List Value).toArray below meth c H locs dC dI ca ad Q (F0 m 2 ls []) := by
    intro K hex2 f2
    induction f2 with
    | zero => intro _ _ _ _ _ h; exact False.elim h
    | succ f2 ih2 =>
      intro M3 z2 ls H locs h hP hS hl
      replace h := w_X5_sendDue_L2_s h
      refine lv_iload_n hx hb dX5_sendDue_2 rfl (lv_at hl 0 rfl) ?_
      refine lv_iconst (v := (nI 4)) hx hb dX5_sendDue_3 rfl ?_
      refine lv_icmp_ge (tgt := 39) hx hb dX5_sendDue_4 rfl (fun hc => ?_) (fun hc => ?_)
      · replace h := h.1 hc
        clear hc
        exact hex2 M3 z2 ls H locs h hP hS (lv_sub hl [0, 1, 2] rfl)
      · replace h := h.2 hc
        clear hc
        refine lv_aload_n hx hb dX5_sendDue_7 rfl (lv_at hl 1 rfl) ?_
        refine gf_X5_32 hx hb hta hown hK hP (am_wo (i := 43) (by decide) (am_s_model ca)) (am_fvr (j := 51) rfl) dX5_sendDue_8 ?_
        refine lv_iconst (v := (nI 4)) hx hb dX5_sendDue_11 rfl ?_
        refine lv_iload_n hx hb dX5_sendDue_12 rfl (lv_at hl 2 rfl) ?_
        refine lv_imul hx hb dX5_sendDue_13 ?_
        refine lv_iload_n hx hb dX5_sendDue_14 rfl (lv_at hl 0 rfl) ?_
        refine lv_iadd hx hb dX5_sendDue_15 ?_
        refine am_zald hx hb hK hP (i := 51) (by decide) (am_s_m_due ca) h dX5_sendDue_16 (fun k4 hk4 h => ?_)
        refine lv_if_eq (tgt := 33) hx hb dX5_sendDue_17 rfl (fun hc => ?_) (fun hc => ?_)
        · replace h := h.1 hc
          clear hc
          refine am_iinc (k := 0) (d := nI 1) hx hb dX5_sendDue_33 hl rfl rfl (by decide) h (fun y5 ls h hl => ?_)
          have hl : lv_has ls 3 [(2, .int y5), (0, .ref (ad 43)), (1, .int x1)] := hl
          refine lv_goto (tgt := 2) hx hb dX5_sendDue_36 rfl ?_
          exact ih2 M3 y5 ls H locs h hP hS (lv_sub hl [0, 1, 2] rfl)
        · replace h := h.2 hc
          clear hc
          refine lv_aload_n hx hb dX5_sendDue_20 rfl (lv_at hl 1 rfl) ?_
          refine lv_iconst (v := (nI 5)) hx hb dX5_sendDue_21 rfl ?_
          refine lv_aload_n hx hb dX5_sendDue_22 rfl (lv_at hl 1 rfl) ?_
          refine gf_X5_17 hx hb hta hown hK hP (am_wo (i := 43) (by decide) (am_s_model ca)) (am_fvr (j := 46) rfl) dX5_sendDue_23 ?_
          refine lv_iload_n hx hb dX5_sendDue_26 rfl (lv_at hl 2 rfl) ?_
          refine am_iald hx hb hK hP (i := 46) (by decide) (am_s_m_chief ca) h dX5_sendDue_27 (fun k6 hk6 h => ?_)
          refine lv_iload_n hx hb dX5_sendDue_28 rfl (lv_at hl 0 rfl) ?_
          refine lv_iload_n hx hb dX5_sendDue_29 rfl (lv_at hl 2 rfl) ?_
          refine am_callv (va_runV (C := RX5) (As := [.int (nI 5), .int (nI (M3.2 23 0 k6)), .int z2, .int x1]) (rest := []) ⟨hx, hb, hml, hown, hts⟩ (c_X5_send l dC dI ca ad hI M3 (nI 5) (nI (M3.2 23 0 k6)) z2 x1 _ h) ⟨callB_of 4 hts (am_gd mc_X5_send) rfl rfl rfl (hta _ mn_X5) (hta _ ml_X5_83) dc_X5_send ⟨Nat.le_of_ble_eq_true rfl, Nat.le_of_ble_eq_true rfl⟩, hta _ mi_X5_send, hta _ me_X5_send⟩ (am_preV (q := (RX5, TX5, 21)) hK hN hP rfl (by decide) (am_s_model ca)) rfl rfl hl.1 rfl (lv_room (Nat.le_of_ble_eq_true rfl)) dX5_sendDue_30 ⟨Nat.zero_le _, Nat.zero_le _⟩) hS (fun M7 H locs hP hS h => ?_)
          refine am_iinc (k := 0) (d := nI 1) hx hb dX5_sendDue_33 hl rfl rfl (by decide) h (fun y8 ls h hl => ?_)
          have hl : lv_has ls 3 [(2, .int y8), (0, .ref (ad 43)), (1, .int x1)] := hl
          refine lv_goto (tgt := 2) hx hb dX5_sendDue_36 rfl ?_
          exact ih2 M7 y8 ls H locs h hP hS (lv_sub hl [0, 1, 2] rfl)
  refine key2 _ ?_ f2 M y1 ls H locs h hP hS hl
  intro M9 z10 ls H locs h hP hS hl
  exact am_vret hx hb hr hK hN hP hS h hlocks dX5_sendDue_39
abbrev rmX5_decide : Room := { frames := 2, cells := 0, slots := 0, locals := 50 }
set_option maxHeartbeats 4000000 in
set_option maxRecDepth 100000 in
theorem c_X5_decide (l : Launch) (dC : Nat → ClassId) (dI : Nat → Nat → Nat) (ca : Nat → ClassId) (ad : Nat → Nat) (hI : am_inj ad) (M : am_M) (x1 : Int32) (Q : am_M → Prop) (h : w_X5_decide M x1 Q) : Met l yX5_decide wsX5_decide rmX5_decide (va_Pc [.ref (ad 43), .int x1] (am_B dC dI ca ad M)) (am_Qv dC dI ca ad Q) 0 0 (am_A ad 63) := by
  refine Met.ofW (cc := cX5_decide) (maxL := 4) (ret := none) (by decide) rfl ?_
  intro p e s m args below meth c s₁ B hml hv
  obtain ⟨rfl, hP, hK, hN⟩ := hv
  have hx := B.exec
  have hb := B.bytes
  have hr := B.returns
  have hts := atoms_spec (ws := wsX5_decide) B.pre
  have hta : ∀ w ∈ am_all, w.before _ s = true := fun w hw => hts w (List.mem_cons_of_mem _ hw)
  have hown : s.vm.findClass RX5 = some m.cls := findClass_of_methodNamed B.named
  have hlocks := B.notSynchronized
  have hl := lv_entry ([.ref (ad 43), .int x1]) (n := 4) (Nat.le_of_ble_eq_true rfl)
  rw [lg_entry_eq]
  generalize (lg_sl ([.ref (ad 43), .int x1]) ++ List.replicate (4 - (lg_sl ([.ref (ad 43), .int x1])).length) Slot.unset).toArray = ls at hl ⊢
  have hl : lv_has ls 4 [(0, .ref (ad 43)), (1, .int x1)] := hl
  replace h := w_X5_decide_s h
  refine am_enter (A := am_A ad 63) hP (fun H locs hP hS => ?_)
  refine lv_aload_n hx hb dX5_decide_0 rfl (lv_at hl 0 rfl) ?_
  refine lv_iload_n hx hb dX5_decide_1 rfl (lv_at hl 1 rfl) ?_
  refine lv_iconst (v := (nI 1)) hx hb dX5_decide_2 rfl ?_
  refine am_calli (va_runV (C := RX5) (As := [.int x1, .int (nI 1)]) (rest := []) ⟨hx, hb, hml, hown, hts⟩ (c_X5_bits l dC dI ca ad hI M x1 (nI 1) _ h) ⟨callB_of 2 hts (am_gd mc_X5_bits) rfl rfl rfl (hta _ mn_X5) (hta _ ml_X5_90) dc_X5_bits ⟨Nat.le_of_ble_eq_true rfl, Nat.le_of_ble_eq_true rfl⟩, hta _ mi_X5_bits, hta _ me_X5_bits⟩ (am_preV (q := (RX5, TX5, 21)) hK hN hP rfl (by decide) (am_s_model ca)) rfl rfl hl.1 rfl (lv_room (Nat.le_of_ble_eq_true rfl)) dX5_decide_3 ⟨Nat.zero_le _, Nat.zero_le _⟩) hS (fun y2 M1 H locs hP hS h => ?_)
  refine am_topi h (fun y3 h => ?_)
  refine lv_istore_n hx hb dX5_decide_6 rfl hl (by decide) rfl (fun ls hl => ?_)
  have hl : lv_has ls 4 [(2, .int y3), (0, .ref (ad 43)), (1, .int x1)] := hl
  refine lv_aload_n hx hb dX5_decide_7 rfl (lv_at hl 1 rfl) ?_
  refine lv_iload_n hx hb dX5_decide_8 rfl (lv_at hl 2 rfl) ?_
  refine lv_iconst (v := (nI 0)) hx hb dX5_decide_9 rfl ?_
  refine am_calli (va_runV (C := RX5) (As := [.int x1, .int (nI 0)]) (rest := []) ⟨hx, hb, hml, hown, hts⟩ (c_X5_bits l dC dI ca ad hI M1 x1 (nI 0) _ h) ⟨callB_of 2 hts (am_gd mc_X5_bits) rfl rfl rfl (hta _ mn_X5) (hta _ ml_X5_90) dc_X5_bits ⟨Nat.le_of_ble_eq_true rfl, Nat.le_of_ble_eq_true rfl⟩, hta _ mi_X5_bits, hta _ me_X5_bits⟩ (am_preV (q := (RX5, TX5, 21)) hK hN hP rfl (by decide) (am_s_model ca)) rfl rfl hl.1 rfl (lv_room (Nat.le_of_ble_eq_true rfl)) dX5_decide_10 ⟨Nat.zero_le _, Nat.zero_le _⟩) hS (fun y5 M4 H locs hP hS h => ?_)
  refine lv_iload_n hx hb dX5_decide_13 rfl (lv_at hl 0 rfl) ?_
  refine lv_iconst (v := (-1)) hx hb dX5_decide_14 rfl ?_
  refine lv_ixor hx hb dX5_decide_15 ?_
  refine lv_iand hx hb dX5_decide_16 ?_
  refine lv_aload_n hx hb dX5_decide_17 rfl (lv_at hl 1 rfl) ?_
  refine lv_iload_n hx hb dX5_decide_18 rfl (lv_at hl 2 rfl) ?_
  refine lv_iconst (v := (nI 2)) hx hb dX5_decide_19 rfl ?_
  refine am_calli (va_runV (C := RX5) (As := [.int x1, .int (nI 2)]) (rest := [.int (y5 &&& (y3 ^^^ (-1)))]) ⟨hx, hb, hml, hown, hts⟩ (c_X5_bits l dC dI ca ad hI M4 x1 (nI 2) _ h) ⟨callB_of 2 hts (am_gd mc_X5_bits) rfl rfl rfl (hta _ mn_X5) (hta _ ml_X5_90) dc_X5_bits ⟨Nat.le_of_ble_eq_true rfl, Nat.le_of_ble_eq_true rfl⟩, hta _ mi_X5_bits, hta _ me_X5_bits⟩ (am_preV (q := (RX5, TX5, 21)) hK hN hP rfl (by decide) (am_s_model ca)) rfl rfl hl.1 rfl (lv_room (Nat.le_of_ble_eq_true rfl)) dX5_decide_20 ⟨Nat.zero_le _, Nat.zero_le _⟩) hS (fun y7 M6 H locs hP hS h => ?_)
  refine lv_iconst (v := (-1)) hx hb dX5_decide_23 rfl ?_
  refine lv_ixor hx hb dX5_decide_24 ?_
  refine lv_iand hx hb dX5_decide_25 ?_
  refine lv_if_eq (tgt := 30) hx hb dX5_decide_26 rfl (fun hc => ?_) (fun hc => ?_)
  · replace h := h.1 hc
    clear hc
    refine lv_iload_n hx hb dX5_decide_30 rfl (lv_at hl 0 rfl) ?_
    refine lv_if_ne (tgt := 40) hx hb dX5_decide_31 rfl (fun hc => ?_) (fun hc => ?_)
    · replace h := h.1 hc
      clear hc
      refine lv_iconst (v := (nI 0)) hx hb dX5_decide_40 rfl ?_
      refine am_topi h (fun y8 h => ?_)
      refine lv_istore_n hx hb dX5_decide_41 rfl hl (by decide) rfl (fun ls hl => ?_)
      have hl : lv_has ls 4 [(3, .int y8), (2, .int y3), (0, .ref (ad 43)), (1, .int x1)] := hl
      obtain ⟨f42, h⟩ := h
      have key42 : ∀ (K : am_M → Int32 → Prop), (∀ (M10 : am_M) (z9 : Int32) (ls : Array Slot) (H : Heap) (locs : List Loc), K M10 z9 → va_P (dC, dI) vwCl (am_w ad (am_sh ca) 63 M10) H → va_S (am_A ad 63) s.heap H locs → lv_has ls 4 [(3, .int z9), (2, .int y3), (0, .ref (ad 43)), (1, .int x1)] → am_Wv p l e wsX5_decide rmX5_decide s m ([.ref (ad 43), .int x1] : List Value).toArray below meth c H locs dC dI ca ad Q (F0 m 73 ls [])) → ∀ (f42 : Nat) (M10 : am_M) (z9 : Int32) (ls : Array Slot) (H : Heap) (locs : List Loc), w_X5_decide_L42 y3 x1 Q K f42 M10 z9 → va_P (dC, dI) vwCl (am_w ad (am_sh ca) 63 M10) H → va_S (am_A ad 63) s.heap H locs → lv_has ls 4 [(3, .int z9), (2, .int y3), (0, .ref (ad 43)), (1, .int x1)] → am_Wv p l e wsX5_decide rmX5_decide s m ([.ref (ad 43), .int x1] : List Value).toArray below meth c H locs dC dI ca ad Q (F0 m 42 ls []) := by
        intro K hex42 f42
        induction f42 with
        | zero => intro _ _ _ _ _ h; exact False.elim h
        | succ f42 ih42 =>
          intro M10 z9 ls H locs h hP hS hl
          replace h := w_X5_decide_L42_s h
          refine lv_iload_n hx hb dX5_decide_42 rfl (lv_at hl 0 rfl) ?_
          refine lv_iconst (v := (nI 4)) hx hb dX5_decide_43 rfl ?_
          refine lv_icmp_ge (tgt := 73) hx hb dX5_decide_44 rfl (fun hc => ?_) (fun hc => ?_)
          · replace h := h.1 hc
            clear hc
            exact hex42 M10 z9 ls H locs h hP hS (lv_sub hl [0, 1, 2, 3] rfl)
          · replace h := h.2 hc
            clear hc
            refine lv_aload_n hx hb dX5_decide_47 rfl (lv_at hl 2 rfl) ?_
            refine gf_X5_32 hx hb hta hown hK hP (am_wo (i := 43) (by decide) (am_s_model ca)) (am_fvr (j := 51) rfl) dX5_decide_48 ?_
            refine lv_iconst (v := (nI 4)) hx hb dX5_decide_51 rfl ?_
            refine lv_iload_n hx hb dX5_decide_52 rfl (lv_at hl 3 rfl) ?_
            refine lv_imul hx hb dX5_decide_53 ?_
            refine lv_iload_n hx hb dX5_decide_54 rfl (lv_at hl 0 rfl) ?_
            refine lv_iadd hx hb dX5_decide_55 ?_
            refine lv_aload_n hx hb dX5_decide_56 rfl (lv_at hl 2 rfl) ?_
            refine gf_X5_26 hx hb hta hown hK hP (am_wo (i := 43) (by decide) (am_s_model ca)) (am_fvr (j := 49) rfl) dX5_decide_57 ?_
            refine lv_iconst (v := (nI 4)) hx hb dX5_decide_60 rfl ?_
            refine lv_iload_n hx hb dX5_decide_61 rfl (lv_at hl 3 rfl) ?_
            refine lv_imul hx hb dX5_decide_62 ?_
            refine lv_iload_n hx hb dX5_decide_63 rfl (lv_at hl 0 rfl) ?_
            refine lv_iadd hx hb dX5_decide_64 ?_
            refine am_zald hx hb hK hP (i := 49) (by decide) (am_s_m_yes ca) h dX5_decide_65 (fun k11 hk11 h => ?_)
            refine am_zast hx hb hK hP hI hS (i := 51) (by decide) (am_s_m_due ca) h dX5_decide_66 (fun M12 H locs hP hS h => ?_)
            refine am_iinc (k := 0) (d := nI 1) hx hb dX5_decide_67 hl rfl rfl (by decide) h (fun y13 ls h hl => ?_)
            have hl : lv_has ls 4 [(3, .int y13), (2, .int y3), (0, .ref (ad 43)), (1, .int x1)] := hl
            refine lv_goto (tgt := 42) hx hb dX5_decide_70 rfl ?_
            exact ih42 M12 y13 ls H locs h hP hS (lv_sub hl [0, 1, 2, 3] rfl)
      refine key42 _ ?_ f42 M6 y8 ls H locs h hP hS hl
      intro M14 z15 ls H locs h hP hS hl
      refine lv_aload_n hx hb dX5_decide_73 rfl (lv_at hl 2 rfl) ?_
      refine lv_aload_n hx hb dX5_decide_74 rfl (lv_at hl 2 rfl) ?_
      refine gf_X5_17 hx hb hta hown hK hP (am_wo (i := 43) (by decide) (am_s_model ca)) (am_fvr (j := 46) rfl) dX5_decide_75 ?_
      refine lv_iload_n hx hb dX5_decide_78 rfl (lv_at hl 3 rfl) ?_
      refine am_iald hx hb hK hP (i := 46) (by decide) (am_s_m_chief ca) h dX5_decide_79 (fun k16 hk16 h => ?_)
      refine lv_iload_n hx hb dX5_decide_80 rfl (lv_at hl 3 rfl) ?_
      refine lv_iconst (v := (nI 4)) hx hb dX5_decide_81 rfl ?_
      refine lv_iload_n hx hb dX5_decide_82 rfl (lv_at hl 1 rfl) ?_
      refine am_callv (va_runV (C := RX5) (As := [.int (nI (M14.2 23 0 k16)), .int x1, .int (nI 4), .int y3]) (rest := []) ⟨hx, hb, hml, hown, hts⟩ (c_X5_force l dC dI ca ad hI M14 (nI (M14.2 23 0 k16)) x1 (nI 4) y3 _ h) ⟨callB_of 4 hts (am_gd mc_X5_force) rfl rfl rfl (hta _ mn_X5) (hta _ ml_X5_94) dc_X5_force ⟨Nat.le_of_ble_eq_true rfl, Nat.le_of_ble_eq_true rfl⟩, hta _ mi_X5_force, hta _ me_X5_force⟩ (am_preV (q := (RX5, TX5, 21)) hK hN hP rfl (by decide) (am_s_model ca)) rfl rfl hl.1 rfl (lv_room (Nat.le_of_ble_eq_true rfl)) dX5_decide_83 ⟨Nat.zero_le _, Nat.zero_le _⟩) hS (fun M17 H locs hP hS h => ?_)
      refine lv_aload_n hx hb dX5_decide_86 rfl (lv_at hl 2 rfl) ?_
      refine gf_X5_20 hx hb hta hown hK hP (am_wo (i := 43) (by decide) (am_s_model ca)) (am_fvr (j := 47) rfl) dX5_decide_87 ?_
      refine lv_iload_n hx hb dX5_decide_90 rfl (lv_at hl 3 rfl) ?_
      refine lv_iconst (v := (nI 3)) hx hb dX5_decide_91 rfl ?_
      refine am_iast hx hb hK hP hI hS (i := 47) (by decide) (am_s_m_stages ca) h dX5_decide_92 (fun M18 H locs hP hS h => ?_)
      refine lv_aload_n hx hb dX5_decide_93 rfl (lv_at hl 2 rfl) ?_
      refine lv_iload_n hx hb dX5_decide_94 rfl (lv_at hl 3 rfl) ?_
      refine am_callv (va_runV (C := RX5) (As := [.int x1]) (rest := []) ⟨hx, hb, hml, hown, hts⟩ (c_X5_sendDue l dC dI ca ad hI M18 x1 _ h) ⟨callB_of 1 hts (am_gd mc_X5_sendDue) rfl rfl rfl (hta _ mn_X5) (hta _ ml_X5_97) dc_X5_sendDue ⟨Nat.le_of_ble_eq_true rfl, Nat.le_of_ble_eq_true rfl⟩, hta _ mi_X5_sendDue, hta _ me_X5_sendDue⟩ (am_preV (q := (RX5, TX5, 21)) hK hN hP rfl (by decide) (am_s_model ca)) rfl rfl hl.1 rfl (lv_room (Nat.le_of_ble_eq_true rfl)) dX5_decide_95 ⟨Nat.zero_le _, Nat.zero_le _⟩) hS (fun M19 H locs hP hS h => ?_)
      exact am_vret hx hb hr hK hN hP hS h hlocks dX5_decide_98
    · replace h := h.2 hc
      clear hc
      refine lv_aload_n hx hb dX5_decide_34 rfl (lv_at hl 1 rfl) ?_
      refine lv_iload_n hx hb dX5_decide_35 rfl (lv_at hl 2 rfl) ?_
      refine am_callv (va_runV (C := RX5) (As := [.int x1]) (rest := []) ⟨hx, hb, hml, hown, hts⟩ (c_X5_forget l dC dI ca ad hI M6 x1 _ h) ⟨callB_of 1 hts (am_gd mc_X5_forget) rfl rfl rfl (hta _ mn_X5) (hta _ ml_X5_86) dc_X5_forget ⟨Nat.le_of_ble_eq_true rfl, Nat.le_of_ble_eq_true rfl⟩, hta _ mi_X5_forget, hta _ me_X5_forget⟩ (am_preV (q := (RX5, TX5, 21)) hK hN hP rfl (by decide) (am_s_model ca)) rfl rfl hl.1 rfl (lv_room (Nat.le_of_ble_eq_true rfl)) dX5_decide_36 ⟨Nat.zero_le _, Nat.zero_le _⟩) hS (fun M20 H locs hP hS h => ?_)
      exact am_vret hx hb hr hK hN hP hS h hlocks dX5_decide_39
  · replace h := h.2 hc
    clear hc
    exact am_vret hx hb hr hK hN hP hS h hlocks dX5_decide_29
abbrev rmX5_hearVote : Room := { frames := 3, cells := 0, slots := 0, locals := 73 }
set_option maxHeartbeats 4000000 in
set_option maxRecDepth 100000 in
theorem c_X5_hearVote (l : Launch) (dC : Nat → ClassId) (dI : Nat → Nat → Nat) (ca : Nat → ClassId) (ad : Nat → Nat) (hI : am_inj ad) (M : am_M) (x1 : Int32) (x2 : Int32) (x3 : Int32) (Q : am_M → Prop) (h : w_X5_hearVote M x1 x2 x3 Q) : Met l yX5_hearVote wsX5_hearVote rmX5_hearVote (va_Pc [.ref (ad 43), .int x1, .int x2, .int x3] (am_B dC dI ca ad M)) (am_Qv dC dI ca ad Q) 0 0 (am_A ad 63) := by
  refine Met.ofW (cc := cX5_hearVote) (maxL := 5) (ret := none) (by decide) rfl ?_
  intro p e s m args below meth c s₁ B hml hv
  obtain ⟨rfl, hP, hK, hN⟩ := hv
  have hx := B.exec
  have hb := B.bytes
  have hr := B.returns
  have hts := atoms_spec (ws := wsX5_hearVote) B.pre
  have hta : ∀ w ∈ am_all, w.before _ s = true := fun w hw => hts w (List.mem_cons_of_mem _ hw)
  have hown : s.vm.findClass RX5 = some m.cls := findClass_of_methodNamed B.named
  have hlocks := B.notSynchronized
  have hl := lv_entry ([.ref (ad 43), .int x1, .int x2, .int x3]) (n := 5) (Nat.le_of_ble_eq_true rfl)
  rw [lg_entry_eq]
  generalize (lg_sl ([.ref (ad 43), .int x1, .int x2, .int x3]) ++ List.replicate (5 - (lg_sl ([.ref (ad 43), .int x1, .int x2, .int x3])).length) Slot.unset).toArray = ls at hl ⊢
  have hl : lv_has ls 5 [(0, .ref (ad 43)), (1, .int x1), (2, .int x2), (3, .int x3)] := hl
  replace h := w_X5_hearVote_s h
  refine am_enter (A := am_A ad 63) hP (fun H locs hP hS => ?_)
  refine lv_iconst (v := (nI 4)) hx hb dX5_hearVote_0 rfl ?_
  refine lv_iload_n hx hb dX5_hearVote_1 rfl (lv_at hl 3 rfl) ?_
  refine lv_imul hx hb dX5_hearVote_2 ?_
  refine lv_iload_n hx hb dX5_hearVote_3 rfl (lv_at hl 2 rfl) ?_
  refine lv_iadd hx hb dX5_hearVote_4 ?_
  refine am_topi h (fun y1 h => ?_)
  refine lv_istore hx hb dX5_hearVote_5 hl (by decide) rfl (fun ls hl => ?_)
  have hl : lv_has ls 5 [(4, .int y1), (0, .ref (ad 43)), (1, .int x1), (2, .int x2), (3, .int x3)] := hl
  refine lv_aload_n hx hb dX5_hearVote_7 rfl (lv_at hl 1 rfl) ?_
  refine gf_X5_20 hx hb hta hown hK hP (am_wo (i := 43) (by decide) (am_s_model ca)) (am_fvr (j := 47) rfl) dX5_hearVote_8 ?_
  refine lv_iload_n hx hb dX5_hearVote_11 rfl (lv_at hl 4 rfl) ?_
  refine am_iald hx hb hK hP (i := 47) (by decide) (am_s_m_stages ca) h dX5_hearVote_12 (fun k2 hk2 h => ?_)
  refine lv_iconst (v := (nI 2)) hx hb dX5_hearVote_13 rfl ?_
  refine lv_icmp_ne (tgt := 27) hx hb dX5_hearVote_14 rfl (fun hc => ?_) (fun hc => ?_)
  · replace h := h.1 hc
    clear hc
    exact am_vret hx hb hr hK hN hP hS h hlocks dX5_hearVote_27
  · replace h := h.2 hc
    clear hc
    refine lv_aload_n hx hb dX5_hearVote_17 rfl (lv_at hl 1 rfl) ?_
    refine gf_X5_23 hx hb hta hown hK hP (am_wo (i := 43) (by decide) (am_s_model ca)) (am_fvr (j := 48) rfl) dX5_hearVote_18 ?_
    refine lv_iload hx hb dX5_hearVote_21 (lv_at hl 0 rfl) ?_
    refine am_zald hx hb hK hP (i := 48) (by decide) (am_s_m_member ca) h dX5_hearVote_23 (fun k3 hk3 h => ?_)
    refine lv_if_ne (tgt := 28) hx hb dX5_hearVote_24 rfl (fun hc => ?_) (fun hc => ?_)
    · replace h := h.1 hc
      clear hc
      refine lv_iload_n hx hb dX5_hearVote_28 rfl (lv_at hl 2 rfl) ?_
      refine lv_iconst (v := (nI 4)) hx hb dX5_hearVote_29 rfl ?_
      refine lv_icmp_ne (tgt := 41) hx hb dX5_hearVote_30 rfl (fun hc => ?_) (fun hc => ?_)
      · replace h := h.1 hc
        clear hc
        refine lv_iload_n hx hb dX5_hearVote_41 rfl (lv_at hl 2 rfl) ?_
        refine lv_iconst (v := (nI 2)) hx hb dX5_hearVote_42 rfl ?_
        refine lv_icmp_ne (tgt := 57) hx hb dX5_hearVote_43 rfl (fun hc => ?_) (fun hc => ?_)
        · replace h := h.1 hc
          clear hc
          refine lv_aload_n hx hb dX5_hearVote_57 rfl (lv_at hl 1 rfl) ?_
          refine gf_X5_29 hx hb hta hown hK hP (am_wo (i := 43) (by decide) (am_s_model ca)) (am_fvr (j := 50) rfl) dX5_hearVote_58 ?_
          refine lv_iload hx hb dX5_hearVote_61 (lv_at hl 0 rfl) ?_
          refine lv_iconst (v := (nI 1)) hx hb dX5_hearVote_63 rfl ?_
          refine am_zast hx hb hK hP hI hS (i := 50) (by decide) (am_s_m_read ca) h dX5_hearVote_64 (fun M4 H locs hP hS h => ?_)
          refine lv_aload_n hx hb dX5_hearVote_65 rfl (lv_at hl 1 rfl) ?_
          refine lv_iload_n hx hb dX5_hearVote_66 rfl (lv_at hl 4 rfl) ?_
          refine am_callv (va_runV (C := RX5) (As := [.int x3]) (rest := []) ⟨hx, hb, hml, hown, hts⟩ (c_X5_decide l dC dI ca ad hI M4 x3 _ h) ⟨callB_of 1 hts (am_gd mc_X5_decide) rfl rfl rfl (hta _ mn_X5) (hta _ ml_X5_109) dc_X5_decide ⟨Nat.le_of_ble_eq_true rfl, Nat.le_of_ble_eq_true rfl⟩, hta _ mi_X5_decide, hta _ me_X5_decide⟩ (am_preV (q := (RX5, TX5, 21)) hK hN hP rfl (by decide) (am_s_model ca)) rfl rfl hl.1 rfl (lv_room (Nat.le_of_ble_eq_true rfl)) dX5_hearVote_67 ⟨Nat.zero_le _, Nat.zero_le _⟩) hS (fun M5 H locs hP hS h => ?_)
          exact am_vret hx hb hr hK hN hP hS h hlocks dX5_hearVote_70
        · replace h := h.2 hc
          clear hc
          refine lv_aload_n hx hb dX5_hearVote_46 rfl (lv_at hl 1 rfl) ?_
          refine gf_X5_26 hx hb hta hown hK hP (am_wo (i := 43) (by decide) (am_s_model ca)) (am_fvr (j := 49) rfl) dX5_hearVote_47 ?_
          refine lv_iload hx hb dX5_hearVote_50 (lv_at hl 0 rfl) ?_
          refine lv_iconst (v := (nI 1)) hx hb dX5_hearVote_52 rfl ?_
          refine am_zast hx hb hK hP hI hS (i := 49) (by decide) (am_s_m_yes ca) h dX5_hearVote_53 (fun M6 H locs hP hS h => ?_)
          refine lv_goto (tgt := 65) hx hb dX5_hearVote_54 rfl ?_
          refine lv_aload_n hx hb dX5_hearVote_65 rfl (lv_at hl 1 rfl) ?_
          refine lv_iload_n hx hb dX5_hearVote_66 rfl (lv_at hl 4 rfl) ?_
          refine am_callv (va_runV (C := RX5) (As := [.int x3]) (rest := []) ⟨hx, hb, hml, hown, hts⟩ (c_X5_decide l dC dI ca ad hI M6 x3 _ h) ⟨callB_of 1 hts (am_gd mc_X5_decide) rfl rfl rfl (hta _ mn_X5) (hta _ ml_X5_109) dc_X5_decide ⟨Nat.le_of_ble_eq_true rfl, Nat.le_of_ble_eq_true rfl⟩, hta _ mi_X5_decide, hta _ me_X5_decide⟩ (am_preV (q := (RX5, TX5, 21)) hK hN hP rfl (by decide) (am_s_model ca)) rfl rfl hl.1 rfl (lv_room (Nat.le_of_ble_eq_true rfl)) dX5_hearVote_67 ⟨Nat.zero_le _, Nat.zero_le _⟩) hS (fun M7 H locs hP hS h => ?_)
          exact am_vret hx hb hr hK hN hP hS h hlocks dX5_hearVote_70
      · replace h := h.2 hc
        clear hc
        refine lv_aload_n hx hb dX5_hearVote_33 rfl (lv_at hl 1 rfl) ?_
        refine lv_iload_n hx hb dX5_hearVote_34 rfl (lv_at hl 4 rfl) ?_
        refine lv_iload_n hx hb dX5_hearVote_35 rfl (lv_at hl 3 rfl) ?_
        refine am_calli (va_runV (C := RX5) (As := [.int x3, .int x2]) (rest := []) ⟨hx, hb, hml, hown, hts⟩ (c_X5_pullBack l dC dI ca ad hI M x3 x2 _ h) ⟨callB_of 2 hts (am_gd mc_X5_pullBack) rfl rfl rfl (hta _ mn_X5) (hta _ ml_X5_106) dc_X5_pullBack ⟨Nat.le_of_ble_eq_true rfl, Nat.le_of_ble_eq_true rfl⟩, hta _ mi_X5_pullBack, hta _ me_X5_pullBack⟩ (am_preV (q := (RX5, TX5, 21)) hK hN hP rfl (by decide) (am_s_model ca)) rfl rfl hl.1 rfl (lv_room (Nat.le_of_ble_eq_true rfl)) dX5_hearVote_36 ⟨Nat.zero_le _, Nat.zero_le _⟩) hS (fun y9 M8 H locs hP hS h => ?_)
        refine lv_pop hx hb dX5_hearVote_39 rfl ?_
        exact am_vret hx hb hr hK hN hP hS h hlocks dX5_hearVote_40
    · replace h := h.2 hc
      clear hc
      exact am_vret hx hb hr hK hN hP hS h hlocks dX5_hearVote_27
abbrev rmX5_hearAck : Room := { frames := 1, cells := 0, slots := 0, locals := 26 }
set_option maxHeartbeats 4000000 in
set_option maxRecDepth 100000 in
theorem c_X5_hearAck (l : Launch) (dC : Nat → ClassId) (dI : Nat → Nat → Nat) (ca : Nat → ClassId) (ad : Nat → Nat) (hI : am_inj ad) (M : am_M) (x1 : Int32) (x2 : Int32) (Q : am_M → Prop) (h : w_X5_hearAck M x1 x2 Q) : Met l yX5_hearAck wsX5_hearAck rmX5_hearAck (va_Pc [.ref (ad 43), .int x1, .int x2] (am_B dC dI ca ad M)) (am_Qv dC dI ca ad Q) 0 0 (am_A ad 63) := by
  refine Met.ofW (cc := cX5_hearAck) (maxL := 3) (ret := none) (by decide) rfl ?_
  intro p e s m args below meth c s₁ B hml hv
  obtain ⟨rfl, hP, hK, hN⟩ := hv
  have hx := B.exec
  have hb := B.bytes
  have hr := B.returns
  have hts := atoms_spec (ws := wsX5_hearAck) B.pre
  have hta : ∀ w ∈ am_all, w.before _ s = true := fun w hw => hts w (List.mem_cons_of_mem _ hw)
  have hown : s.vm.findClass RX5 = some m.cls := findClass_of_methodNamed B.named
  have hlocks := B.notSynchronized
  have hl := lv_entry ([.ref (ad 43), .int x1, .int x2]) (n := 3) (Nat.le_of_ble_eq_true rfl)
  rw [lg_entry_eq]
  generalize (lg_sl ([.ref (ad 43), .int x1, .int x2]) ++ List.replicate (3 - (lg_sl ([.ref (ad 43), .int x1, .int x2])).length) Slot.unset).toArray = ls at hl ⊢
  have hl : lv_has ls 3 [(0, .ref (ad 43)), (1, .int x1), (2, .int x2)] := hl
  replace h := w_X5_hearAck_s h
  refine am_enter (A := am_A ad 63) hP (fun H locs hP hS => ?_)
  refine lv_aload_n hx hb dX5_hearAck_0 rfl (lv_at hl 0 rfl) ?_
  refine gf_X5_20 hx hb hta hown hK hP (am_wo (i := 43) (by decide) (am_s_model ca)) (am_fvr (j := 47) rfl) dX5_hearAck_1 ?_
  refine lv_iload_n hx hb dX5_hearAck_4 rfl (lv_at hl 2 rfl) ?_
  refine am_iald hx hb hK hP (i := 47) (by decide) (am_s_m_stages ca) h dX5_hearAck_5 (fun k1 hk1 h => ?_)
  refine lv_iconst (v := (nI 3)) hx hb dX5_hearAck_6 rfl ?_
  refine lv_icmp_ne (tgt := 49) hx hb dX5_hearAck_7 rfl (fun hc => ?_) (fun hc => ?_)
  · replace h := h.1 hc
    clear hc
    exact am_vret hx hb hr hK hN hP hS h hlocks dX5_hearAck_49
  · replace h := h.2 hc
    clear hc
    refine lv_aload_n hx hb dX5_hearAck_10 rfl (lv_at hl 0 rfl) ?_
    refine gf_X5_32 hx hb hta hown hK hP (am_wo (i := 43) (by decide) (am_s_model ca)) (am_fvr (j := 51) rfl) dX5_hearAck_11 ?_
    refine lv_iconst (v := (nI 4)) hx hb dX5_hearAck_14 rfl ?_
    refine lv_iload_n hx hb dX5_hearAck_15 rfl (lv_at hl 2 rfl) ?_
    refine lv_imul hx hb dX5_hearAck_16 ?_
    refine lv_iload_n hx hb dX5_hearAck_17 rfl (lv_at hl 1 rfl) ?_
    refine lv_iadd hx hb dX5_hearAck_18 ?_
    refine lv_iconst (v := (nI 0)) hx hb dX5_hearAck_19 rfl ?_
    refine am_zast hx hb hK hP hI hS (i := 51) (by decide) (am_s_m_due ca) h dX5_hearAck_20 (fun M2 H locs hP hS h => ?_)
    refine lv_aload_n hx hb dX5_hearAck_21 rfl (lv_at hl 0 rfl) ?_
    refine lv_iload_n hx hb dX5_hearAck_22 rfl (lv_at hl 2 rfl) ?_
    refine lv_iconst (v := (nI 3)) hx hb dX5_hearAck_23 rfl ?_
    refine am_calli (va_runV (C := RX5) (As := [.int x2, .int (nI 3)]) (rest := []) ⟨hx, hb, hml, hown, hts⟩ (c_X5_bits l dC dI ca ad hI M2 x2 (nI 3) _ h) ⟨callB_of 2 hts (am_gd mc_X5_bits) rfl rfl rfl (hta _ mn_X5) (hta _ ml_X5_90) dc_X5_bits ⟨Nat.le_of_ble_eq_true rfl, Nat.le_of_ble_eq_true rfl⟩, hta _ mi_X5_bits, hta _ me_X5_bits⟩ (am_preV (q := (RX5, TX5, 21)) hK hN hP rfl (by decide) (am_s_model ca)) rfl rfl hl.1 rfl (lv_room (Nat.le_of_ble_eq_true rfl)) dX5_hearAck_24 ⟨Nat.zero_le _, Nat.zero_le _⟩) hS (fun y4 M3 H locs hP hS h => ?_)
    refine lv_if_ne (tgt := 49) hx hb dX5_hearAck_27 rfl (fun hc => ?_) (fun hc => ?_)
    · replace h := h.1 hc
      clear hc
      exact am_vret hx hb hr hK hN hP hS h hlocks dX5_hearAck_49
    · replace h := h.2 hc
      clear hc
      refine lv_aload_n hx hb dX5_hearAck_30 rfl (lv_at hl 0 rfl) ?_
      refine lv_aload_n hx hb dX5_hearAck_31 rfl (lv_at hl 0 rfl) ?_
      refine gf_X5_17 hx hb hta hown hK hP (am_wo (i := 43) (by decide) (am_s_model ca)) (am_fvr (j := 46) rfl) dX5_hearAck_32 ?_
      refine lv_iload_n hx hb dX5_hearAck_35 rfl (lv_at hl 2 rfl) ?_
      refine am_iald hx hb hK hP (i := 46) (by decide) (am_s_m_chief ca) h dX5_hearAck_36 (fun k5 hk5 h => ?_)
      refine lv_iload_n hx hb dX5_hearAck_37 rfl (lv_at hl 2 rfl) ?_
      refine lv_bipush (v := (nI 6)) hx hb dX5_hearAck_38 rfl ?_
      refine lv_iconst (v := (nI 0)) hx hb dX5_hearAck_40 rfl ?_
      refine am_callv (va_runV (C := RX5) (As := [.int (nI (M3.2 23 0 k5)), .int x2, .int (nI 6), .int (nI 0)]) (rest := []) ⟨hx, hb, hml, hown, hts⟩ (c_X5_write l dC dI ca ad hI M3 (nI (M3.2 23 0 k5)) x2 (nI 6) (nI 0) _ h) ⟨callB_of 4 hts (am_gd mc_X5_write) rfl rfl rfl (hta _ mn_X5) (hta _ ml_X5_75) dc_X5_write ⟨Nat.le_of_ble_eq_true rfl, Nat.le_of_ble_eq_true rfl⟩, hta _ mi_X5_write, hta _ me_X5_write⟩ (am_preV (q := (RX5, TX5, 21)) hK hN hP rfl (by decide) (am_s_model ca)) rfl rfl hl.1 rfl (lv_room (Nat.le_of_ble_eq_true rfl)) dX5_hearAck_41 ⟨Nat.zero_le _, Nat.zero_le _⟩) hS (fun M6 H locs hP hS h => ?_)
      refine lv_aload_n hx hb dX5_hearAck_44 rfl (lv_at hl 0 rfl) ?_
      refine lv_iload_n hx hb dX5_hearAck_45 rfl (lv_at hl 2 rfl) ?_
      refine am_callv (va_runV (C := RX5) (As := [.int x2]) (rest := []) ⟨hx, hb, hml, hown, hts⟩ (c_X5_forget l dC dI ca ad hI M6 x2 _ h) ⟨callB_of 1 hts (am_gd mc_X5_forget) rfl rfl rfl (hta _ mn_X5) (hta _ ml_X5_86) dc_X5_forget ⟨Nat.le_of_ble_eq_true rfl, Nat.le_of_ble_eq_true rfl⟩, hta _ mi_X5_forget, hta _ me_X5_forget⟩ (am_preV (q := (RX5, TX5, 21)) hK hN hP rfl (by decide) (am_s_model ca)) rfl rfl hl.1 rfl (lv_room (Nat.le_of_ble_eq_true rfl)) dX5_hearAck_46 ⟨Nat.zero_le _, Nat.zero_le _⟩) hS (fun M7 H locs hP hS h => ?_)
      exact am_vret hx hb hr hK hN hP hS h hlocks dX5_hearAck_49
