/-! contracts -/
abbrev rmX0_isNode : Room := { frames := 0, cells := 0, slots := 0, locals := 0 }
set_option maxHeartbeats 4000000 in
set_option maxRecDepth 100000 in
theorem c_X0_isNode (l : Launch) (dC : Nat → ClassId) (dI : Nat → Nat → Nat) (ca : Nat → ClassId) (ad : Nat → Nat) (hI : am_inj ad) (M : am_M) (x1 : Int32) (Q : Int32 → am_M → Prop) (h : w_X0_isNode M x1 Q) : Met l yX0_isNode wsX0_isNode rmX0_isNode (va_Pc [.int x1] (am_B dC dI ca ad M)) (am_Qi dC dI ca ad Q) 0 0 (am_A ad 63) := by
  refine Met.ofW (cc := cX0_isNode) (maxL := 1) (ret := (some .boolean)) (by decide) rfl ?_
  intro p e s m args below meth c s₁ B hml hv
  obtain ⟨rfl, hP, hK, hN⟩ := hv
  have hx := B.exec
  have hb := B.bytes
  have hr := B.returns
  have hts := atoms_spec (ws := wsX0_isNode) B.pre
  have hta : ∀ w ∈ am_all, w.before _ s = true := fun w hw => hts w (List.mem_cons_of_mem _ hw)
  have hown : s.vm.findClass RX0 = some m.cls := findClass_of_methodNamed B.named
  have hlocks := B.notSynchronized
  have hl := lv_entry ([.int x1]) (n := 1) (Nat.le_of_ble_eq_true rfl)
  rw [lg_entry_eq]
  generalize (lg_sl ([.int x1]) ++ List.replicate (1 - (lg_sl ([.int x1])).length) Slot.unset).toArray = ls at hl ⊢
  have hl : lv_has ls 1 [(0, .int x1)] := hl
  replace h := w_X0_isNode_s h
  refine am_enter (A := am_A ad 63) hP (fun H locs hP hS => ?_)
  refine lv_iload_n hx hb dX0_isNode_0 rfl (lv_at hl 0 rfl) ?_
  refine lv_if_lt (tgt := 13) hx hb dX0_isNode_1 rfl (fun hc => ?_) (fun hc => ?_)
  · replace h := h.1 hc
    clear hc
    refine lv_iconst (v := (nI 0)) hx hb dX0_isNode_13 rfl ?_
    exact am_zret hx hb hr (rfl) hK hN hP hS h hlocks dX0_isNode_14
  · replace h := h.2 hc
    clear hc
    refine lv_iload_n hx hb dX0_isNode_4 rfl (lv_at hl 0 rfl) ?_
    refine lv_iconst (v := (nI 4)) hx hb dX0_isNode_5 rfl ?_
    refine lv_icmp_ge (tgt := 13) hx hb dX0_isNode_6 rfl (fun hc => ?_) (fun hc => ?_)
    · replace h := h.1 hc
      clear hc
      refine lv_iconst (v := (nI 0)) hx hb dX0_isNode_13 rfl ?_
      exact am_zret hx hb hr (rfl) hK hN hP hS h hlocks dX0_isNode_14
    · replace h := h.2 hc
      clear hc
      refine lv_iconst (v := (nI 1)) hx hb dX0_isNode_9 rfl ?_
      refine lv_goto (tgt := 14) hx hb dX0_isNode_10 rfl ?_
      exact am_zret hx hb hr (rfl) hK hN hP hS h hlocks dX0_isNode_14
abbrev rmX0_begin : Room := { frames := 1, cells := 0, slots := 0, locals := 20 }
set_option maxHeartbeats 4000000 in
set_option maxRecDepth 100000 in
theorem c_X0_begin (l : Launch) (dC : Nat → ClassId) (dI : Nat → Nat → Nat) (ca : Nat → ClassId) (ad : Nat → Nat) (hI : am_inj ad) (M : am_M) (x1 : Int32) (Q : Int32 → am_M → Prop) (h : w_X0_begin M x1 Q) : Met l yX0_begin wsX0_begin rmX0_begin (va_Pc [.ref (ad 0), .int x1] (am_B dC dI ca ad M)) (am_Qi dC dI ca ad Q) 0 0 (am_A ad 63) := by
  refine Met.ofW (cc := cX0_begin) (maxL := 3) (ret := (some .int)) (by decide) rfl ?_
  intro p e s m args below meth c s₁ B hml hv
  obtain ⟨rfl, hP, hK, hN⟩ := hv
  have hx := B.exec
  have hb := B.bytes
  have hr := B.returns
  have hts := atoms_spec (ws := wsX0_begin) B.pre
  have hta : ∀ w ∈ am_all, w.before _ s = true := fun w hw => hts w (List.mem_cons_of_mem _ hw)
  have hown : s.vm.findClass RX0 = some m.cls := findClass_of_methodNamed B.named
  have hlocks := B.notSynchronized
  have hl := lv_entry ([.ref (ad 0), .int x1]) (n := 3) (Nat.le_of_ble_eq_true rfl)
  rw [lg_entry_eq]
  generalize (lg_sl ([.ref (ad 0), .int x1]) ++ List.replicate (3 - (lg_sl ([.ref (ad 0), .int x1])).length) Slot.unset).toArray = ls at hl ⊢
  have hl : lv_has ls 3 [(0, .ref (ad 0)), (1, .int x1)] := hl
  replace h := w_X0_begin_s h
  refine am_enter (A := am_A ad 63) hP (fun H locs hP hS => ?_)
  refine lv_iload_n hx hb dX0_begin_0 rfl (lv_at hl 1 rfl) ?_
  refine am_calli (va_runS (As := [.int x1]) (rest := []) ⟨hx, hb, hml, hown, hts⟩ (c_X0_isNode l dC dI ca ad hI M x1 _ h) ⟨callB_of 1 hts (am_gd mc_X0_isNode) rfl rfl rfl (hta _ mn_X0) (hta _ ml_X0_34) dc_X0_isNode ⟨Nat.le_of_ble_eq_true rfl, Nat.le_of_ble_eq_true rfl⟩, hta _ ms_X0_isNode⟩ (am_preS hK hN hP) rfl rfl hl.1 rfl (lv_room (Nat.le_of_ble_eq_true rfl)) dX0_begin_1 ⟨Nat.zero_le _, Nat.zero_le _⟩) hS (fun y2 M1 H locs hP hS h => ?_)
  refine lv_if_ne (tgt := 10) hx hb dX0_begin_4 rfl (fun hc => ?_) (fun hc => ?_)
  · replace h := h.1 hc
    clear hc
    refine lv_aload_n hx hb dX0_begin_10 rfl (lv_at hl 0 rfl) ?_
    refine gf_X0_11 hx hb hta hown hK hP (am_wo (i := 0) (by decide) (am_s_outer ca)) (am_fvr (j := 1) rfl) dX0_begin_11 ?_
    refine lv_iload_n hx hb dX0_begin_14 rfl (lv_at hl 1 rfl) ?_
    refine am_aald hx hb hK hP (i := 1) (by decide) (am_s_nodes ca) (t0 := 2) rfl h dX0_begin_15 (fun k3 hk3 h => ?_)
    refine gf_X0_38 hx hb hta hown hK hP (am_wo (i := (9 + 6 * k3)) (by omega) (am_s_node ca hk3)) (am_fvi rfl) dX0_begin_16 ?_
    refine lv_if_ne (tgt := 25) hx hb dX0_begin_19 rfl (fun hc => ?_) (fun hc => ?_)
    · replace h := h.1 hc
      clear hc
      refine lv_aload_n hx hb dX0_begin_25 rfl (lv_at hl 0 rfl) ?_
      refine gf_X0_30 hx hb hta hown hK hP (am_wo (i := 0) (by decide) (am_s_outer ca)) (am_fvi rfl) dX0_begin_26 ?_
      refine lv_bipush (v := (nI 10)) hx hb dX0_begin_29 rfl ?_
      refine lv_icmp_lt (tgt := 37) hx hb dX0_begin_31 rfl (fun hc => ?_) (fun hc => ?_)
      · replace h := h.1 hc
        clear hc
        refine lv_aload_n hx hb dX0_begin_37 rfl (lv_at hl 0 rfl) ?_
        refine gf_X0_30 hx hb hta hown hK hP (am_wo (i := 0) (by decide) (am_s_outer ca)) (am_fvi rfl) dX0_begin_38 ?_
        refine am_topi h (fun y4 h => ?_)
        refine lv_istore_n hx hb dX0_begin_41 rfl hl (by decide) rfl (fun ls hl => ?_)
        have hl : lv_has ls 3 [(2, .int y4), (0, .ref (ad 0)), (1, .int x1)] := hl
        refine lv_aload_n hx hb dX0_begin_42 rfl (lv_at hl 1 rfl) ?_
        refine lv_dup hx hb dX0_begin_43 rfl ?_
        refine gf_X0_30 hx hb hta hown hK hP (am_wo (i := 0) (by decide) (am_s_outer ca)) (am_fvi rfl) dX0_begin_44 ?_
        refine lv_iconst (v := (nI 1)) hx hb dX0_begin_47 rfl ?_
        refine lv_iadd hx hb dX0_begin_48 ?_
        refine pf_X0_30 hx hb hta hown hK hP hI hS (i := 0) (by decide) (am_s_outer ca) h dX0_begin_49 (fun M5 H locs hP hS h => ?_)
        refine lv_aload_n hx hb dX0_begin_52 rfl (lv_at hl 1 rfl) ?_
        refine gf_X0_18 hx hb hta hown hK hP (am_wo (i := 0) (by decide) (am_s_outer ca)) (am_fvr (j := 2) rfl) dX0_begin_53 ?_
        refine lv_iload_n hx hb dX0_begin_56 rfl (lv_at hl 0 rfl) ?_
        refine am_aald hx hb hK hP (i := 2) (by decide) (am_s_trans ca) (t0 := 3) rfl h dX0_begin_57 (fun k6 hk6 h => ?_)
        refine lv_iload_n hx hb dX0_begin_58 rfl (lv_at hl 2 rfl) ?_
        refine pf_X0_42 hx hb hta hown hK hP hI hS (i := (33 + k6)) (by omega) (am_s_tx ca hk6) h dX0_begin_59 (fun M7 H locs hP hS h => ?_)
        refine lv_aload_n hx hb dX0_begin_62 rfl (lv_at hl 1 rfl) ?_
        refine gf_X0_18 hx hb hta hown hK hP (am_wo (i := 0) (by decide) (am_s_outer ca)) (am_fvr (j := 2) rfl) dX0_begin_63 ?_
        refine lv_iload_n hx hb dX0_begin_66 rfl (lv_at hl 0 rfl) ?_
        refine am_aald hx hb hK hP (i := 2) (by decide) (am_s_trans ca) (t0 := 3) rfl h dX0_begin_67 (fun k8 hk8 h => ?_)
        refine lv_iconst (v := (nI 1)) hx hb dX0_begin_68 rfl ?_
        refine pf_X0_45 hx hb hta hown hK hP hI hS (i := (33 + k8)) (by omega) (am_s_tx ca hk8) h dX0_begin_69 (fun M9 H locs hP hS h => ?_)
        refine lv_iload_n hx hb dX0_begin_72 rfl (lv_at hl 0 rfl) ?_
        exact am_iret hx hb hr hK hN hP hS h hlocks dX0_begin_73
      · replace h := h.2 hc
        clear hc
        refine lv_bipush (v := (-5)) hx hb dX0_begin_34 rfl ?_
        exact am_iret hx hb hr hK hN hP hS h hlocks dX0_begin_36
    · replace h := h.2 hc
      clear hc
      refine lv_bipush (v := (-3)) hx hb dX0_begin_22 rfl ?_
      exact am_iret hx hb hr hK hN hP hS h hlocks dX0_begin_24
  · replace h := h.2 hc
    clear hc
    refine lv_bipush (v := (-2)) hx hb dX0_begin_7 rfl ?_
    exact am_iret hx hb hr hK hN hP hS h hlocks dX0_begin_9
abbrev rmX0_isTransaction : Room := { frames := 0, cells := 0, slots := 0, locals := 0 }
set_option maxHeartbeats 4000000 in
set_option maxRecDepth 100000 in
theorem c_X0_isTransaction (l : Launch) (dC : Nat → ClassId) (dI : Nat → Nat → Nat) (ca : Nat → ClassId) (ad : Nat → Nat) (hI : am_inj ad) (M : am_M) (x1 : Int32) (Q : Int32 → am_M → Prop) (h : w_X0_isTransaction M x1 Q) : Met l yX0_isTransaction wsX0_isTransaction rmX0_isTransaction (va_Pc [.ref (ad 0), .int x1] (am_B dC dI ca ad M)) (am_Qi dC dI ca ad Q) 0 0 (am_A ad 63) := by
  refine Met.ofW (cc := cX0_isTransaction) (maxL := 2) (ret := (some .boolean)) (by decide) rfl ?_
  intro p e s m args below meth c s₁ B hml hv
  obtain ⟨rfl, hP, hK, hN⟩ := hv
  have hx := B.exec
  have hb := B.bytes
  have hr := B.returns
  have hts := atoms_spec (ws := wsX0_isTransaction) B.pre
  have hta : ∀ w ∈ am_all, w.before _ s = true := fun w hw => hts w (List.mem_cons_of_mem _ hw)
  have hown : s.vm.findClass RX0 = some m.cls := findClass_of_methodNamed B.named
  have hlocks := B.notSynchronized
  have hl := lv_entry ([.ref (ad 0), .int x1]) (n := 2) (Nat.le_of_ble_eq_true rfl)
  rw [lg_entry_eq]
  generalize (lg_sl ([.ref (ad 0), .int x1]) ++ List.replicate (2 - (lg_sl ([.ref (ad 0), .int x1])).length) Slot.unset).toArray = ls at hl ⊢
  have hl : lv_has ls 2 [(0, .ref (ad 0)), (1, .int x1)] := hl
  replace h := w_X0_isTransaction_s h
  refine am_enter (A := am_A ad 63) hP (fun H locs hP hS => ?_)
  refine lv_iload_n hx hb dX0_isTransaction_0 rfl (lv_at hl 1 rfl) ?_
  refine lv_if_lt (tgt := 16) hx hb dX0_isTransaction_1 rfl (fun hc => ?_) (fun hc => ?_)
  · replace h := h.1 hc
    clear hc
    refine lv_iconst (v := (nI 0)) hx hb dX0_isTransaction_16 rfl ?_
    exact am_zret hx hb hr (rfl) hK hN hP hS h hlocks dX0_isTransaction_17
  · replace h := h.2 hc
    clear hc
    refine lv_iload_n hx hb dX0_isTransaction_4 rfl (lv_at hl 1 rfl) ?_
    refine lv_aload_n hx hb dX0_isTransaction_5 rfl (lv_at hl 0 rfl) ?_
    refine gf_X0_30 hx hb hta hown hK hP (am_wo (i := 0) (by decide) (am_s_outer ca)) (am_fvi rfl) dX0_isTransaction_6 ?_
    refine lv_icmp_ge (tgt := 16) hx hb dX0_isTransaction_9 rfl (fun hc => ?_) (fun hc => ?_)
    · replace h := h.1 hc
      clear hc
      refine lv_iconst (v := (nI 0)) hx hb dX0_isTransaction_16 rfl ?_
      exact am_zret hx hb hr (rfl) hK hN hP hS h hlocks dX0_isTransaction_17
    · replace h := h.2 hc
      clear hc
      refine lv_iconst (v := (nI 1)) hx hb dX0_isTransaction_12 rfl ?_
      refine lv_goto (tgt := 17) hx hb dX0_isTransaction_13 rfl ?_
      exact am_zret hx hb hr (rfl) hK hN hP hS h hlocks dX0_isTransaction_17
abbrev rmX0_isResource : Room := { frames := 0, cells := 0, slots := 0, locals := 0 }
set_option maxHeartbeats 4000000 in
set_option maxRecDepth 100000 in
theorem c_X0_isResource (l : Launch) (dC : Nat → ClassId) (dI : Nat → Nat → Nat) (ca : Nat → ClassId) (ad : Nat → Nat) (hI : am_inj ad) (M : am_M) (x1 : Int32) (Q : Int32 → am_M → Prop) (h : w_X0_isResource M x1 Q) : Met l yX0_isResource wsX0_isResource rmX0_isResource (va_Pc [.int x1] (am_B dC dI ca ad M)) (am_Qi dC dI ca ad Q) 0 0 (am_A ad 63) := by
  refine Met.ofW (cc := cX0_isResource) (maxL := 1) (ret := (some .boolean)) (by decide) rfl ?_
  intro p e s m args below meth c s₁ B hml hv
  obtain ⟨rfl, hP, hK, hN⟩ := hv
  have hx := B.exec
  have hb := B.bytes
  have hr := B.returns
  have hts := atoms_spec (ws := wsX0_isResource) B.pre
  have hta : ∀ w ∈ am_all, w.before _ s = true := fun w hw => hts w (List.mem_cons_of_mem _ hw)
  have hown : s.vm.findClass RX0 = some m.cls := findClass_of_methodNamed B.named
  have hlocks := B.notSynchronized
  have hl := lv_entry ([.int x1]) (n := 1) (Nat.le_of_ble_eq_true rfl)
  rw [lg_entry_eq]
  generalize (lg_sl ([.int x1]) ++ List.replicate (1 - (lg_sl ([.int x1])).length) Slot.unset).toArray = ls at hl ⊢
  have hl : lv_has ls 1 [(0, .int x1)] := hl
  replace h := w_X0_isResource_s h
  refine am_enter (A := am_A ad 63) hP (fun H locs hP hS => ?_)
  refine lv_iload_n hx hb dX0_isResource_0 rfl (lv_at hl 0 rfl) ?_
  refine lv_if_lt (tgt := 14) hx hb dX0_isResource_1 rfl (fun hc => ?_) (fun hc => ?_)
  · replace h := h.1 hc
    clear hc
    refine lv_iconst (v := (nI 0)) hx hb dX0_isResource_14 rfl ?_
    exact am_zret hx hb hr (rfl) hK hN hP hS h hlocks dX0_isResource_15
  · replace h := h.2 hc
    clear hc
    refine lv_iload_n hx hb dX0_isResource_4 rfl (lv_at hl 0 rfl) ?_
    refine lv_bipush (v := (nI 8)) hx hb dX0_isResource_5 rfl ?_
    refine lv_icmp_ge (tgt := 14) hx hb dX0_isResource_7 rfl (fun hc => ?_) (fun hc => ?_)
    · replace h := h.1 hc
      clear hc
      refine lv_iconst (v := (nI 0)) hx hb dX0_isResource_14 rfl ?_
      exact am_zret hx hb hr (rfl) hK hN hP hS h hlocks dX0_isResource_15
    · replace h := h.2 hc
      clear hc
      refine lv_iconst (v := (nI 1)) hx hb dX0_isResource_10 rfl ?_
      refine lv_goto (tgt := 15) hx hb dX0_isResource_11 rfl ?_
      exact am_zret hx hb hr (rfl) hK hN hP hS h hlocks dX0_isResource_15
abbrev rmX0_only : Room := { frames := 0, cells := 0, slots := 0, locals := 0 }
set_option maxHeartbeats 4000000 in
set_option maxRecDepth 100000 in
theorem c_X0_only (l : Launch) (dC : Nat → ClassId) (dI : Nat → Nat → Nat) (ca : Nat → ClassId) (ad : Nat → Nat) (hI : am_inj ad) (M : am_M) (x1 : Int32) (Q : Int32 → am_M → Prop) (h : w_X0_only M x1 Q) : Met l yX0_only wsX0_only rmX0_only (va_Pc [.int x1] (am_B dC dI ca ad M)) (am_Qi dC dI ca ad Q) 0 0 (am_A ad 63) := by
  refine Met.ofW (cc := cX0_only) (maxL := 1) (ret := (some .int)) (by decide) rfl ?_
  intro p e s m args below meth c s₁ B hml hv
  obtain ⟨rfl, hP, hK, hN⟩ := hv
  have hx := B.exec
  have hb := B.bytes
  have hr := B.returns
  have hts := atoms_spec (ws := wsX0_only) B.pre
  have hta : ∀ w ∈ am_all, w.before _ s = true := fun w hw => hts w (List.mem_cons_of_mem _ hw)
  have hown : s.vm.findClass RX0 = some m.cls := findClass_of_methodNamed B.named
  have hlocks := B.notSynchronized
  have hl := lv_entry ([.int x1]) (n := 1) (Nat.le_of_ble_eq_true rfl)
  rw [lg_entry_eq]
  generalize (lg_sl ([.int x1]) ++ List.replicate (1 - (lg_sl ([.int x1])).length) Slot.unset).toArray = ls at hl ⊢
  have hl : lv_has ls 1 [(0, .int x1)] := hl
  replace h := w_X0_only_s h
  refine am_enter (A := am_A ad 63) hP (fun H locs hP hS => ?_)
  refine lv_iconst (v := (nI 1)) hx hb dX0_only_0 rfl ?_
  refine lv_iload_n hx hb dX0_only_1 rfl (lv_at hl 0 rfl) ?_
  refine lv_ishl hx hb dX0_only_2 ?_
  exact am_iret hx hb hr hK hN hP hS h hlocks dX0_only_3
abbrev rmX0_isIn : Room := { frames := 1, cells := 0, slots := 0, locals := 20 }
set_option maxHeartbeats 4000000 in
set_option maxRecDepth 100000 in
theorem c_X0_isIn (l : Launch) (dC : Nat → ClassId) (dI : Nat → Nat → Nat) (ca : Nat → ClassId) (ad : Nat → Nat) (hI : am_inj ad) (M : am_M) (x1 : Int32) (x2 : Int32) (Q : Int32 → am_M → Prop) (h : w_X0_isIn M x1 x2 Q) : Met l yX0_isIn wsX0_isIn rmX0_isIn (va_Pc [.int x1, .int x2] (am_B dC dI ca ad M)) (am_Qi dC dI ca ad Q) 0 0 (am_A ad 63) := by
  refine Met.ofW (cc := cX0_isIn) (maxL := 2) (ret := (some .boolean)) (by decide) rfl ?_
  intro p e s m args below meth c s₁ B hml hv
  obtain ⟨rfl, hP, hK, hN⟩ := hv
  have hx := B.exec
  have hb := B.bytes
  have hr := B.returns
  have hts := atoms_spec (ws := wsX0_isIn) B.pre
  have hta : ∀ w ∈ am_all, w.before _ s = true := fun w hw => hts w (List.mem_cons_of_mem _ hw)
  have hown : s.vm.findClass RX0 = some m.cls := findClass_of_methodNamed B.named
  have hlocks := B.notSynchronized
  have hl := lv_entry ([.int x1, .int x2]) (n := 2) (Nat.le_of_ble_eq_true rfl)
  rw [lg_entry_eq]
  generalize (lg_sl ([.int x1, .int x2]) ++ List.replicate (2 - (lg_sl ([.int x1, .int x2])).length) Slot.unset).toArray = ls at hl ⊢
  have hl : lv_has ls 2 [(0, .int x1), (1, .int x2)] := hl
  replace h := w_X0_isIn_s h
  refine am_enter (A := am_A ad 63) hP (fun H locs hP hS => ?_)
  refine lv_iload_n hx hb dX0_isIn_0 rfl (lv_at hl 0 rfl) ?_
  refine lv_iload_n hx hb dX0_isIn_1 rfl (lv_at hl 1 rfl) ?_
  refine am_calli (va_runS (As := [.int x2]) (rest := [.int x1]) ⟨hx, hb, hml, hown, hts⟩ (c_X0_only l dC dI ca ad hI M x2 _ h) ⟨callB_of 1 hts (am_gd mc_X0_only) rfl rfl rfl (hta _ mn_X0) (hta _ ml_X0_65) dc_X0_only ⟨Nat.le_of_ble_eq_true rfl, Nat.le_of_ble_eq_true rfl⟩, hta _ ms_X0_only⟩ (am_preS hK hN hP) rfl rfl hl.1 rfl (lv_room (Nat.le_of_ble_eq_true rfl)) dX0_isIn_2 ⟨Nat.zero_le _, Nat.zero_le _⟩) hS (fun y2 M1 H locs hP hS h => ?_)
  refine lv_iand hx hb dX0_isIn_5 ?_
  refine lv_if_eq (tgt := 13) hx hb dX0_isIn_6 rfl (fun hc => ?_) (fun hc => ?_)
  · replace h := h.1 hc
    clear hc
    refine lv_iconst (v := (nI 0)) hx hb dX0_isIn_13 rfl ?_
    exact am_zret hx hb hr (rfl) hK hN hP hS h hlocks dX0_isIn_14
  · replace h := h.2 hc
    clear hc
    refine lv_iconst (v := (nI 1)) hx hb dX0_isIn_9 rfl ?_
    refine lv_goto (tgt := 14) hx hb dX0_isIn_10 rfl ?_
    exact am_zret hx hb hr (rfl) hK hN hP hS h hlocks dX0_isIn_14
abbrev rmX3_findOwner : Room := { frames := 2, cells := 0, slots := 0, locals := 41 }
set_option maxHeartbeats 4000000 in
set_option maxRecDepth 100000 in
theorem c_X3_findOwner (l : Launch) (dC : Nat → ClassId) (dI : Nat → Nat → Nat) (ca : Nat → ClassId) (ad : Nat → Nat) (hI : am_inj ad) (M : am_M) (n : Nat) (hn : n < 4) (x1 : Int32) (Q : Int32 → am_M → Prop) (h : w_X3_findOwner M n x1 Q) : Met l yX3_findOwner wsX3_findOwner rmX3_findOwner (va_Pc [.ref (ad (9 + 6 * n)), .int x1] (am_B dC dI ca ad M)) (am_Qi dC dI ca ad Q) 0 0 (am_A ad 63) := by
  refine Met.ofW (cc := cX3_findOwner) (maxL := 3) (ret := (some .int)) (by decide) rfl ?_
  intro p e s m args below meth c s₁ B hml hv
  obtain ⟨rfl, hP, hK, hN⟩ := hv
  have hx := B.exec
  have hb := B.bytes
  have hr := B.returns
  have hts := atoms_spec (ws := wsX3_findOwner) B.pre
  have hta : ∀ w ∈ am_all, w.before _ s = true := fun w hw => hts w (List.mem_cons_of_mem _ hw)
  have hown : s.vm.findClass RX3 = some m.cls := findClass_of_methodNamed B.named
  have hlocks := B.notSynchronized
  have hl := lv_entry ([.ref (ad (9 + 6 * n)), .int x1]) (n := 3) (Nat.le_of_ble_eq_true rfl)
  rw [lg_entry_eq]
  generalize (lg_sl ([.ref (ad (9 + 6 * n)), .int x1]) ++ List.replicate (3 - (lg_sl ([.ref (ad (9 + 6 * n)), .int x1])).length) Slot.unset).toArray = ls at hl ⊢
  have hl : lv_has ls 3 [(0, .ref (ad (9 + 6 * n))), (1, .int x1)] := hl
  replace h := w_X3_findOwner_s h
  refine am_enter (A := am_A ad 63) hP (fun H locs hP hS => ?_)
  refine lv_iconst (v := (nI 0)) hx hb dX3_findOwner_0 rfl ?_
  refine am_topi h (fun y1 h => ?_)
  refine lv_istore_n hx hb dX3_findOwner_1 rfl hl (by decide) rfl (fun ls hl => ?_)
  have hl : lv_has ls 3 [(2, .int y1), (0, .ref (ad (9 + 6 * n))), (1, .int x1)] := hl
  obtain ⟨f2, h⟩ := h
  have key2 : ∀ (K : am_M → Int32 → Prop), (∀ (M3 : am_M) (z2 : Int32) (ls : Array Slot) (H : Heap) (locs : List Loc), K M3 z2 → va_P (dC, dI) vwCl (am_w ad (am_sh ca) 63 M3) H → va_S (am_A ad 63) s.heap H locs → lv_has ls 3 [(2, .int z2), (0, .ref (ad (9 + 6 * n))), (1, .int x1)] → am_Wi p l e wsX3_findOwner rmX3_findOwner s m ([.ref (ad (9 + 6 * n)), .int x1] : List Value).toArray below meth c H locs dC dI ca ad Q (F0 m 29 ls [])) → ∀ (f2 : Nat) (M3 : am_M) (z2 : Int32) (ls : Array Slot) (H : Heap) (locs : List Loc), w_X3_findOwner_L2 n x1 Q K f2 M3 z2 → va_P (dC, dI) vwCl (am_w ad (am_sh ca) 63 M3) H → va_S (am_A ad 63) s.heap H locs → lv_has ls 3 [(2, .int z2), (0, .ref (ad (9 + 6 * n))), (1, .int x1)] → am_Wi p l e wsX3_findOwner rmX3_findOwner s m ([.ref (ad (9 + 6 * n)), .int x1] : List Value).toArray below meth c H locs dC dI ca ad Q (F0 m 2 ls []) := by
    intro K hex2 f2
    induction f2 with
    | zero => intro _ _ _ _ _ h; exact False.elim h
    | succ f2 ih2 =>
      intro M3 z2 ls H locs h hP hS hl
      replace h := w_X3_findOwner_L2_s h
      refine lv_iload_n hx hb dX3_findOwner_2 rfl (lv_at hl 0 rfl) ?_
      refine lv_bipush (v := (nI 10)) hx hb dX3_findOwner_3 rfl ?_
      refine lv_icmp_ge (tgt := 29) hx hb dX3_findOwner_5 rfl (fun hc => ?_) (fun hc => ?_)
      · replace h := h.1 hc
        clear hc
        exact hex2 M3 z2 ls H locs h hP hS (lv_sub hl [0, 1, 2] rfl)
      · replace h := h.2 hc
        clear hc
        refine lv_aload_n hx hb dX3_findOwner_8 rfl (lv_at hl 1 rfl) ?_
        refine gf_X3_19 hx hb hta hown hK hP (am_wo (i := (9 + 6 * n)) (by omega) (am_s_node ca hn)) (am_fvr (j := (11 + 6 * n)) rfl) dX3_findOwner_9 ?_
        refine lv_iload_n hx hb dX3_findOwner_12 rfl (lv_at hl 0 rfl) ?_
        refine am_iald hx hb hK hP (i := (11 + 6 * n)) (by omega) (am_s_held ca hn) h dX3_findOwner_13 (fun k4 hk4 h => ?_)
        refine lv_iload_n hx hb dX3_findOwner_14 rfl (lv_at hl 2 rfl) ?_
        refine am_calli (va_runSN (As := [.int (nI (M3.1 5 n k4)), .int x1]) (rest := []) ⟨hx, hb, hml, hown, hts⟩ (c_X0_isIn l dC dI ca ad hI M3 (nI (M3.1 5 n k4)) x1 _ h) ⟨va_cnB 2 hts (am_gd mc_X0_isIn) rfl rfl rfl hN.1 (hta _ mn_X0) dc_X0_isIn ⟨Nat.le_of_ble_eq_true rfl, Nat.le_of_ble_eq_true rfl⟩, hta _ ms_X0_isIn, trivial⟩ (am_preS hK hN hP) rfl rfl hl.1 rfl (lv_room (Nat.le_of_ble_eq_true rfl)) dX3_findOwner_15 ⟨Nat.zero_le _, Nat.zero_le _⟩) hS (fun y6 M5 H locs hP hS h => ?_)
        refine lv_if_eq (tgt := 23) hx hb dX3_findOwner_18 rfl (fun hc => ?_) (fun hc => ?_)
        · replace h := h.1 hc
          clear hc
          refine am_iinc (k := 0) (d := nI 1) hx hb dX3_findOwner_23 hl rfl rfl (by decide) h (fun y7 ls h hl => ?_)
          have hl : lv_has ls 3 [(2, .int y7), (0, .ref (ad (9 + 6 * n))), (1, .int x1)] := hl
          refine lv_goto (tgt := 2) hx hb dX3_findOwner_26 rfl ?_
          exact ih2 M5 y7 ls H locs h hP hS (lv_sub hl [0, 1, 2] rfl)
        · replace h := h.2 hc
          clear hc
          refine lv_iload_n hx hb dX3_findOwner_21 rfl (lv_at hl 0 rfl) ?_
          exact am_iret hx hb hr hK hN hP hS h hlocks dX3_findOwner_22
  refine key2 _ ?_ f2 M y1 ls H locs h hP hS hl
  intro M8 z9 ls H locs h hP hS hl
  refine lv_iconst (v := (-1)) hx hb dX3_findOwner_29 rfl ?_
  exact am_iret hx hb hr hK hN hP hS h hlocks dX3_findOwner_30
abbrev rmX3_grant : Room := { frames := 3, cells := 0, slots := 0, locals := 63 }
set_option maxHeartbeats 4000000 in
set_option maxRecDepth 100000 in
theorem c_X3_grant (l : Launch) (dC : Nat → ClassId) (dI : Nat → Nat → Nat) (ca : Nat → ClassId) (ad : Nat → Nat) (hI : am_inj ad) (M : am_M) (n : Nat) (hn : n < 4) (x1 : Int32) (x2 : Int32) (Q : Int32 → am_M → Prop) (h : w_X3_grant M n x1 x2 Q) : Met l yX3_grant wsX3_grant rmX3_grant (va_Pc [.ref (ad (9 + 6 * n)), .int x1, .int x2] (am_B dC dI ca ad M)) (am_Qi dC dI ca ad Q) 0 0 (am_A ad 63) := by
  refine Met.ofW (cc := cX3_grant) (maxL := 4) (ret := (some .boolean)) (by decide) rfl ?_
  intro p e s m args below meth c s₁ B hml hv
  obtain ⟨rfl, hP, hK, hN⟩ := hv
  have hx := B.exec
  have hb := B.bytes
  have hr := B.returns
  have hts := atoms_spec (ws := wsX3_grant) B.pre
  have hta : ∀ w ∈ am_all, w.before _ s = true := fun w hw => hts w (List.mem_cons_of_mem _ hw)
  have hown : s.vm.findClass RX3 = some m.cls := findClass_of_methodNamed B.named
  have hlocks := B.notSynchronized
  have hl := lv_entry ([.ref (ad (9 + 6 * n)), .int x1, .int x2]) (n := 4) (Nat.le_of_ble_eq_true rfl)
  rw [lg_entry_eq]
  generalize (lg_sl ([.ref (ad (9 + 6 * n)), .int x1, .int x2]) ++ List.replicate (4 - (lg_sl ([.ref (ad (9 + 6 * n)), .int x1, .int x2])).length) Slot.unset).toArray = ls at hl ⊢
  have hl : lv_has ls 4 [(0, .ref (ad (9 + 6 * n))), (1, .int x1), (2, .int x2)] := hl
  replace h := w_X3_grant_s h
  refine am_enter (A := am_A ad 63) hP (fun H locs hP hS => ?_)
  refine lv_aload_n hx hb dX3_grant_0 rfl (lv_at hl 0 rfl) ?_
  refine gf_X3_15 hx hb hta hown hK hP (am_wo (i := (9 + 6 * n)) (by omega) (am_s_node ca hn)) (am_fvr (j := (10 + 6 * n)) rfl) dX3_grant_1 ?_
  refine lv_iload_n hx hb dX3_grant_4 rfl (lv_at hl 1 rfl) ?_
  refine am_iald hx hb hK hP (i := (10 + 6 * n)) (by omega) (am_s_states ca hn) h dX3_grant_5 (fun k1 hk1 h => ?_)
  refine lv_iconst (v := (nI 2)) hx hb dX3_grant_6 rfl ?_
  refine lv_icmp_ne (tgt := 12) hx hb dX3_grant_7 rfl (fun hc => ?_) (fun hc => ?_)
  · replace h := h.1 hc
    clear hc
    refine lv_iload_n hx hb dX3_grant_12 rfl (lv_at hl 2 rfl) ?_
    refine lv_iconst (v := (-1)) hx hb dX3_grant_13 rfl ?_
    refine lv_icmp_ne (tgt := 19) hx hb dX3_grant_14 rfl (fun hc => ?_) (fun hc => ?_)
    · replace h := h.1 hc
      clear hc
      refine lv_aload_n hx hb dX3_grant_19 rfl (lv_at hl 0 rfl) ?_
      refine lv_iload_n hx hb dX3_grant_20 rfl (lv_at hl 2 rfl) ?_
      refine am_calli (va_runV (C := RX3) (As := [.int x2]) (rest := []) ⟨hx, hb, hml, hown, hts⟩ (c_X3_findOwner l dC dI ca ad hI M n hn x2 _ h) ⟨callB_of 1 hts (am_gd mc_X3_findOwner) rfl rfl rfl (hta _ mn_X3) (hta _ ml_X3_33) dc_X3_findOwner ⟨Nat.le_of_ble_eq_true rfl, Nat.le_of_ble_eq_true rfl⟩, hta _ mi_X3_findOwner, hta _ me_X3_findOwner⟩ (am_preV (q := (RX3, TX3, 4)) hK hN hP rfl (by omega) (am_s_node ca hn)) rfl rfl hl.1 rfl (lv_room (Nat.le_of_ble_eq_true rfl)) dX3_grant_21 ⟨Nat.zero_le _, Nat.zero_le _⟩) hS (fun y3 M2 H locs hP hS h => ?_)
      refine am_topi h (fun y4 h => ?_)
      refine lv_istore_n hx hb dX3_grant_24 rfl hl (by decide) rfl (fun ls hl => ?_)
      have hl : lv_has ls 4 [(3, .int y4), (0, .ref (ad (9 + 6 * n))), (1, .int x1), (2, .int x2)] := hl
      refine lv_iload_n hx hb dX3_grant_25 rfl (lv_at hl 0 rfl) ?_
      refine lv_iconst (v := (-1)) hx hb dX3_grant_26 rfl ?_
      refine lv_icmp_eq (tgt := 44) hx hb dX3_grant_27 rfl (fun hc => ?_) (fun hc => ?_)
      · replace h := h.1 hc
        clear hc
        refine lv_aload_n hx hb dX3_grant_44 rfl (lv_at hl 1 rfl) ?_
        refine gf_X3_19 hx hb hta hown hK hP (am_wo (i := (9 + 6 * n)) (by omega) (am_s_node ca hn)) (am_fvr (j := (11 + 6 * n)) rfl) dX3_grant_45 ?_
        refine lv_iload_n hx hb dX3_grant_48 rfl (lv_at hl 2 rfl) ?_
        refine lv_dup2_11 hx hb dX3_grant_49 rfl rfl ?_
        refine am_iald hx hb hK hP (i := (11 + 6 * n)) (by omega) (am_s_held ca hn) h dX3_grant_50 (fun k5 hk5 h => ?_)
        refine lv_iload_n hx hb dX3_grant_51 rfl (lv_at hl 3 rfl) ?_
        refine am_calli (va_runSN (As := [.int x2]) (rest := [.int (nI (M2.1 5 n k5)), .int x1, .ref (ad (11 + 6 * n))]) ⟨hx, hb, hml, hown, hts⟩ (c_X0_only l dC dI ca ad hI M2 x2 _ h) ⟨va_cnB 1 hts (am_gd mc_X0_only) rfl rfl rfl hN.2.1 (hta _ mn_X0) dc_X0_only ⟨Nat.le_of_ble_eq_true rfl, Nat.le_of_ble_eq_true rfl⟩, hta _ ms_X0_only, trivial⟩ (am_preS hK hN hP) rfl rfl hl.1 rfl (lv_room (Nat.le_of_ble_eq_true rfl)) dX3_grant_52 ⟨Nat.zero_le _, Nat.zero_le _⟩) hS (fun y7 M6 H locs hP hS h => ?_)
        refine lv_ior hx hb dX3_grant_55 ?_
        refine am_iast hx hb hK hP hI hS (i := (11 + 6 * n)) (by omega) (am_s_held ca hn) h dX3_grant_56 (fun M8 H locs hP hS h => ?_)
        refine lv_iconst (v := (nI 1)) hx hb dX3_grant_57 rfl ?_
        exact am_zret hx hb hr (rfl) hK hN hP hS h hlocks dX3_grant_58
      · replace h := h.2 hc
        clear hc
        refine lv_iload_n hx hb dX3_grant_30 rfl (lv_at hl 0 rfl) ?_
        refine lv_iload_n hx hb dX3_grant_31 rfl (lv_at hl 2 rfl) ?_
        refine lv_icmp_eq (tgt := 44) hx hb dX3_grant_32 rfl (fun hc => ?_) (fun hc => ?_)
        · replace h := h.1 hc
          clear hc
          refine lv_aload_n hx hb dX3_grant_44 rfl (lv_at hl 1 rfl) ?_
          refine gf_X3_19 hx hb hta hown hK hP (am_wo (i := (9 + 6 * n)) (by omega) (am_s_node ca hn)) (am_fvr (j := (11 + 6 * n)) rfl) dX3_grant_45 ?_
          refine lv_iload_n hx hb dX3_grant_48 rfl (lv_at hl 2 rfl) ?_
          refine lv_dup2_11 hx hb dX3_grant_49 rfl rfl ?_
          refine am_iald hx hb hK hP (i := (11 + 6 * n)) (by omega) (am_s_held ca hn) h dX3_grant_50 (fun k9 hk9 h => ?_)
          refine lv_iload_n hx hb dX3_grant_51 rfl (lv_at hl 3 rfl) ?_
          refine am_calli (va_runSN (As := [.int x2]) (rest := [.int (nI (M2.1 5 n k9)), .int x1, .ref (ad (11 + 6 * n))]) ⟨hx, hb, hml, hown, hts⟩ (c_X0_only l dC dI ca ad hI M2 x2 _ h) ⟨va_cnB 1 hts (am_gd mc_X0_only) rfl rfl rfl hN.2.1 (hta _ mn_X0) dc_X0_only ⟨Nat.le_of_ble_eq_true rfl, Nat.le_of_ble_eq_true rfl⟩, hta _ ms_X0_only, trivial⟩ (am_preS hK hN hP) rfl rfl hl.1 rfl (lv_room (Nat.le_of_ble_eq_true rfl)) dX3_grant_52 ⟨Nat.zero_le _, Nat.zero_le _⟩) hS (fun y11 M10 H locs hP hS h => ?_)
          refine lv_ior hx hb dX3_grant_55 ?_
          refine am_iast hx hb hK hP hI hS (i := (11 + 6 * n)) (by omega) (am_s_held ca hn) h dX3_grant_56 (fun M12 H locs hP hS h => ?_)
          refine lv_iconst (v := (nI 1)) hx hb dX3_grant_57 rfl ?_
          exact am_zret hx hb hr (rfl) hK hN hP hS h hlocks dX3_grant_58
        · replace h := h.2 hc
          clear hc
          refine lv_aload_n hx hb dX3_grant_35 rfl (lv_at hl 1 rfl) ?_
          refine gf_X3_15 hx hb hta hown hK hP (am_wo (i := (9 + 6 * n)) (by omega) (am_s_node ca hn)) (am_fvr (j := (10 + 6 * n)) rfl) dX3_grant_36 ?_
          refine lv_iload_n hx hb dX3_grant_39 rfl (lv_at hl 2 rfl) ?_
          refine lv_iconst (v := (nI 2)) hx hb dX3_grant_40 rfl ?_
          refine am_iast hx hb hK hP hI hS (i := (10 + 6 * n)) (by omega) (am_s_states ca hn) h dX3_grant_41 (fun M13 H locs hP hS h => ?_)
          refine lv_iconst (v := (nI 0)) hx hb dX3_grant_42 rfl ?_
          exact am_zret hx hb hr (rfl) hK hN hP hS h hlocks dX3_grant_43
    · replace h := h.2 hc
      clear hc
      refine lv_iconst (v := (nI 1)) hx hb dX3_grant_17 rfl ?_
      exact am_zret hx hb hr (rfl) hK hN hP hS h hlocks dX3_grant_18
  · replace h := h.2 hc
    clear hc
    refine lv_iconst (v := (nI 0)) hx hb dX3_grant_10 rfl ?_
    exact am_zret hx hb hr (rfl) hK hN hP hS h hlocks dX3_grant_11
abbrev rmX0_work : Room := { frames := 4, cells := 0, slots := 0, locals := 86 }
set_option maxHeartbeats 4000000 in
set_option maxRecDepth 100000 in
theorem c_X0_work (l : Launch) (dC : Nat → ClassId) (dI : Nat → Nat → Nat) (ca : Nat → ClassId) (ad : Nat → Nat) (hI : am_inj ad) (M : am_M) (x1 : Int32) (x2 : Int32) (x3 : Int32) (Q : Int32 → am_M → Prop) (h : w_X0_work M x1 x2 x3 Q) : Met l yX0_work wsX0_work rmX0_work (va_Pc [.ref (ad 0), .int x1, .int x2, .int x3] (am_B dC dI ca ad M)) (am_Qi dC dI ca ad Q) 0 0 (am_A ad 63) := by
  refine Met.ofW (cc := cX0_work) (maxL := 7) (ret := (some .int)) (by decide) rfl ?_
  intro p e s m args below meth c s₁ B hml hv
  obtain ⟨rfl, hP, hK, hN⟩ := hv
  have hx := B.exec
  have hb := B.bytes
  have hr := B.returns
  have hts := atoms_spec (ws := wsX0_work) B.pre
  have hta : ∀ w ∈ am_all, w.before _ s = true := fun w hw => hts w (List.mem_cons_of_mem _ hw)
  have hown : s.vm.findClass RX0 = some m.cls := findClass_of_methodNamed B.named
  have hlocks := B.notSynchronized
  have hl := lv_entry ([.ref (ad 0), .int x1, .int x2, .int x3]) (n := 7) (Nat.le_of_ble_eq_true rfl)
  rw [lg_entry_eq]
  generalize (lg_sl ([.ref (ad 0), .int x1, .int x2, .int x3]) ++ List.replicate (7 - (lg_sl ([.ref (ad 0), .int x1, .int x2, .int x3])).length) Slot.unset).toArray = ls at hl ⊢
  have hl : lv_has ls 7 [(0, .ref (ad 0)), (1, .int x1), (2, .int x2), (3, .int x3)] := hl
  replace h := w_X0_work_s h
  have J138 : ∀ (k25 : Nat) (hk25 : k25 < 4) (k26 : Nat) (hk26 : k26 < 10) (M28 : am_M) (y22 : Int32) (y23 : Int32) (y24 : Int32) (y27 : Int32) (ls : Array Slot) (H : Heap) (locs : List Loc), w_X0_work_J138 k25 k26 M28 y22 y23 y24 y27 Q → va_P (dC, dI) vwCl (am_w ad (am_sh ca) 63 M28) H → va_S (am_A ad 63) s.heap H locs → lv_has ls 7 [(0, .ref (ad 0)), (1, .int y22), (2, .int y23), (3, .int y24), (4, .ref (ad (9 + 6 * k25))), (5, .ref (ad (33 + k26))), (6, .int y27)] → am_Wi p l e wsX0_work rmX0_work s m ([.ref (ad 0), .int x1, .int x2, .int x3] : List Value).toArray below meth c H locs dC dI ca ad Q (F0 m 138 ls []) := by
      intro k25 hk25 k26 hk26 M28 y22 y23 y24 y27 ls H locs h hP hS hl
      replace h := w_X0_work_J138_s h
      refine lv_aload hx hb dX0_work_138 (lv_at hl 4 rfl) ?_
      refine lv_iload_n hx hb dX0_work_140 rfl (lv_at hl 1 rfl) ?_
      refine lv_iload_n hx hb dX0_work_141 rfl (lv_at hl 3 rfl) ?_
      refine am_calli (va_runV (C := RX3) (As := [.int y22, .int y24]) (rest := []) ⟨hx, hb, hml, hown, hts⟩ (c_X3_grant l dC dI ca ad hI M28 k25 hk25 y22 y24 _ h) ⟨callB_of 2 hts (am_gd mc_X3_grant) rfl rfl rfl (hta _ mn_X3) (hta _ ml_X0_69) dc_X3_grant ⟨Nat.le_of_ble_eq_true rfl, Nat.le_of_ble_eq_true rfl⟩, hta _ mi_X3_grant, hta _ me_X3_grant⟩ (am_preV (q := (RX3, TX3, 4)) hK hN hP rfl (by omega) (am_s_node ca hk25)) rfl rfl hl.1 rfl (lv_room (Nat.le_of_ble_eq_true rfl)) dX0_work_142 ⟨Nat.zero_le _, Nat.zero_le _⟩) hS (fun y30 M29 H locs hP hS h => ?_)
      refine lv_if_eq (tgt := 152) hx hb dX0_work_145 rfl (fun hc => ?_) (fun hc => ?_)
      · replace h := h.1 hc
        clear hc
        refine lv_iconst (v := (nI 0)) hx hb dX0_work_152 rfl ?_
        exact am_iret hx hb hr hK hN hP hS h hlocks dX0_work_153
      · replace h := h.2 hc
        clear hc
        refine lv_iconst (v := (nI 1)) hx hb dX0_work_148 rfl ?_
        refine lv_goto (tgt := 153) hx hb dX0_work_149 rfl ?_
        exact am_iret hx hb hr hK hN hP hS h hlocks dX0_work_153
  have J111 : ∀ (k18 : Nat) (hk18 : k18 < 4) (k19 : Nat) (hk19 : k19 < 10) (M21 : am_M) (y15 : Int32) (y16 : Int32) (y17 : Int32) (y20 : Int32) (ls : Array Slot) (H : Heap) (locs : List Loc), w_X0_work_J111 k18 k19 M21 y15 y16 y17 y20 Q → va_P (dC, dI) vwCl (am_w ad (am_sh ca) 63 M21) H → va_S (am_A ad 63) s.heap H locs → lv_has ls 7 [(0, .ref (ad 0)), (1, .int y15), (2, .int y16), (3, .int y17), (4, .ref (ad (9 + 6 * k18))), (5, .ref (ad (33 + k19))), (6, .int y20)] → am_Wi p l e wsX0_work rmX0_work s m ([.ref (ad 0), .int x1, .int x2, .int x3] : List Value).toArray below meth c H locs dC dI ca ad Q (F0 m 111 ls []) := by
      intro k18 hk18 k19 hk19 M21 y15 y16 y17 y20 ls H locs h hP hS hl
      replace h := w_X0_work_J111_s h
      refine lv_iload hx hb dX0_work_111 (lv_at hl 6 rfl) ?_
      refine lv_if_ne (tgt := 138) hx hb dX0_work_113 rfl (fun hc => ?_) (fun hc => ?_)
      · replace h := h.1 hc
        clear hc
        exact J138 k18 hk18 k19 hk19 M21 y15 y16 y17 y20 ls H locs h hP hS (lv_sub hl [0, 1, 2, 3, 4, 5, 6] rfl)
      · replace h := h.2 hc
        clear hc
        refine lv_aload hx hb dX0_work_116 (lv_at hl 5 rfl) ?_
        refine lv_dup hx hb dX0_work_118 rfl ?_
        refine gf_X0_54 hx hb hta hown hK hP (am_wo (i := (33 + k19)) (by omega) (am_s_tx ca hk19)) (am_fvi rfl) dX0_work_119 ?_
        refine lv_iload_n hx hb dX0_work_122 rfl (lv_at hl 2 rfl) ?_
        refine am_calli (va_runS (As := [.int y16]) (rest := [.int (nI (M21.1 9 k19 2)), .ref (ad (33 + k19))]) ⟨hx, hb, hml, hown, hts⟩ (c_X0_only l dC dI ca ad hI M21 y16 _ h) ⟨callB_of 1 hts (am_gd mc_X0_only) rfl rfl rfl (hta _ mn_X0) (hta _ ml_X0_65) dc_X0_only ⟨Nat.le_of_ble_eq_true rfl, Nat.le_of_ble_eq_true rfl⟩, hta _ ms_X0_only⟩ (am_preS hK hN hP) rfl rfl hl.1 rfl (lv_room (Nat.le_of_ble_eq_true rfl)) dX0_work_123 ⟨Nat.zero_le _, Nat.zero_le _⟩) hS (fun y32 M31 H locs hP hS h => ?_)
        refine lv_ior hx hb dX0_work_126 ?_
        refine pf_X0_54 hx hb hta hown hK hP hI hS (i := (33 + k19)) (by omega) (am_s_tx ca hk19) h dX0_work_127 (fun M33 H locs hP hS h => ?_)
        refine lv_aload hx hb dX0_work_130 (lv_at hl 4 rfl) ?_
        refine gf_X0_61 hx hb hta hown hK hP (am_wo (i := (9 + 6 * k18)) (by omega) (am_s_node ca hk18)) (am_fvr (j := (10 + 6 * k18)) rfl) dX0_work_132 ?_
        refine lv_iload_n hx hb dX0_work_135 rfl (lv_at hl 1 rfl) ?_
        refine lv_iconst (v := (nI 1)) hx hb dX0_work_136 rfl ?_
        refine am_iast hx hb hK hP hI hS (i := (10 + 6 * k18)) (by omega) (am_s_states ca hk18) h dX0_work_137 (fun M34 H locs hP hS h => ?_)
        exact J138 k18 hk18 k19 hk19 M34 y15 y16 y17 y20 ls H locs h hP hS (lv_sub hl [0, 1, 2, 3, 4, 5, 6] rfl)
  have J30 : ∀ (M8 : am_M) (y5 : Int32) (y6 : Int32) (y7 : Int32) (ls : Array Slot) (H : Heap) (locs : List Loc), w_X0_work_J30 M8 y5 y6 y7 Q → va_P (dC, dI) vwCl (am_w ad (am_sh ca) 63 M8) H → va_S (am_A ad 63) s.heap H locs → lv_has ls 7 [(0, .ref (ad 0)), (1, .int y5), (2, .int y6), (3, .int y7)] → am_Wi p l e wsX0_work rmX0_work s m ([.ref (ad 0), .int x1, .int x2, .int x3] : List Value).toArray below meth c H locs dC dI ca ad Q (F0 m 30 ls []) := by
      intro M8 y5 y6 y7 ls H locs h hP hS hl
      replace h := w_X0_work_J30_s h
      refine lv_aload_n hx hb dX0_work_30 rfl (lv_at hl 0 rfl) ?_
      refine gf_X0_11 hx hb hta hown hK hP (am_wo (i := 0) (by decide) (am_s_outer ca)) (am_fvr (j := 1) rfl) dX0_work_31 ?_
      refine lv_iload_n hx hb dX0_work_34 rfl (lv_at hl 2 rfl) ?_
      refine am_aald hx hb hK hP (i := 1) (by decide) (am_s_nodes ca) (t0 := 2) rfl h dX0_work_35 (fun k9 hk9 h => ?_)
      refine lv_astore hx hb dX0_work_36 hl (by decide) rfl (fun ls hl => ?_)
      have hl : lv_has ls 7 [(4, .ref (ad (9 + 6 * k9))), (0, .ref (ad 0)), (1, .int y5), (2, .int y6), (3, .int y7)] := hl
      refine lv_aload_n hx hb dX0_work_38 rfl (lv_at hl 1 rfl) ?_
      refine gf_X0_18 hx hb hta hown hK hP (am_wo (i := 0) (by decide) (am_s_outer ca)) (am_fvr (j := 2) rfl) dX0_work_39 ?_
      refine lv_iload_n hx hb dX0_work_42 rfl (lv_at hl 2 rfl) ?_
      refine am_aald hx hb hK hP (i := 2) (by decide) (am_s_trans ca) (t0 := 3) rfl h dX0_work_43 (fun k10 hk10 h => ?_)
      refine lv_astore hx hb dX0_work_44 hl (by decide) rfl (fun ls hl => ?_)
      have hl : lv_has ls 7 [(5, .ref (ad (33 + k10))), (4, .ref (ad (9 + 6 * k9))), (0, .ref (ad 0)), (1, .int y5), (2, .int y6), (3, .int y7)] := hl
      refine lv_aload hx hb dX0_work_46 (lv_at hl 1 rfl) ?_
      refine gf_X0_38 hx hb hta hown hK hP (am_wo (i := (9 + 6 * k9)) (by omega) (am_s_node ca hk9)) (am_fvi rfl) dX0_work_48 ?_
      refine lv_if_eq (tgt := 70) hx hb dX0_work_51 rfl (fun hc => ?_) (fun hc => ?_)
      · replace h := h.1 hc
        clear hc
        refine lv_bipush (v := (-3)) hx hb dX0_work_70 rfl ?_
        exact am_iret hx hb hr hK hN hP hS h hlocks dX0_work_72
      · replace h := h.2 hc
        clear hc
        refine lv_aload_n hx hb dX0_work_54 rfl (lv_at hl 2 rfl) ?_
        refine gf_X0_11 hx hb hta hown hK hP (am_wo (i := 0) (by decide) (am_s_outer ca)) (am_fvr (j := 1) rfl) dX0_work_55 ?_
        refine lv_aload hx hb dX0_work_58 (lv_at hl 0 rfl) ?_
        refine gf_X0_42 hx hb hta hown hK hP (am_wo (i := (33 + k10)) (by omega) (am_s_tx ca hk10)) (am_fvi rfl) dX0_work_60 ?_
        refine am_aald hx hb hK hP (i := 1) (by decide) (am_s_nodes ca) (t0 := 2) rfl h dX0_work_63 (fun k11 hk11 h => ?_)
        refine gf_X0_38 hx hb hta hown hK hP (am_wo (i := (9 + 6 * k11)) (by omega) (am_s_node ca hk11)) (am_fvi rfl) dX0_work_64 ?_
        refine lv_if_ne (tgt := 73) hx hb dX0_work_67 rfl (fun hc => ?_) (fun hc => ?_)
        · replace h := h.1 hc
          clear hc
          refine lv_aload hx hb dX0_work_73 (lv_at hl 0 rfl) ?_
          refine gf_X0_54 hx hb hta hown hK hP (am_wo (i := (33 + k10)) (by omega) (am_s_tx ca hk10)) (am_fvi rfl) dX0_work_75 ?_
          refine lv_iload_n hx hb dX0_work_78 rfl (lv_at hl 4 rfl) ?_
          refine am_calli (va_runS (As := [.int (nI (M8.1 9 k10 2)), .int y6]) (rest := []) ⟨hx, hb, hml, hown, hts⟩ (c_X0_isIn l dC dI ca ad hI M8 (nI (M8.1 9 k10 2)) y6 _ h) ⟨callB_of 2 hts (am_gd mc_X0_isIn) rfl rfl rfl (hta _ mn_X0) (hta _ ml_X0_57) dc_X0_isIn ⟨Nat.le_of_ble_eq_true rfl, Nat.le_of_ble_eq_true rfl⟩, hta _ ms_X0_isIn⟩ (am_preS hK hN hP) rfl rfl hl.1 rfl (lv_room (Nat.le_of_ble_eq_true rfl)) dX0_work_79 ⟨Nat.zero_le _, Nat.zero_le _⟩) hS (fun y13 M12 H locs hP hS h => ?_)
          refine am_topi h (fun y14 h => ?_)
          refine lv_istore hx hb dX0_work_82 hl (by decide) rfl (fun ls hl => ?_)
          have hl : lv_has ls 7 [(6, .int y14), (5, .ref (ad (33 + k10))), (4, .ref (ad (9 + 6 * k9))), (0, .ref (ad 0)), (1, .int y5), (2, .int y6), (3, .int y7)] := hl
          refine lv_aload hx hb dX0_work_84 (lv_at hl 1 rfl) ?_
          refine gf_X0_45 hx hb hta hown hK hP (am_wo (i := (33 + k10)) (by omega) (am_s_tx ca hk10)) (am_fvi rfl) dX0_work_86 ?_
          refine lv_iconst (v := (nI 1)) hx hb dX0_work_89 rfl ?_
          refine lv_icmp_ne (tgt := 108) hx hb dX0_work_90 rfl (fun hc => ?_) (fun hc => ?_)
          · replace h := h.1 hc
            clear hc
            refine lv_bipush (v := (-4)) hx hb dX0_work_108 rfl ?_
            exact am_iret hx hb hr hK hN hP hS h hlocks dX0_work_110
          · replace h := h.2 hc
            clear hc
            refine lv_iload hx hb dX0_work_93 (lv_at hl 0 rfl) ?_
            refine lv_if_eq (tgt := 111) hx hb dX0_work_95 rfl (fun hc => ?_) (fun hc => ?_)
            · replace h := h.1 hc
              clear hc
              exact J111 k9 hk9 k10 hk10 M12 y5 y6 y7 y14 ls H locs h hP hS (lv_sub hl [3, 4, 5, 6, 2, 1, 0] rfl)
            · replace h := h.2 hc
              clear hc
              refine lv_aload hx hb dX0_work_98 (lv_at hl 2 rfl) ?_
              refine gf_X0_61 hx hb hta hown hK hP (am_wo (i := (9 + 6 * k9)) (by omega) (am_s_node ca hk9)) (am_fvr (j := (10 + 6 * k9)) rfl) dX0_work_100 ?_
              refine lv_iload_n hx hb dX0_work_103 rfl (lv_at hl 4 rfl) ?_
              refine am_iald hx hb hK hP (i := (10 + 6 * k9)) (by omega) (am_s_states ca hk9) h dX0_work_104 (fun k35 hk35 h => ?_)
              refine lv_if_ne (tgt := 111) hx hb dX0_work_105 rfl (fun hc => ?_) (fun hc => ?_)
              · replace h := h.1 hc
                clear hc
                exact J111 k9 hk9 k10 hk10 M12 y5 y6 y7 y14 ls H locs h hP hS (lv_sub hl [3, 4, 5, 6, 2, 1, 0] rfl)
              · replace h := h.2 hc
                clear hc
                refine lv_bipush (v := (-4)) hx hb dX0_work_108 rfl ?_
                exact am_iret hx hb hr hK hN hP hS h hlocks dX0_work_110
        · replace h := h.2 hc
          clear hc
          refine lv_bipush (v := (-3)) hx hb dX0_work_70 rfl ?_
          exact am_iret hx hb hr hK hN hP hS h hlocks dX0_work_72
  refine am_enter (A := am_A ad 63) hP (fun H locs hP hS => ?_)
  refine lv_aload_n hx hb dX0_work_0 rfl (lv_at hl 0 rfl) ?_
  refine lv_iload_n hx hb dX0_work_1 rfl (lv_at hl 1 rfl) ?_
  refine am_calli (va_runV (C := RX0) (As := [.int x1]) (rest := []) ⟨hx, hb, hml, hown, hts⟩ (c_X0_isTransaction l dC dI ca ad hI M x1 _ h) ⟨callB_of 1 hts (am_gd mc_X0_isTransaction) rfl rfl rfl (hta _ mn_X0) (hta _ ml_X0_48) dc_X0_isTransaction ⟨Nat.le_of_ble_eq_true rfl, Nat.le_of_ble_eq_true rfl⟩, hta _ mi_X0_isTransaction, hta _ me_X0_isTransaction⟩ (am_preV (q := (RX0, TX0, 4)) hK hN hP rfl (by decide) (am_s_outer ca)) rfl rfl hl.1 rfl (lv_room (Nat.le_of_ble_eq_true rfl)) dX0_work_2 ⟨Nat.zero_le _, Nat.zero_le _⟩) hS (fun y2 M1 H locs hP hS h => ?_)
  refine lv_if_eq (tgt := 27) hx hb dX0_work_5 rfl (fun hc => ?_) (fun hc => ?_)
  · replace h := h.1 hc
    clear hc
    refine lv_bipush (v := (-2)) hx hb dX0_work_27 rfl ?_
    exact am_iret hx hb hr hK hN hP hS h hlocks dX0_work_29
  · replace h := h.2 hc
    clear hc
    refine lv_iload_n hx hb dX0_work_8 rfl (lv_at hl 2 rfl) ?_
    refine am_calli (va_runS (As := [.int x2]) (rest := []) ⟨hx, hb, hml, hown, hts⟩ (c_X0_isNode l dC dI ca ad hI M1 x2 _ h) ⟨callB_of 1 hts (am_gd mc_X0_isNode) rfl rfl rfl (hta _ mn_X0) (hta _ ml_X0_34) dc_X0_isNode ⟨Nat.le_of_ble_eq_true rfl, Nat.le_of_ble_eq_true rfl⟩, hta _ ms_X0_isNode⟩ (am_preS hK hN hP) rfl rfl hl.1 rfl (lv_room (Nat.le_of_ble_eq_true rfl)) dX0_work_9 ⟨Nat.zero_le _, Nat.zero_le _⟩) hS (fun y4 M3 H locs hP hS h => ?_)
    refine lv_if_eq (tgt := 27) hx hb dX0_work_12 rfl (fun hc => ?_) (fun hc => ?_)
    · replace h := h.1 hc
      clear hc
      refine lv_bipush (v := (-2)) hx hb dX0_work_27 rfl ?_
      exact am_iret hx hb hr hK hN hP hS h hlocks dX0_work_29
    · replace h := h.2 hc
      clear hc
      refine lv_iload_n hx hb dX0_work_15 rfl (lv_at hl 3 rfl) ?_
      refine lv_iconst (v := (-1)) hx hb dX0_work_16 rfl ?_
      refine lv_icmp_eq (tgt := 30) hx hb dX0_work_17 rfl (fun hc => ?_) (fun hc => ?_)
      · replace h := h.1 hc
        clear hc
        exact J30 M3 x1 x2 x3 ls H locs h hP hS (lv_sub hl [0, 1, 2, 3] rfl)
      · replace h := h.2 hc
        clear hc
        refine lv_iload_n hx hb dX0_work_20 rfl (lv_at hl 3 rfl) ?_
        refine am_calli (va_runS (As := [.int x3]) (rest := []) ⟨hx, hb, hml, hown, hts⟩ (c_X0_isResource l dC dI ca ad hI M3 x3 _ h) ⟨callB_of 1 hts (am_gd mc_X0_isResource) rfl rfl rfl (hta _ mn_X0) (hta _ ml_X0_51) dc_X0_isResource ⟨Nat.le_of_ble_eq_true rfl, Nat.le_of_ble_eq_true rfl⟩, hta _ ms_X0_isResource⟩ (am_preS hK hN hP) rfl rfl hl.1 rfl (lv_room (Nat.le_of_ble_eq_true rfl)) dX0_work_21 ⟨Nat.zero_le _, Nat.zero_le _⟩) hS (fun y37 M36 H locs hP hS h => ?_)
        refine lv_if_ne (tgt := 30) hx hb dX0_work_24 rfl (fun hc => ?_) (fun hc => ?_)
        · replace h := h.1 hc
          clear hc
          exact J30 M36 x1 x2 x3 ls H locs h hP hS (lv_sub hl [0, 1, 2, 3] rfl)
        · replace h := h.2 hc
          clear hc
          refine lv_bipush (v := (-2)) hx hb dX0_work_27 rfl ?_
          exact am_iret hx hb hr hK hN hP hS h hlocks dX0_work_29
abbrev rmX4_forget : Room := { frames := 0, cells := 0, slots := 0, locals := 0 }
set_option maxHeartbeats 4000000 in
set_option maxRecDepth 100000 in
theorem c_X4_forget (l : Launch) (dC : Nat → ClassId) (dI : Nat → Nat → Nat) (ca : Nat → ClassId) (ad : Nat → Nat) (hI : am_inj ad) (M : am_M) (n : Nat) (hn : n < 10) (Q : am_M → Prop) (h : w_X4_forget M n Q) : Met l yX4_forget wsX4_forget rmX4_forget (va_Pc [.ref (ad (33 + n))] (am_B dC dI ca ad M)) (am_Qv dC dI ca ad Q) 0 0 (am_A ad 63) := by
  refine Met.ofW (cc := cX4_forget) (maxL := 1) (ret := none) (by decide) rfl ?_
  intro p e s m args below meth c s₁ B hml hv
  obtain ⟨rfl, hP, hK, hN⟩ := hv
  have hx := B.exec
  have hb := B.bytes
  have hr := B.returns
  have hts := atoms_spec (ws := wsX4_forget) B.pre
  have hta : ∀ w ∈ am_all, w.before _ s = true := fun w hw => hts w (List.mem_cons_of_mem _ hw)
  have hown : s.vm.findClass RX4 = some m.cls := findClass_of_methodNamed B.named
  have hlocks := B.notSynchronized
  have hl := lv_entry ([.ref (ad (33 + n))]) (n := 1) (Nat.le_of_ble_eq_true rfl)
  rw [lg_entry_eq]
  generalize (lg_sl ([.ref (ad (33 + n))]) ++ List.replicate (1 - (lg_sl ([.ref (ad (33 + n))])).length) Slot.unset).toArray = ls at hl ⊢
  have hl : lv_has ls 1 [(0, .ref (ad (33 + n)))] := hl
  replace h := w_X4_forget_s h
  refine am_enter (A := am_A ad 63) hP (fun H locs hP hS => ?_)
  refine lv_aload_n hx hb dX4_forget_0 rfl (lv_at hl 0 rfl) ?_
  refine lv_iconst (v := (nI 0)) hx hb dX4_forget_1 rfl ?_
  refine pf_X4_21 hx hb hta hown hK hP hI hS (i := (33 + n)) (by omega) (am_s_tx ca hn) h dX4_forget_2 (fun M1 H locs hP hS h => ?_)
  refine lv_aload_n hx hb dX4_forget_5 rfl (lv_at hl 0 rfl) ?_
  refine lv_iconst (v := (nI 0)) hx hb dX4_forget_6 rfl ?_
  refine pf_X4_9 hx hb hta hown hK hP hI hS (i := (33 + n)) (by omega) (am_s_tx ca hn) h dX4_forget_7 (fun M2 H locs hP hS h => ?_)
  refine lv_aload_n hx hb dX4_forget_10 rfl (lv_at hl 0 rfl) ?_
  refine lv_iconst (v := (nI 0)) hx hb dX4_forget_11 rfl ?_
  refine pf_X4_15 hx hb hta hown hK hP hI hS (i := (33 + n)) (by omega) (am_s_tx ca hn) h dX4_forget_12 (fun M3 H locs hP hS h => ?_)
  refine lv_aload_n hx hb dX4_forget_15 rfl (lv_at hl 0 rfl) ?_
  refine lv_iconst (v := (nI 0)) hx hb dX4_forget_16 rfl ?_
  refine pf_X4_18 hx hb hta hown hK hP hI hS (i := (33 + n)) (by omega) (am_s_tx ca hn) h dX4_forget_17 (fun M4 H locs hP hS h => ?_)
  refine lv_aload_n hx hb dX4_forget_20 rfl (lv_at hl 0 rfl) ?_
  refine lv_iconst (v := (nI 0)) hx hb dX4_forget_21 rfl ?_
  refine pf_X4_24 hx hb hta hown hK hP hI hS (i := (33 + n)) (by omega) (am_s_tx ca hn) h dX4_forget_22 (fun M5 H locs hP hS h => ?_)
  exact am_vret hx hb hr hK hN hP hS h hlocks dX4_forget_25
abbrev rmX2_send : Room := { frames := 0, cells := 0, slots := 0, locals := 0 }
set_option maxHeartbeats 4000000 in
set_option maxRecDepth 100000 in
theorem c_X2_send (l : Launch) (dC : Nat → ClassId) (dI : Nat → Nat → Nat) (ca : Nat → ClassId) (ad : Nat → Nat) (hI : am_inj ad) (M : am_M) (x1 : Int32) (x2 : Int32) (x3 : Int32) (x4 : Int32) (Q : am_M → Prop) (h : w_X2_send M x1 x2 x3 x4 Q) : Met l yX2_send wsX2_send rmX2_send (va_Pc [.ref (ad 3), .int x1, .int x2, .int x3, .int x4] (am_B dC dI ca ad M)) (am_Qv dC dI ca ad Q) 0 0 (am_A ad 63) := by
  refine Met.ofW (cc := cX2_send) (maxL := 5) (ret := none) (by decide) rfl ?_
  intro p e s m args below meth c s₁ B hml hv
  obtain ⟨rfl, hP, hK, hN⟩ := hv
  have hx := B.exec
  have hb := B.bytes
  have hr := B.returns
  have hts := atoms_spec (ws := wsX2_send) B.pre
  have hta : ∀ w ∈ am_all, w.before _ s = true := fun w hw => hts w (List.mem_cons_of_mem _ hw)
  have hown : s.vm.findClass RX2 = some m.cls := findClass_of_methodNamed B.named
  have hlocks := B.notSynchronized
  have hl := lv_entry ([.ref (ad 3), .int x1, .int x2, .int x3, .int x4]) (n := 5) (Nat.le_of_ble_eq_true rfl)
  rw [lg_entry_eq]
  generalize (lg_sl ([.ref (ad 3), .int x1, .int x2, .int x3, .int x4]) ++ List.replicate (5 - (lg_sl ([.ref (ad 3), .int x1, .int x2, .int x3, .int x4])).length) Slot.unset).toArray = ls at hl ⊢
  have hl : lv_has ls 5 [(0, .ref (ad 3)), (1, .int x1), (2, .int x2), (3, .int x3), (4, .int x4)] := hl
  replace h := w_X2_send_s h
  refine am_enter (A := am_A ad 63) hP (fun H locs hP hS => ?_)
  refine lv_aload_n hx hb dX2_send_0 rfl (lv_at hl 0 rfl) ?_
  refine gf_X2_16 hx hb hta hown hK hP (am_wo (i := 3) (by decide) (am_s_row ca)) (am_fvi rfl) dX2_send_1 ?_
  refine lv_bipush (v := (nI 40)) hx hb dX2_send_4 rfl ?_
  refine lv_icmp_lt (tgt := 10) hx hb dX2_send_6 rfl (fun hc => ?_) (fun hc => ?_)
  · replace h := h.1 hc
    clear hc
    refine lv_aload_n hx hb dX2_send_10 rfl (lv_at hl 0 rfl) ?_
    refine gf_X2_11 hx hb hta hown hK hP (am_wo (i := 3) (by decide) (am_s_row ca)) (am_fvr (j := 4) rfl) dX2_send_11 ?_
    refine lv_iconst (v := (nI 0)) hx hb dX2_send_14 rfl ?_
    refine am_aald hx hb hK hP (i := 4) (by decide) (am_s_parts ca) (t0 := 4) rfl h dX2_send_15 (fun k1 hk1 h => ?_)
    refine lv_aload_n hx hb dX2_send_16 rfl (lv_at hl 0 rfl) ?_
    refine gf_X2_16 hx hb hta hown hK hP (am_wo (i := 3) (by decide) (am_s_row ca)) (am_fvi rfl) dX2_send_17 ?_
    refine lv_iload_n hx hb dX2_send_20 rfl (lv_at hl 1 rfl) ?_
    refine am_iast hx hb hK hP hI hS (i := (5 + k1)) (by omega) (am_s_part ca hk1) h dX2_send_21 (fun M2 H locs hP hS h => ?_)
    refine lv_aload_n hx hb dX2_send_22 rfl (lv_at hl 0 rfl) ?_
    refine gf_X2_11 hx hb hta hown hK hP (am_wo (i := 3) (by decide) (am_s_row ca)) (am_fvr (j := 4) rfl) dX2_send_23 ?_
    refine lv_iconst (v := (nI 1)) hx hb dX2_send_26 rfl ?_
    refine am_aald hx hb hK hP (i := 4) (by decide) (am_s_parts ca) (t0 := 4) rfl h dX2_send_27 (fun k3 hk3 h => ?_)
    refine lv_aload_n hx hb dX2_send_28 rfl (lv_at hl 0 rfl) ?_
    refine gf_X2_16 hx hb hta hown hK hP (am_wo (i := 3) (by decide) (am_s_row ca)) (am_fvi rfl) dX2_send_29 ?_
    refine lv_iload_n hx hb dX2_send_32 rfl (lv_at hl 2 rfl) ?_
    refine am_iast hx hb hK hP hI hS (i := (5 + k3)) (by omega) (am_s_part ca hk3) h dX2_send_33 (fun M4 H locs hP hS h => ?_)
    refine lv_aload_n hx hb dX2_send_34 rfl (lv_at hl 0 rfl) ?_
    refine gf_X2_11 hx hb hta hown hK hP (am_wo (i := 3) (by decide) (am_s_row ca)) (am_fvr (j := 4) rfl) dX2_send_35 ?_
    refine lv_iconst (v := (nI 2)) hx hb dX2_send_38 rfl ?_
    refine am_aald hx hb hK hP (i := 4) (by decide) (am_s_parts ca) (t0 := 4) rfl h dX2_send_39 (fun k5 hk5 h => ?_)
    refine lv_aload_n hx hb dX2_send_40 rfl (lv_at hl 0 rfl) ?_
    refine gf_X2_16 hx hb hta hown hK hP (am_wo (i := 3) (by decide) (am_s_row ca)) (am_fvi rfl) dX2_send_41 ?_
    refine lv_iload_n hx hb dX2_send_44 rfl (lv_at hl 3 rfl) ?_
    refine am_iast hx hb hK hP hI hS (i := (5 + k5)) (by omega) (am_s_part ca hk5) h dX2_send_45 (fun M6 H locs hP hS h => ?_)
    refine lv_aload_n hx hb dX2_send_46 rfl (lv_at hl 0 rfl) ?_
    refine gf_X2_11 hx hb hta hown hK hP (am_wo (i := 3) (by decide) (am_s_row ca)) (am_fvr (j := 4) rfl) dX2_send_47 ?_
    refine lv_iconst (v := (nI 3)) hx hb dX2_send_50 rfl ?_
    refine am_aald hx hb hK hP (i := 4) (by decide) (am_s_parts ca) (t0 := 4) rfl h dX2_send_51 (fun k7 hk7 h => ?_)
    refine lv_aload_n hx hb dX2_send_52 rfl (lv_at hl 0 rfl) ?_
    refine gf_X2_16 hx hb hta hown hK hP (am_wo (i := 3) (by decide) (am_s_row ca)) (am_fvi rfl) dX2_send_53 ?_
    refine lv_iload hx hb dX2_send_56 (lv_at hl 4 rfl) ?_
    refine am_iast hx hb hK hP hI hS (i := (5 + k7)) (by omega) (am_s_part ca hk7) h dX2_send_58 (fun M8 H locs hP hS h => ?_)
    refine lv_aload_n hx hb dX2_send_59 rfl (lv_at hl 0 rfl) ?_
    refine lv_dup hx hb dX2_send_60 rfl ?_
    refine gf_X2_16 hx hb hta hown hK hP (am_wo (i := 3) (by decide) (am_s_row ca)) (am_fvi rfl) dX2_send_61 ?_
    refine lv_iconst (v := (nI 1)) hx hb dX2_send_64 rfl ?_
    refine lv_iadd hx hb dX2_send_65 ?_
    refine pf_X2_16 hx hb hta hown hK hP hI hS (i := 3) (by decide) (am_s_row ca) h dX2_send_66 (fun M9 H locs hP hS h => ?_)
    exact am_vret hx hb hr hK hN hP hS h hlocks dX2_send_69
  · replace h := h.2 hc
    clear hc
    exact am_vret hx hb hr hK hN hP hS h hlocks dX2_send_9
abbrev rmX2_sendToEach : Room := { frames := 2, cells := 0, slots := 0, locals := 41 }
set_option maxHeartbeats 4000000 in
set_option maxRecDepth 100000 in
theorem c_X2_sendToEach (l : Launch) (dC : Nat → ClassId) (dI : Nat → Nat → Nat) (ca : Nat → ClassId) (ad : Nat → Nat) (hI : am_inj ad) (M : am_M) (x1 : Int32) (x2 : Int32) (x3 : Int32) (x4 : Int32) (Q : am_M → Prop) (h : w_X2_sendToEach M x1 x2 x3 x4 Q) : Met l yX2_sendToEach wsX2_sendToEach rmX2_sendToEach (va_Pc [.ref (ad 3), .int x1, .int x2, .int x3, .int x4] (am_B dC dI ca ad M)) (am_Qv dC dI ca ad Q) 0 0 (am_A ad 63) := by
  refine Met.ofW (cc := cX2_sendToEach) (maxL := 6) (ret := none) (by decide) rfl ?_
  intro p e s m args below meth c s₁ B hml hv
  obtain ⟨rfl, hP, hK, hN⟩ := hv
  have hx := B.exec
  have hb := B.bytes
  have hr := B.returns
  have hts := atoms_spec (ws := wsX2_sendToEach) B.pre
  have hta : ∀ w ∈ am_all, w.before _ s = true := fun w hw => hts w (List.mem_cons_of_mem _ hw)
  have hown : s.vm.findClass RX2 = some m.cls := findClass_of_methodNamed B.named
  have hlocks := B.notSynchronized
  have hl := lv_entry ([.ref (ad 3), .int x1, .int x2, .int x3, .int x4]) (n := 6) (Nat.le_of_ble_eq_true rfl)
  rw [lg_entry_eq]
  generalize (lg_sl ([.ref (ad 3), .int x1, .int x2, .int x3, .int x4]) ++ List.replicate (6 - (lg_sl ([.ref (ad 3), .int x1, .int x2, .int x3, .int x4])).length) Slot.unset).toArray = ls at hl ⊢
  have hl : lv_has ls 6 [(0, .ref (ad 3)), (1, .int x1), (2, .int x2), (3, .int x3), (4, .int x4)] := hl
  replace h := w_X2_sendToEach_s h
  refine am_enter (A := am_A ad 63) hP (fun H locs hP hS => ?_)
  refine lv_iconst (v := (nI 0)) hx hb dX2_sendToEach_0 rfl ?_
  refine am_topi h (fun y1 h => ?_)
  refine lv_istore hx hb dX2_sendToEach_1 hl (by decide) rfl (fun ls hl => ?_)
  have hl : lv_has ls 6 [(5, .int y1), (0, .ref (ad 3)), (1, .int x1), (2, .int x2), (3, .int x3), (4, .int x4)] := hl
  obtain ⟨f3, h⟩ := h
  have key3 : ∀ (K : am_M → Int32 → Prop), (∀ (M3 : am_M) (z2 : Int32) (ls : Array Slot) (H : Heap) (locs : List Loc), K M3 z2 → va_P (dC, dI) vwCl (am_w ad (am_sh ca) 63 M3) H → va_S (am_A ad 63) s.heap H locs → lv_has ls 6 [(5, .int z2), (0, .ref (ad 3)), (1, .int x1), (2, .int x2), (3, .int x3), (4, .int x4)] → am_Wv p l e wsX2_sendToEach rmX2_sendToEach s m ([.ref (ad 3), .int x1, .int x2, .int x3, .int x4] : List Value).toArray below meth c H locs dC dI ca ad Q (F0 m 34 ls [])) → ∀ (f3 : Nat) (M3 : am_M) (z2 : Int32) (ls : Array Slot) (H : Heap) (locs : List Loc), w_X2_sendToEach_L3 x1 x2 x3 x4 Q K f3 M3 z2 → va_P (dC, dI) vwCl (am_w ad (am_sh ca) 63 M3) H → va_S (am_A ad 63) s.heap H locs → lv_has ls 6 [(5, .int z2), (0, .ref (ad 3)), (1, .int x1), (2, .int x2), (3, .int x3), (4, .int x4)] → am_Wv p l e wsX2_sendToEach rmX2_sendToEach s m ([.ref (ad 3), .int x1, .int x2, .int x3, .int x4] : List Value).toArray below meth c H locs dC dI ca ad Q (F0 m 3 ls []) := by
    intro K hex3 f3
    induction f3 with
    | zero => intro _ _ _ _ _ h; exact False.elim h
    | succ f3 ih3 =>
      intro M3 z2 ls H locs h hP hS hl
      replace h := w_X2_sendToEach_L3_s h
      refine lv_iload hx hb dX2_sendToEach_3 (lv_at hl 0 rfl) ?_
      refine lv_iconst (v := (nI 4)) hx hb dX2_sendToEach_5 rfl ?_
      refine lv_icmp_ge (tgt := 34) hx hb dX2_sendToEach_6 rfl (fun hc => ?_) (fun hc => ?_)
      · replace h := h.1 hc
        clear hc
        exact hex3 M3 z2 ls H locs h hP hS (lv_sub hl [0, 1, 2, 3, 4, 5] rfl)
      · replace h := h.2 hc
        clear hc
        refine lv_iload_n hx hb dX2_sendToEach_9 rfl (lv_at hl 4 rfl) ?_
        refine lv_iload hx hb dX2_sendToEach_10 (lv_at hl 0 rfl) ?_
        refine am_calli (va_runSN (As := [.int x3, .int z2]) (rest := []) ⟨hx, hb, hml, hown, hts⟩ (c_X0_isIn l dC dI ca ad hI M3 x3 z2 _ h) ⟨va_cnB 2 hts (am_gd mc_X0_isIn) rfl rfl rfl hN.2.2 (hta _ mn_X0) dc_X0_isIn ⟨Nat.le_of_ble_eq_true rfl, Nat.le_of_ble_eq_true rfl⟩, hta _ ms_X0_isIn, trivial⟩ (am_preS hK hN hP) rfl rfl hl.1 rfl (lv_room (Nat.le_of_ble_eq_true rfl)) dX2_sendToEach_12 ⟨Nat.zero_le _, Nat.zero_le _⟩) hS (fun y5 M4 H locs hP hS h => ?_)
        refine lv_if_eq (tgt := 28) hx hb dX2_sendToEach_15 rfl (fun hc => ?_) (fun hc => ?_)
        · replace h := h.1 hc
          clear hc
          refine am_iinc (k := 0) (d := nI 1) hx hb dX2_sendToEach_28 hl rfl rfl (by decide) h (fun y6 ls h hl => ?_)
          have hl : lv_has ls 6 [(5, .int y6), (0, .ref (ad 3)), (1, .int x1), (2, .int x2), (3, .int x3), (4, .int x4)] := hl
          refine lv_goto (tgt := 3) hx hb dX2_sendToEach_31 rfl ?_
          exact ih3 M4 y6 ls H locs h hP hS (lv_sub hl [0, 1, 2, 3, 4, 5] rfl)
        · replace h := h.2 hc
          clear hc
          refine lv_aload_n hx hb dX2_sendToEach_18 rfl (lv_at hl 1 rfl) ?_
          refine lv_iload_n hx hb dX2_sendToEach_19 rfl (lv_at hl 2 rfl) ?_
          refine lv_iload_n hx hb dX2_sendToEach_20 rfl (lv_at hl 3 rfl) ?_
          refine lv_iload hx hb dX2_sendToEach_21 (lv_at hl 0 rfl) ?_
          refine lv_iload hx hb dX2_sendToEach_23 (lv_at hl 5 rfl) ?_
          refine am_callv (va_runV (C := RX2) (As := [.int x1, .int x2, .int z2, .int x4]) (rest := []) ⟨hx, hb, hml, hown, hts⟩ (c_X2_send l dC dI ca ad hI M4 x1 x2 z2 x4 _ h) ⟨callB_of 4 hts (am_gd mc_X2_send) rfl rfl rfl (hta _ mn_X2) (hta _ ml_X2_24) dc_X2_send ⟨Nat.le_of_ble_eq_true rfl, Nat.le_of_ble_eq_true rfl⟩, hta _ mi_X2_send, hta _ me_X2_send⟩ (am_preV (q := (RX2, TX2, 2)) hK hN hP rfl (by decide) (am_s_row ca)) rfl rfl hl.1 rfl (lv_room (Nat.le_of_ble_eq_true rfl)) dX2_sendToEach_25 ⟨Nat.zero_le _, Nat.zero_le _⟩) hS (fun M7 H locs hP hS h => ?_)
          refine am_iinc (k := 0) (d := nI 1) hx hb dX2_sendToEach_28 hl rfl rfl (by decide) h (fun y8 ls h hl => ?_)
          have hl : lv_has ls 6 [(5, .int y8), (0, .ref (ad 3)), (1, .int x1), (2, .int x2), (3, .int x3), (4, .int x4)] := hl
          refine lv_goto (tgt := 3) hx hb dX2_sendToEach_31 rfl ?_
          exact ih3 M7 y8 ls H locs h hP hS (lv_sub hl [0, 1, 2, 3, 4, 5] rfl)
  refine key3 _ ?_ f3 M y1 ls H locs h hP hS hl
  intro M9 z10 ls H locs h hP hS hl
  exact am_vret hx hb hr hK hN hP hS h hlocks dX2_sendToEach_34
abbrev rmJ6_bitCount : Room := { frames := 0, cells := 0, slots := 0, locals := 0 }
set_option maxHeartbeats 4000000 in
set_option maxRecDepth 100000 in
theorem c_J6_bitCount (l : Launch) (dC : Nat → ClassId) (dI : Nat → Nat → Nat) (ca : Nat → ClassId) (ad : Nat → Nat) (hI : am_inj ad) (M : am_M) (x1 : Int32) (Q : Int32 → am_M → Prop) (h : w_J6_bitCount M x1 Q) : Met l yJ6_bitCount wsJ6_bitCount rmJ6_bitCount (va_Pc [.int x1] (am_B dC dI ca ad M)) (am_Qi dC dI ca ad Q) 0 0 (am_A ad 63) := by
  refine Met.ofW (cc := cJ6_bitCount) (maxL := 1) (ret := (some .int)) (by decide) rfl ?_
  intro p e s m args below meth c s₁ B hml hv
  obtain ⟨rfl, hP, hK, hN⟩ := hv
  have hx := B.exec
  have hb := B.bytes
  have hr := B.returns
  have hts := atoms_spec (ws := wsJ6_bitCount) B.pre
  have hta : ∀ w ∈ am_all, w.before _ s = true := fun w hw => hts w (List.mem_cons_of_mem _ hw)
  have hown : s.vm.findClass RJ6 = some m.cls := findClass_of_methodNamed B.named
  have hlocks := B.notSynchronized
  have hl := lv_entry ([.int x1]) (n := 1) (Nat.le_of_ble_eq_true rfl)
  rw [lg_entry_eq]
  generalize (lg_sl ([.int x1]) ++ List.replicate (1 - (lg_sl ([.int x1])).length) Slot.unset).toArray = ls at hl ⊢
  have hl : lv_has ls 1 [(0, .int x1)] := hl
  replace h := w_J6_bitCount_s h
  refine am_enter (A := am_A ad 63) hP (fun H locs hP hS => ?_)
  refine lv_iload_n hx hb dJ6_bitCount_0 rfl (lv_at hl 0 rfl) ?_
  refine lv_iload_n hx hb dJ6_bitCount_1 rfl (lv_at hl 0 rfl) ?_
  refine lv_iconst (v := (nI 1)) hx hb dJ6_bitCount_2 rfl ?_
  refine lv_iushr hx hb dJ6_bitCount_3 rfl ?_
  refine lv_ldcw (v := 1431655765) hx hb hown (hta _ mk_J6_265) dJ6_bitCount_4 ?_
  refine lv_iand hx hb dJ6_bitCount_7 ?_
  refine lv_isub hx hb dJ6_bitCount_8 ?_
  refine am_topi h (fun y1 h => ?_)
  refine lv_istore_n hx hb dJ6_bitCount_9 rfl hl (by decide) rfl (fun ls hl => ?_)
  have hl : lv_has ls 1 [(0, .int y1)] := hl
  refine lv_iload_n hx hb dJ6_bitCount_10 rfl (lv_at hl 0 rfl) ?_
  refine lv_ldcw (v := 858993459) hx hb hown (hta _ mk_J6_266) dJ6_bitCount_11 ?_
  refine lv_iand hx hb dJ6_bitCount_14 ?_
  refine lv_iload_n hx hb dJ6_bitCount_15 rfl (lv_at hl 0 rfl) ?_
  refine lv_iconst (v := (nI 2)) hx hb dJ6_bitCount_16 rfl ?_
  refine lv_iushr hx hb dJ6_bitCount_17 rfl ?_
  refine lv_ldcw (v := 858993459) hx hb hown (hta _ mk_J6_266) dJ6_bitCount_18 ?_
  refine lv_iand hx hb dJ6_bitCount_21 ?_
  refine lv_iadd hx hb dJ6_bitCount_22 ?_
  refine am_topi h (fun y2 h => ?_)
  refine lv_istore_n hx hb dJ6_bitCount_23 rfl hl (by decide) rfl (fun ls hl => ?_)
  have hl : lv_has ls 1 [(0, .int y2)] := hl
  refine lv_iload_n hx hb dJ6_bitCount_24 rfl (lv_at hl 0 rfl) ?_
  refine lv_iload_n hx hb dJ6_bitCount_25 rfl (lv_at hl 0 rfl) ?_
  refine lv_iconst (v := (nI 4)) hx hb dJ6_bitCount_26 rfl ?_
  refine lv_iushr hx hb dJ6_bitCount_27 rfl ?_
  refine lv_iadd hx hb dJ6_bitCount_28 ?_
  refine lv_ldcw (v := 252645135) hx hb hown (hta _ mk_J6_267) dJ6_bitCount_29 ?_
  refine lv_iand hx hb dJ6_bitCount_32 ?_
  refine am_topi h (fun y3 h => ?_)
  refine lv_istore_n hx hb dJ6_bitCount_33 rfl hl (by decide) rfl (fun ls hl => ?_)
  have hl : lv_has ls 1 [(0, .int y3)] := hl
  refine lv_iload_n hx hb dJ6_bitCount_34 rfl (lv_at hl 0 rfl) ?_
  refine lv_iload_n hx hb dJ6_bitCount_35 rfl (lv_at hl 0 rfl) ?_
  refine lv_bipush (v := (nI 8)) hx hb dJ6_bitCount_36 rfl ?_
  refine lv_iushr hx hb dJ6_bitCount_38 rfl ?_
  refine lv_iadd hx hb dJ6_bitCount_39 ?_
  refine am_topi h (fun y4 h => ?_)
  refine lv_istore_n hx hb dJ6_bitCount_40 rfl hl (by decide) rfl (fun ls hl => ?_)
  have hl : lv_has ls 1 [(0, .int y4)] := hl
  refine lv_iload_n hx hb dJ6_bitCount_41 rfl (lv_at hl 0 rfl) ?_
  refine lv_iload_n hx hb dJ6_bitCount_42 rfl (lv_at hl 0 rfl) ?_
  refine lv_bipush (v := (nI 16)) hx hb dJ6_bitCount_43 rfl ?_
  refine lv_iushr hx hb dJ6_bitCount_45 rfl ?_
  refine lv_iadd hx hb dJ6_bitCount_46 ?_
  refine am_topi h (fun y5 h => ?_)
  refine lv_istore_n hx hb dJ6_bitCount_47 rfl hl (by decide) rfl (fun ls hl => ?_)
  have hl : lv_has ls 1 [(0, .int y5)] := hl
  refine lv_iload_n hx hb dJ6_bitCount_48 rfl (lv_at hl 0 rfl) ?_
  refine lv_bipush (v := (nI 63)) hx hb dJ6_bitCount_49 rfl ?_
  refine lv_iand hx hb dJ6_bitCount_51 ?_
  exact am_iret hx hb hr hK hN hP hS h hlocks dJ6_bitCount_52
abbrev rmX0_commit : Room := { frames := 3, cells := 0, slots := 0, locals := 66 }
set_option maxHeartbeats 4000000 in
set_option maxRecDepth 100000 in
theorem c_X0_commit (l : Launch) (dC : Nat → ClassId) (dI : Nat → Nat → Nat) (ca : Nat → ClassId) (ad : Nat → Nat) (hI : am_inj ad) (M : am_M) (x1 : Int32) (Q : Int32 → am_M → Prop) (h : w_X0_commit M x1 Q) : Met l yX0_commit wsX0_commit rmX0_commit (va_Pc [.ref (ad 0), .int x1] (am_B dC dI ca ad M)) (am_Qi dC dI ca ad Q) 0 0 (am_A ad 63) := by
  refine Met.ofW (cc := cX0_commit) (maxL := 3) (ret := (some .int)) (by decide) rfl ?_
  intro p e s m args below meth c s₁ B hml hv
  obtain ⟨rfl, hP, hK, hN⟩ := hv
  have hx := B.exec
  have hb := B.bytes
  have hr := B.returns
  have hts := atoms_spec (ws := wsX0_commit) B.pre
  have hta : ∀ w ∈ am_all, w.before _ s = true := fun w hw => hts w (List.mem_cons_of_mem _ hw)
  have hown : s.vm.findClass RX0 = some m.cls := findClass_of_methodNamed B.named
  have hlocks := B.notSynchronized
  have hl := lv_entry ([.ref (ad 0), .int x1]) (n := 3) (Nat.le_of_ble_eq_true rfl)
  rw [lg_entry_eq]
  generalize (lg_sl ([.ref (ad 0), .int x1]) ++ List.replicate (3 - (lg_sl ([.ref (ad 0), .int x1])).length) Slot.unset).toArray = ls at hl ⊢
  have hl : lv_has ls 3 [(0, .ref (ad 0)), (1, .int x1)] := hl
  replace h := w_X0_commit_s h
  refine am_enter (A := am_A ad 63) hP (fun H locs hP hS => ?_)
  refine lv_aload_n hx hb dX0_commit_0 rfl (lv_at hl 0 rfl) ?_
  refine lv_iload_n hx hb dX0_commit_1 rfl (lv_at hl 1 rfl) ?_
  refine am_calli (va_runV (C := RX0) (As := [.int x1]) (rest := []) ⟨hx, hb, hml, hown, hts⟩ (c_X0_isTransaction l dC dI ca ad hI M x1 _ h) ⟨callB_of 1 hts (am_gd mc_X0_isTransaction) rfl rfl rfl (hta _ mn_X0) (hta _ ml_X0_48) dc_X0_isTransaction ⟨Nat.le_of_ble_eq_true rfl, Nat.le_of_ble_eq_true rfl⟩, hta _ mi_X0_isTransaction, hta _ me_X0_isTransaction⟩ (am_preV (q := (RX0, TX0, 4)) hK hN hP rfl (by decide) (am_s_outer ca)) rfl rfl hl.1 rfl (lv_room (Nat.le_of_ble_eq_true rfl)) dX0_commit_2 ⟨Nat.zero_le _, Nat.zero_le _⟩) hS (fun y2 M1 H locs hP hS h => ?_)
  refine lv_if_ne (tgt := 11) hx hb dX0_commit_5 rfl (fun hc => ?_) (fun hc => ?_)
  · replace h := h.1 hc
    clear hc
    refine lv_aload_n hx hb dX0_commit_11 rfl (lv_at hl 0 rfl) ?_
    refine gf_X0_18 hx hb hta hown hK hP (am_wo (i := 0) (by decide) (am_s_outer ca)) (am_fvr (j := 2) rfl) dX0_commit_12 ?_
    refine lv_iload_n hx hb dX0_commit_15 rfl (lv_at hl 1 rfl) ?_
    refine am_aald hx hb hK hP (i := 2) (by decide) (am_s_trans ca) (t0 := 3) rfl h dX0_commit_16 (fun k3 hk3 h => ?_)
    refine lv_astore_n hx hb dX0_commit_17 rfl hl (by decide) rfl (fun ls hl => ?_)
    have hl : lv_has ls 3 [(2, .ref (ad (33 + k3))), (0, .ref (ad 0)), (1, .int x1)] := hl
    refine lv_aload_n hx hb dX0_commit_18 rfl (lv_at hl 1 rfl) ?_
    refine gf_X0_11 hx hb hta hown hK hP (am_wo (i := 0) (by decide) (am_s_outer ca)) (am_fvr (j := 1) rfl) dX0_commit_19 ?_
    refine lv_aload_n hx hb dX0_commit_22 rfl (lv_at hl 0 rfl) ?_
    refine gf_X0_42 hx hb hta hown hK hP (am_wo (i := (33 + k3)) (by omega) (am_s_tx ca hk3)) (am_fvi rfl) dX0_commit_23 ?_
    refine am_aald hx hb hK hP (i := 1) (by decide) (am_s_nodes ca) (t0 := 2) rfl h dX0_commit_26 (fun k4 hk4 h => ?_)
    refine gf_X0_38 hx hb hta hown hK hP (am_wo (i := (9 + 6 * k4)) (by omega) (am_s_node ca hk4)) (am_fvi rfl) dX0_commit_27 ?_
    refine lv_if_ne (tgt := 36) hx hb dX0_commit_30 rfl (fun hc => ?_) (fun hc => ?_)
    · replace h := h.1 hc
      clear hc
      refine lv_aload_n hx hb dX0_commit_36 rfl (lv_at hl 0 rfl) ?_
      refine gf_X0_45 hx hb hta hown hK hP (am_wo (i := (33 + k3)) (by omega) (am_s_tx ca hk3)) (am_fvi rfl) dX0_commit_37 ?_
      refine lv_iconst (v := (nI 1)) hx hb dX0_commit_40 rfl ?_
      refine lv_icmp_eq (tgt := 47) hx hb dX0_commit_41 rfl (fun hc => ?_) (fun hc => ?_)
      · replace h := h.1 hc
        clear hc
        refine lv_aload_n hx hb dX0_commit_47 rfl (lv_at hl 0 rfl) ?_
        refine gf_X0_54 hx hb hta hown hK hP (am_wo (i := (33 + k3)) (by omega) (am_s_tx ca hk3)) (am_fvi rfl) dX0_commit_48 ?_
        refine lv_if_ne (tgt := 60) hx hb dX0_commit_51 rfl (fun hc => ?_) (fun hc => ?_)
        · replace h := h.1 hc
          clear hc
          refine lv_aload_n hx hb dX0_commit_60 rfl (lv_at hl 0 rfl) ?_
          refine lv_iconst (v := (nI 2)) hx hb dX0_commit_61 rfl ?_
          refine pf_X0_45 hx hb hta hown hK hP hI hS (i := (33 + k3)) (by omega) (am_s_tx ca hk3) h dX0_commit_62 (fun M5 H locs hP hS h => ?_)
          refine lv_aload_n hx hb dX0_commit_65 rfl (lv_at hl 1 rfl) ?_
          refine gf_X0_26 hx hb hta hown hK hP (am_wo (i := 0) (by decide) (am_s_outer ca)) (am_fvr (j := 3) rfl) dX0_commit_66 ?_
          refine lv_iconst (v := (nI 1)) hx hb dX0_commit_69 rfl ?_
          refine lv_aload_n hx hb dX0_commit_70 rfl (lv_at hl 0 rfl) ?_
          refine gf_X0_42 hx hb hta hown hK hP (am_wo (i := (33 + k3)) (by omega) (am_s_tx ca hk3)) (am_fvi rfl) dX0_commit_71 ?_
          refine lv_aload_n hx hb dX0_commit_74 rfl (lv_at hl 0 rfl) ?_
          refine gf_X0_54 hx hb hta hown hK hP (am_wo (i := (33 + k3)) (by omega) (am_s_tx ca hk3)) (am_fvi rfl) dX0_commit_75 ?_
          refine lv_iload_n hx hb dX0_commit_78 rfl (lv_at hl 2 rfl) ?_
          refine am_callv (va_runV (C := RX2) (As := [.int (nI 1), .int (nI (M5.1 9 k3 0)), .int (nI (M5.1 9 k3 2)), .int x1]) (rest := []) ⟨hx, hb, hml, hown, hts⟩ (c_X2_sendToEach l dC dI ca ad hI M5 (nI 1) (nI (M5.1 9 k3 0)) (nI (M5.1 9 k3 2)) x1 _ h) ⟨callB_of 4 hts (am_gd mc_X2_sendToEach) rfl rfl rfl (hta _ mn_X2) (hta _ ml_X0_75) dc_X2_sendToEach ⟨Nat.le_of_ble_eq_true rfl, Nat.le_of_ble_eq_true rfl⟩, hta _ mi_X2_sendToEach, hta _ me_X2_sendToEach⟩ (am_preV (q := (RX2, TX2, 2)) hK hN hP rfl (by decide) (am_s_row ca)) rfl rfl hl.1 rfl (lv_room (Nat.le_of_ble_eq_true rfl)) dX0_commit_79 ⟨Nat.zero_le _, Nat.zero_le _⟩) hS (fun M6 H locs hP hS h => ?_)
          refine lv_aload_n hx hb dX0_commit_82 rfl (lv_at hl 0 rfl) ?_
          refine gf_X0_54 hx hb hta hown hK hP (am_wo (i := (33 + k3)) (by omega) (am_s_tx ca hk3)) (am_fvi rfl) dX0_commit_83 ?_
          refine am_calli (va_runS (As := [.int (nI (M6.1 9 k3 2))]) (rest := []) ⟨hx, hb, hml, hown, hts⟩ (c_J6_bitCount l dC dI ca ad hI M6 (nI (M6.1 9 k3 2)) _ h) ⟨callB_of 1 hts (am_gd mc_J6_bitCount) rfl rfl rfl (hta _ mn_J6) (hta _ ml_X0_79) dc_J6_bitCount ⟨Nat.le_of_ble_eq_true rfl, Nat.le_of_ble_eq_true rfl⟩, hta _ ms_J6_bitCount⟩ (am_preS hK hN hP) rfl rfl hl.1 rfl (lv_room (Nat.le_of_ble_eq_true rfl)) dX0_commit_86 ⟨Nat.zero_le _, Nat.zero_le _⟩) hS (fun y8 M7 H locs hP hS h => ?_)
          exact am_iret hx hb hr hK hN hP hS h hlocks dX0_commit_89
        · replace h := h.2 hc
          clear hc
          refine lv_aload_n hx hb dX0_commit_54 rfl (lv_at hl 0 rfl) ?_
          refine am_callv (va_runV (C := RX4) (As := []) (rest := []) ⟨hx, hb, hml, hown, hts⟩ (c_X4_forget l dC dI ca ad hI M1 k3 hk3 _ h) ⟨callB_of 0 hts (am_gd mc_X4_forget) rfl rfl rfl (hta _ mn_X4) (hta _ ml_X0_72) dc_X4_forget ⟨Nat.le_of_ble_eq_true rfl, Nat.le_of_ble_eq_true rfl⟩, hta _ mi_X4_forget, hta _ me_X4_forget⟩ (am_preV (q := (RX4, TX4, 6)) hK hN hP rfl (by omega) (am_s_tx ca hk3)) rfl rfl hl.1 rfl (lv_room (Nat.le_of_ble_eq_true rfl)) dX0_commit_55 ⟨Nat.zero_le _, Nat.zero_le _⟩) hS (fun M9 H locs hP hS h => ?_)
          refine lv_iconst (v := (nI 0)) hx hb dX0_commit_58 rfl ?_
          exact am_iret hx hb hr hK hN hP hS h hlocks dX0_commit_59
      · replace h := h.2 hc
        clear hc
        refine lv_bipush (v := (-4)) hx hb dX0_commit_44 rfl ?_
        exact am_iret hx hb hr hK hN hP hS h hlocks dX0_commit_46
    · replace h := h.2 hc
      clear hc
      refine lv_bipush (v := (-3)) hx hb dX0_commit_33 rfl ?_
      exact am_iret hx hb hr hK hN hP hS h hlocks dX0_commit_35
  · replace h := h.2 hc
    clear hc
    refine lv_bipush (v := (-2)) hx hb dX0_commit_8 rfl ?_
    exact am_iret hx hb hr hK hN hP hS h hlocks dX0_commit_10
abbrev rmX1_labelOf : Room := { frames := 0, cells := 0, slots := 0, locals := 0 }
set_option maxHeartbeats 4000000 in
set_option maxRecDepth 100000 in
theorem c_X1_labelOf (l : Launch) (dC : Nat → ClassId) (dI : Nat → Nat → Nat) (ca : Nat → ClassId) (ad : Nat → Nat) (hI : am_inj ad) (M : am_M) (x1 : Int32) (x2 : Int32) (Q : Int32 → am_M → Prop) (h : w_X1_labelOf M x1 x2 Q) : Met l yX1_labelOf wsX1_labelOf rmX1_labelOf (va_Pc [.int x1, .int x2] (am_B dC dI ca ad M)) (am_Qi dC dI ca ad Q) 0 0 (am_A ad 63) := by
  refine Met.ofW (cc := cX1_labelOf) (maxL := 2) (ret := (some .int)) (by decide) rfl ?_
  intro p e s m args below meth c s₁ B hml hv
  obtain ⟨rfl, hP, hK, hN⟩ := hv
  have hx := B.exec
  have hb := B.bytes
  have hr := B.returns
  have hts := atoms_spec (ws := wsX1_labelOf) B.pre
  have hta : ∀ w ∈ am_all, w.before _ s = true := fun w hw => hts w (List.mem_cons_of_mem _ hw)
  have hown : s.vm.findClass RX1 = some m.cls := findClass_of_methodNamed B.named
  have hlocks := B.notSynchronized
  have hl := lv_entry ([.int x1, .int x2]) (n := 2) (Nat.le_of_ble_eq_true rfl)
  rw [lg_entry_eq]
  generalize (lg_sl ([.int x1, .int x2]) ++ List.replicate (2 - (lg_sl ([.int x1, .int x2])).length) Slot.unset).toArray = ls at hl ⊢
  have hl : lv_has ls 2 [(0, .int x1), (1, .int x2)] := hl
  replace h := w_X1_labelOf_s h
  refine am_enter (A := am_A ad 63) hP (fun H locs hP hS => ?_)
  refine lv_bipush (v := (nI 10)) hx hb dX1_labelOf_0 rfl ?_
  refine lv_iload_n hx hb dX1_labelOf_2 rfl (lv_at hl 0 rfl) ?_
  refine lv_imul hx hb dX1_labelOf_3 ?_
  refine lv_iload_n hx hb dX1_labelOf_4 rfl (lv_at hl 1 rfl) ?_
  refine lv_iadd hx hb dX1_labelOf_5 ?_
  exact am_iret hx hb hr hK hN hP hS h hlocks dX1_labelOf_6
abbrev rmX1_write : Room := { frames := 1, cells := 0, slots := 0, locals := 21 }
set_option maxHeartbeats 4000000 in
set_option maxRecDepth 100000 in
theorem c_X1_write (l : Launch) (dC : Nat → ClassId) (dI : Nat → Nat → Nat) (ca : Nat → ClassId) (ad : Nat → Nat) (hI : am_inj ad) (M : am_M) (n : Nat) (hn : n < 4) (x1 : Int32) (x2 : Int32) (x3 : Int32) (Q : am_M → Prop) (h : w_X1_write M n x1 x2 x3 Q) : Met l yX1_write wsX1_write rmX1_write (va_Pc [.ref (ad (12 + 6 * n)), .int x1, .int x2, .int x3] (am_B dC dI ca ad M)) (am_Qv dC dI ca ad Q) 0 0 (am_A ad 63) := by
  refine Met.ofW (cc := cX1_write) (maxL := 4) (ret := none) (by decide) rfl ?_
  intro p e s m args below meth c s₁ B hml hv
  obtain ⟨rfl, hP, hK, hN⟩ := hv
  have hx := B.exec
  have hb := B.bytes
  have hr := B.returns
  have hts := atoms_spec (ws := wsX1_write) B.pre
  have hta : ∀ w ∈ am_all, w.before _ s = true := fun w hw => hts w (List.mem_cons_of_mem _ hw)
  have hown : s.vm.findClass RX1 = some m.cls := findClass_of_methodNamed B.named
  have hlocks := B.notSynchronized
  have hl := lv_entry ([.ref (ad (12 + 6 * n)), .int x1, .int x2, .int x3]) (n := 4) (Nat.le_of_ble_eq_true rfl)
  rw [lg_entry_eq]
  generalize (lg_sl ([.ref (ad (12 + 6 * n)), .int x1, .int x2, .int x3]) ++ List.replicate (4 - (lg_sl ([.ref (ad (12 + 6 * n)), .int x1, .int x2, .int x3])).length) Slot.unset).toArray = ls at hl ⊢
  have hl : lv_has ls 4 [(0, .ref (ad (12 + 6 * n))), (1, .int x1), (2, .int x2), (3, .int x3)] := hl
  replace h := w_X1_write_s h
  refine am_enter (A := am_A ad 63) hP (fun H locs hP hS => ?_)
  refine lv_aload_n hx hb dX1_write_0 rfl (lv_at hl 0 rfl) ?_
  refine gf_X1_18 hx hb hta hown hK hP (am_wo (i := (12 + 6 * n)) (by omega) (am_s_log ca hn)) (am_fvi rfl) dX1_write_1 ?_
  refine lv_bipush (v := (nI 60)) hx hb dX1_write_4 rfl ?_
  refine lv_icmp_lt (tgt := 10) hx hb dX1_write_6 rfl (fun hc => ?_) (fun hc => ?_)
  · replace h := h.1 hc
    clear hc
    refine lv_aload_n hx hb dX1_write_10 rfl (lv_at hl 0 rfl) ?_
    refine gf_X1_9 hx hb hta hown hK hP (am_wo (i := (12 + 6 * n)) (by omega) (am_s_log ca hn)) (am_fvr (j := (13 + 6 * n)) rfl) dX1_write_11 ?_
    refine lv_aload_n hx hb dX1_write_14 rfl (lv_at hl 0 rfl) ?_
    refine gf_X1_18 hx hb hta hown hK hP (am_wo (i := (12 + 6 * n)) (by omega) (am_s_log ca hn)) (am_fvi rfl) dX1_write_15 ?_
    refine lv_iload_n hx hb dX1_write_18 rfl (lv_at hl 1 rfl) ?_
    refine lv_iload_n hx hb dX1_write_19 rfl (lv_at hl 2 rfl) ?_
    refine am_calli (va_runS (As := [.int x1, .int x2]) (rest := [.int (nI (M.1 6 n 2)), .ref (ad (13 + 6 * n))]) ⟨hx, hb, hml, hown, hts⟩ (c_X1_labelOf l dC dI ca ad hI M x1 x2 _ h) ⟨callB_of 2 hts (am_gd mc_X1_labelOf) rfl rfl rfl (hta _ mn_X1) (hta _ ml_X1_22) dc_X1_labelOf ⟨Nat.le_of_ble_eq_true rfl, Nat.le_of_ble_eq_true rfl⟩, hta _ ms_X1_labelOf⟩ (am_preS hK hN hP) rfl rfl hl.1 rfl (lv_room (Nat.le_of_ble_eq_true rfl)) dX1_write_20 ⟨Nat.zero_le _, Nat.zero_le _⟩) hS (fun y2 M1 H locs hP hS h => ?_)
    refine am_iast hx hb hK hP hI hS (i := (13 + 6 * n)) (by omega) (am_s_labels ca hn) h dX1_write_23 (fun M3 H locs hP hS h => ?_)
    refine lv_aload_n hx hb dX1_write_24 rfl (lv_at hl 0 rfl) ?_
    refine gf_X1_15 hx hb hta hown hK hP (am_wo (i := (12 + 6 * n)) (by omega) (am_s_log ca hn)) (am_fvr (j := (14 + 6 * n)) rfl) dX1_write_25 ?_
    refine lv_aload_n hx hb dX1_write_28 rfl (lv_at hl 0 rfl) ?_
    refine gf_X1_18 hx hb hta hown hK hP (am_wo (i := (12 + 6 * n)) (by omega) (am_s_log ca hn)) (am_fvi rfl) dX1_write_29 ?_
    refine lv_iload_n hx hb dX1_write_32 rfl (lv_at hl 3 rfl) ?_
    refine am_iast hx hb hK hP hI hS (i := (14 + 6 * n)) (by omega) (am_s_contents ca hn) h dX1_write_33 (fun M4 H locs hP hS h => ?_)
    refine lv_aload_n hx hb dX1_write_34 rfl (lv_at hl 0 rfl) ?_
    refine lv_dup hx hb dX1_write_35 rfl ?_
    refine gf_X1_18 hx hb hta hown hK hP (am_wo (i := (12 + 6 * n)) (by omega) (am_s_log ca hn)) (am_fvi rfl) dX1_write_36 ?_
    refine lv_iconst (v := (nI 1)) hx hb dX1_write_39 rfl ?_
    refine lv_iadd hx hb dX1_write_40 ?_
    refine pf_X1_18 hx hb hta hown hK hP hI hS (i := (12 + 6 * n)) (by omega) (am_s_log ca hn) h dX1_write_41 (fun M5 H locs hP hS h => ?_)
    exact am_vret hx hb hr hK hN hP hS h hlocks dX1_write_44
  · replace h := h.2 hc
    clear hc
    exact am_vret hx hb hr hK hN hP hS h hlocks dX1_write_9
abbrev rmX0_giveUp : Room := { frames := 3, cells := 0, slots := 0, locals := 66 }
set_option maxHeartbeats 4000000 in
set_option maxRecDepth 100000 in
theorem c_X0_giveUp (l : Launch) (dC : Nat → ClassId) (dI : Nat → Nat → Nat) (ca : Nat → ClassId) (ad : Nat → Nat) (hI : am_inj ad) (M : am_M) (x1 : Int32) (x2 : Int32) (Q : Int32 → am_M → Prop) (h : w_X0_giveUp M x1 x2 Q) : Met l yX0_giveUp wsX0_giveUp rmX0_giveUp (va_Pc [.ref (ad 0), .int x1, .int x2] (am_B dC dI ca ad M)) (am_Qi dC dI ca ad Q) 0 0 (am_A ad 63) := by
  refine Met.ofW (cc := cX0_giveUp) (maxL := 5) (ret := (some .int)) (by decide) rfl ?_
  intro p e s m args below meth c s₁ B hml hv
  obtain ⟨rfl, hP, hK, hN⟩ := hv
  have hx := B.exec
  have hb := B.bytes
  have hr := B.returns
  have hts := atoms_spec (ws := wsX0_giveUp) B.pre
  have hta : ∀ w ∈ am_all, w.before _ s = true := fun w hw => hts w (List.mem_cons_of_mem _ hw)
  have hown : s.vm.findClass RX0 = some m.cls := findClass_of_methodNamed B.named
  have hlocks := B.notSynchronized
  have hl := lv_entry ([.ref (ad 0), .int x1, .int x2]) (n := 5) (Nat.le_of_ble_eq_true rfl)
  rw [lg_entry_eq]
  generalize (lg_sl ([.ref (ad 0), .int x1, .int x2]) ++ List.replicate (5 - (lg_sl ([.ref (ad 0), .int x1, .int x2])).length) Slot.unset).toArray = ls at hl ⊢
  have hl : lv_has ls 5 [(0, .ref (ad 0)), (1, .int x1), (2, .int x2)] := hl
  replace h := w_X0_giveUp_s h
  refine am_enter (A := am_A ad 63) hP (fun H locs hP hS => ?_)
  refine lv_aload_n hx hb dX0_giveUp_0 rfl (lv_at hl 0 rfl) ?_
  refine gf_X0_18 hx hb hta hown hK hP (am_wo (i := 0) (by decide) (am_s_outer ca)) (am_fvr (j := 2) rfl) dX0_giveUp_1 ?_
  refine lv_iload_n hx hb dX0_giveUp_4 rfl (lv_at hl 1 rfl) ?_
  refine am_aald hx hb hK hP (i := 2) (by decide) (am_s_trans ca) (t0 := 3) rfl h dX0_giveUp_5 (fun k1 hk1 h => ?_)
  refine lv_astore_n hx hb dX0_giveUp_6 rfl hl (by decide) rfl (fun ls hl => ?_)
  have hl : lv_has ls 5 [(3, .ref (ad (33 + k1))), (0, .ref (ad 0)), (1, .int x1), (2, .int x2)] := hl
  refine lv_aload_n hx hb dX0_giveUp_7 rfl (lv_at hl 0 rfl) ?_
  refine gf_X0_54 hx hb hta hown hK hP (am_wo (i := (33 + k1)) (by omega) (am_s_tx ca hk1)) (am_fvi rfl) dX0_giveUp_8 ?_
  refine lv_aload_n hx hb dX0_giveUp_11 rfl (lv_at hl 0 rfl) ?_
  refine gf_X0_130 hx hb hta hown hK hP (am_wo (i := (33 + k1)) (by omega) (am_s_tx ca hk1)) (am_fvi rfl) dX0_giveUp_12 ?_
  refine lv_iconst (v := (-1)) hx hb dX0_giveUp_15 rfl ?_
  refine lv_ixor hx hb dX0_giveUp_16 ?_
  refine lv_iand hx hb dX0_giveUp_17 ?_
  refine lv_iload_n hx hb dX0_giveUp_18 rfl (lv_at hl 3 rfl) ?_
  refine lv_iconst (v := (-1)) hx hb dX0_giveUp_19 rfl ?_
  refine lv_ixor hx hb dX0_giveUp_20 ?_
  refine lv_iand hx hb dX0_giveUp_21 ?_
  refine am_topi h (fun y2 h => ?_)
  refine lv_istore hx hb dX0_giveUp_22 hl (by decide) rfl (fun ls hl => ?_)
  have hl : lv_has ls 5 [(4, .int y2), (3, .ref (ad (33 + k1))), (0, .ref (ad 0)), (1, .int x1), (2, .int x2)] := hl
  refine lv_aload_n hx hb dX0_giveUp_24 rfl (lv_at hl 2 rfl) ?_
  refine gf_X0_11 hx hb hta hown hK hP (am_wo (i := 0) (by decide) (am_s_outer ca)) (am_fvr (j := 1) rfl) dX0_giveUp_25 ?_
  refine lv_aload_n hx hb dX0_giveUp_28 rfl (lv_at hl 1 rfl) ?_
  refine gf_X0_42 hx hb hta hown hK hP (am_wo (i := (33 + k1)) (by omega) (am_s_tx ca hk1)) (am_fvi rfl) dX0_giveUp_29 ?_
  refine am_aald hx hb hK hP (i := 1) (by decide) (am_s_nodes ca) (t0 := 2) rfl h dX0_giveUp_32 (fun k3 hk3 h => ?_)
  refine gf_X0_111 hx hb hta hown hK hP (am_wo (i := (9 + 6 * k3)) (by omega) (am_s_node ca hk3)) (am_fvr (j := (12 + 6 * k3)) rfl) dX0_giveUp_33 ?_
  refine lv_iload_n hx hb dX0_giveUp_36 rfl (lv_at hl 3 rfl) ?_
  refine lv_iconst (v := (nI 5)) hx hb dX0_giveUp_37 rfl ?_
  refine lv_iconst (v := (nI 0)) hx hb dX0_giveUp_38 rfl ?_
  refine am_callv (va_runV (C := RX1) (As := [.int x1, .int (nI 5), .int (nI 0)]) (rest := []) ⟨hx, hb, hml, hown, hts⟩ (c_X1_write l dC dI ca ad hI M k3 hk3 x1 (nI 5) (nI 0) _ h) ⟨callB_of 3 hts (am_gd mc_X1_write) rfl rfl rfl (hta _ mn_X1) (hta _ ml_X0_189) dc_X1_write ⟨Nat.le_of_ble_eq_true rfl, Nat.le_of_ble_eq_true rfl⟩, hta _ mi_X1_write, hta _ me_X1_write⟩ (am_preV (q := (RX1, TX1, 5)) hK hN hP rfl (by omega) (am_s_log ca hk3)) rfl rfl hl.1 rfl (lv_room (Nat.le_of_ble_eq_true rfl)) dX0_giveUp_39 ⟨Nat.zero_le _, Nat.zero_le _⟩) hS (fun M4 H locs hP hS h => ?_)
  refine lv_aload_n hx hb dX0_giveUp_42 rfl (lv_at hl 2 rfl) ?_
  refine gf_X0_26 hx hb hta hown hK hP (am_wo (i := 0) (by decide) (am_s_outer ca)) (am_fvr (j := 3) rfl) dX0_giveUp_43 ?_
  refine lv_bipush (v := (nI 6)) hx hb dX0_giveUp_46 rfl ?_
  refine lv_aload_n hx hb dX0_giveUp_48 rfl (lv_at hl 1 rfl) ?_
  refine gf_X0_42 hx hb hta hown hK hP (am_wo (i := (33 + k1)) (by omega) (am_s_tx ca hk1)) (am_fvi rfl) dX0_giveUp_49 ?_
  refine lv_iload hx hb dX0_giveUp_52 (lv_at hl 0 rfl) ?_
  refine lv_iload_n hx hb dX0_giveUp_54 rfl (lv_at hl 3 rfl) ?_
  refine am_callv (va_runV (C := RX2) (As := [.int (nI 6), .int (nI (M4.1 9 k1 0)), .int y2, .int x1]) (rest := []) ⟨hx, hb, hml, hown, hts⟩ (c_X2_sendToEach l dC dI ca ad hI M4 (nI 6) (nI (M4.1 9 k1 0)) y2 x1 _ h) ⟨callB_of 4 hts (am_gd mc_X2_sendToEach) rfl rfl rfl (hta _ mn_X2) (hta _ ml_X0_75) dc_X2_sendToEach ⟨Nat.le_of_ble_eq_true rfl, Nat.le_of_ble_eq_true rfl⟩, hta _ mi_X2_sendToEach, hta _ me_X2_sendToEach⟩ (am_preV (q := (RX2, TX2, 2)) hK hN hP rfl (by decide) (am_s_row ca)) rfl rfl hl.1 rfl (lv_room (Nat.le_of_ble_eq_true rfl)) dX0_giveUp_55 ⟨Nat.zero_le _, Nat.zero_le _⟩) hS (fun M5 H locs hP hS h => ?_)
  refine lv_aload_n hx hb dX0_giveUp_58 rfl (lv_at hl 1 rfl) ?_
  refine am_callv (va_runV (C := RX4) (As := []) (rest := []) ⟨hx, hb, hml, hown, hts⟩ (c_X4_forget l dC dI ca ad hI M5 k1 hk1 _ h) ⟨callB_of 0 hts (am_gd mc_X4_forget) rfl rfl rfl (hta _ mn_X4) (hta _ ml_X0_72) dc_X4_forget ⟨Nat.le_of_ble_eq_true rfl, Nat.le_of_ble_eq_true rfl⟩, hta _ mi_X4_forget, hta _ me_X4_forget⟩ (am_preV (q := (RX4, TX4, 6)) hK hN hP rfl (by omega) (am_s_tx ca hk1)) rfl rfl hl.1 rfl (lv_room (Nat.le_of_ble_eq_true rfl)) dX0_giveUp_59 ⟨Nat.zero_le _, Nat.zero_le _⟩) hS (fun M6 H locs hP hS h => ?_)
  refine lv_iload hx hb dX0_giveUp_62 (lv_at hl 0 rfl) ?_
  refine am_calli (va_runS (As := [.int y2]) (rest := []) ⟨hx, hb, hml, hown, hts⟩ (c_J6_bitCount l dC dI ca ad hI M6 y2 _ h) ⟨callB_of 1 hts (am_gd mc_J6_bitCount) rfl rfl rfl (hta _ mn_J6) (hta _ ml_X0_79) dc_J6_bitCount ⟨Nat.le_of_ble_eq_true rfl, Nat.le_of_ble_eq_true rfl⟩, hta _ ms_J6_bitCount⟩ (am_preS hK hN hP) rfl rfl hl.1 rfl (lv_room (Nat.le_of_ble_eq_true rfl)) dX0_giveUp_64 ⟨Nat.zero_le _, Nat.zero_le _⟩) hS (fun y8 M7 H locs hP hS h => ?_)
  exact am_iret hx hb hr hK hN hP hS h hlocks dX0_giveUp_67
abbrev rmX0_withdraw : Room := { frames := 4, cells := 0, slots := 0, locals := 90 }
set_option maxHeartbeats 4000000 in
set_option maxRecDepth 100000 in
theorem c_X0_withdraw (l : Launch) (dC : Nat → ClassId) (dI : Nat → Nat → Nat) (ca : Nat → ClassId) (ad : Nat → Nat) (hI : am_inj ad) (M : am_M) (x1 : Int32) (Q : Int32 → am_M → Prop) (h : w_X0_withdraw M x1 Q) : Met l yX0_withdraw wsX0_withdraw rmX0_withdraw (va_Pc [.ref (ad 0), .int x1] (am_B dC dI ca ad M)) (am_Qi dC dI ca ad Q) 0 0 (am_A ad 63) := by
  refine Met.ofW (cc := cX0_withdraw) (maxL := 3) (ret := (some .int)) (by decide) rfl ?_
  intro p e s m args below meth c s₁ B hml hv
  obtain ⟨rfl, hP, hK, hN⟩ := hv
  have hx := B.exec
  have hb := B.bytes
  have hr := B.returns
  have hts := atoms_spec (ws := wsX0_withdraw) B.pre
  have hta : ∀ w ∈ am_all, w.before _ s = true := fun w hw => hts w (List.mem_cons_of_mem _ hw)
  have hown : s.vm.findClass RX0 = some m.cls := findClass_of_methodNamed B.named
  have hlocks := B.notSynchronized
  have hl := lv_entry ([.ref (ad 0), .int x1]) (n := 3) (Nat.le_of_ble_eq_true rfl)
  rw [lg_entry_eq]
  generalize (lg_sl ([.ref (ad 0), .int x1]) ++ List.replicate (3 - (lg_sl ([.ref (ad 0), .int x1])).length) Slot.unset).toArray = ls at hl ⊢
  have hl : lv_has ls 3 [(0, .ref (ad 0)), (1, .int x1)] := hl
  replace h := w_X0_withdraw_s h
  refine am_enter (A := am_A ad 63) hP (fun H locs hP hS => ?_)
  refine lv_aload_n hx hb dX0_withdraw_0 rfl (lv_at hl 0 rfl) ?_
  refine lv_iload_n hx hb dX0_withdraw_1 rfl (lv_at hl 1 rfl) ?_
  refine am_calli (va_runV (C := RX0) (As := [.int x1]) (rest := []) ⟨hx, hb, hml, hown, hts⟩ (c_X0_isTransaction l dC dI ca ad hI M x1 _ h) ⟨callB_of 1 hts (am_gd mc_X0_isTransaction) rfl rfl rfl (hta _ mn_X0) (hta _ ml_X0_48) dc_X0_isTransaction ⟨Nat.le_of_ble_eq_true rfl, Nat.le_of_ble_eq_true rfl⟩, hta _ mi_X0_isTransaction, hta _ me_X0_isTransaction⟩ (am_preV (q := (RX0, TX0, 4)) hK hN hP rfl (by decide) (am_s_outer ca)) rfl rfl hl.1 rfl (lv_room (Nat.le_of_ble_eq_true rfl)) dX0_withdraw_2 ⟨Nat.zero_le _, Nat.zero_le _⟩) hS (fun y2 M1 H locs hP hS h => ?_)
  refine lv_if_ne (tgt := 11) hx hb dX0_withdraw_5 rfl (fun hc => ?_) (fun hc => ?_)
  · replace h := h.1 hc
    clear hc
    refine lv_aload_n hx hb dX0_withdraw_11 rfl (lv_at hl 0 rfl) ?_
    refine gf_X0_18 hx hb hta hown hK hP (am_wo (i := 0) (by decide) (am_s_outer ca)) (am_fvr (j := 2) rfl) dX0_withdraw_12 ?_
    refine lv_iload_n hx hb dX0_withdraw_15 rfl (lv_at hl 1 rfl) ?_
    refine am_aald hx hb hK hP (i := 2) (by decide) (am_s_trans ca) (t0 := 3) rfl h dX0_withdraw_16 (fun k3 hk3 h => ?_)
    refine lv_astore_n hx hb dX0_withdraw_17 rfl hl (by decide) rfl (fun ls hl => ?_)
    have hl : lv_has ls 3 [(2, .ref (ad (33 + k3))), (0, .ref (ad 0)), (1, .int x1)] := hl
    refine lv_aload_n hx hb dX0_withdraw_18 rfl (lv_at hl 1 rfl) ?_
    refine gf_X0_11 hx hb hta hown hK hP (am_wo (i := 0) (by decide) (am_s_outer ca)) (am_fvr (j := 1) rfl) dX0_withdraw_19 ?_
    refine lv_aload_n hx hb dX0_withdraw_22 rfl (lv_at hl 0 rfl) ?_
    refine gf_X0_42 hx hb hta hown hK hP (am_wo (i := (33 + k3)) (by omega) (am_s_tx ca hk3)) (am_fvi rfl) dX0_withdraw_23 ?_
    refine am_aald hx hb hK hP (i := 1) (by decide) (am_s_nodes ca) (t0 := 2) rfl h dX0_withdraw_26 (fun k4 hk4 h => ?_)
    refine gf_X0_38 hx hb hta hown hK hP (am_wo (i := (9 + 6 * k4)) (by omega) (am_s_node ca hk4)) (am_fvi rfl) dX0_withdraw_27 ?_
    refine lv_if_ne (tgt := 36) hx hb dX0_withdraw_30 rfl (fun hc => ?_) (fun hc => ?_)
    · replace h := h.1 hc
      clear hc
      refine lv_aload_n hx hb dX0_withdraw_36 rfl (lv_at hl 0 rfl) ?_
      refine gf_X0_45 hx hb hta hown hK hP (am_wo (i := (33 + k3)) (by omega) (am_s_tx ca hk3)) (am_fvi rfl) dX0_withdraw_37 ?_
      refine lv_iconst (v := (nI 1)) hx hb dX0_withdraw_40 rfl ?_
      refine lv_icmp_eq (tgt := 55) hx hb dX0_withdraw_41 rfl (fun hc => ?_) (fun hc => ?_)
      · replace h := h.1 hc
        clear hc
        refine lv_aload_n hx hb dX0_withdraw_55 rfl (lv_at hl 1 rfl) ?_
        refine lv_iload_n hx hb dX0_withdraw_56 rfl (lv_at hl 2 rfl) ?_
        refine lv_iconst (v := (nI 0)) hx hb dX0_withdraw_57 rfl ?_
        refine am_calli (va_runV (C := RX0) (As := [.int x1, .int (nI 0)]) (rest := []) ⟨hx, hb, hml, hown, hts⟩ (c_X0_giveUp l dC dI ca ad hI M1 x1 (nI 0) _ h) ⟨callB_of 2 hts (am_gd mc_X0_giveUp) rfl rfl rfl (hta _ mn_X0) (hta _ ml_X0_84) dc_X0_giveUp ⟨Nat.le_of_ble_eq_true rfl, Nat.le_of_ble_eq_true rfl⟩, hta _ mi_X0_giveUp, hta _ me_X0_giveUp⟩ (am_preV (q := (RX0, TX0, 4)) hK hN hP rfl (by decide) (am_s_outer ca)) rfl rfl hl.1 rfl (lv_room (Nat.le_of_ble_eq_true rfl)) dX0_withdraw_58 ⟨Nat.zero_le _, Nat.zero_le _⟩) hS (fun y6 M5 H locs hP hS h => ?_)
        exact am_iret hx hb hr hK hN hP hS h hlocks dX0_withdraw_61
      · replace h := h.2 hc
        clear hc
        refine lv_aload_n hx hb dX0_withdraw_44 rfl (lv_at hl 0 rfl) ?_
        refine gf_X0_45 hx hb hta hown hK hP (am_wo (i := (33 + k3)) (by omega) (am_s_tx ca hk3)) (am_fvi rfl) dX0_withdraw_45 ?_
        refine lv_iconst (v := (nI 2)) hx hb dX0_withdraw_48 rfl ?_
        refine lv_icmp_eq (tgt := 55) hx hb dX0_withdraw_49 rfl (fun hc => ?_) (fun hc => ?_)
        · replace h := h.1 hc
          clear hc
          refine lv_aload_n hx hb dX0_withdraw_55 rfl (lv_at hl 1 rfl) ?_
          refine lv_iload_n hx hb dX0_withdraw_56 rfl (lv_at hl 2 rfl) ?_
          refine lv_iconst (v := (nI 0)) hx hb dX0_withdraw_57 rfl ?_
          refine am_calli (va_runV (C := RX0) (As := [.int x1, .int (nI 0)]) (rest := []) ⟨hx, hb, hml, hown, hts⟩ (c_X0_giveUp l dC dI ca ad hI M1 x1 (nI 0) _ h) ⟨callB_of 2 hts (am_gd mc_X0_giveUp) rfl rfl rfl (hta _ mn_X0) (hta _ ml_X0_84) dc_X0_giveUp ⟨Nat.le_of_ble_eq_true rfl, Nat.le_of_ble_eq_true rfl⟩, hta _ mi_X0_giveUp, hta _ me_X0_giveUp⟩ (am_preV (q := (RX0, TX0, 4)) hK hN hP rfl (by decide) (am_s_outer ca)) rfl rfl hl.1 rfl (lv_room (Nat.le_of_ble_eq_true rfl)) dX0_withdraw_58 ⟨Nat.zero_le _, Nat.zero_le _⟩) hS (fun y8 M7 H locs hP hS h => ?_)
          exact am_iret hx hb hr hK hN hP hS h hlocks dX0_withdraw_61
        · replace h := h.2 hc
          clear hc
          refine lv_bipush (v := (-4)) hx hb dX0_withdraw_52 rfl ?_
          exact am_iret hx hb hr hK hN hP hS h hlocks dX0_withdraw_54
    · replace h := h.2 hc
      clear hc
      refine lv_bipush (v := (-3)) hx hb dX0_withdraw_33 rfl ?_
      exact am_iret hx hb hr hK hN hP hS h hlocks dX0_withdraw_35
  · replace h := h.2 hc
    clear hc
    refine lv_bipush (v := (-2)) hx hb dX0_withdraw_8 rfl ?_
    exact am_iret hx hb hr hK hN hP hS h hlocks dX0_withdraw_10
abbrev rmX2_has : Room := { frames := 0, cells := 0, slots := 0, locals := 0 }
set_option maxHeartbeats 4000000 in
set_option maxRecDepth 100000 in
theorem c_X2_has (l : Launch) (dC : Nat → ClassId) (dI : Nat → Nat → Nat) (ca : Nat → ClassId) (ad : Nat → Nat) (hI : am_inj ad) (M : am_M) (x1 : Int32) (Q : Int32 → am_M → Prop) (h : w_X2_has M x1 Q) : Met l yX2_has wsX2_has rmX2_has (va_Pc [.ref (ad 3), .int x1] (am_B dC dI ca ad M)) (am_Qi dC dI ca ad Q) 0 0 (am_A ad 63) := by
  refine Met.ofW (cc := cX2_has) (maxL := 2) (ret := (some .boolean)) (by decide) rfl ?_
  intro p e s m args below meth c s₁ B hml hv
  obtain ⟨rfl, hP, hK, hN⟩ := hv
  have hx := B.exec
  have hb := B.bytes
  have hr := B.returns
  have hts := atoms_spec (ws := wsX2_has) B.pre
  have hta : ∀ w ∈ am_all, w.before _ s = true := fun w hw => hts w (List.mem_cons_of_mem _ hw)
  have hown : s.vm.findClass RX2 = some m.cls := findClass_of_methodNamed B.named
  have hlocks := B.notSynchronized
  have hl := lv_entry ([.ref (ad 3), .int x1]) (n := 2) (Nat.le_of_ble_eq_true rfl)
  rw [lg_entry_eq]
  generalize (lg_sl ([.ref (ad 3), .int x1]) ++ List.replicate (2 - (lg_sl ([.ref (ad 3), .int x1])).length) Slot.unset).toArray = ls at hl ⊢
  have hl : lv_has ls 2 [(0, .ref (ad 3)), (1, .int x1)] := hl
  replace h := w_X2_has_s h
  refine am_enter (A := am_A ad 63) hP (fun H locs hP hS => ?_)
  refine lv_iload_n hx hb dX2_has_0 rfl (lv_at hl 1 rfl) ?_
  refine lv_if_lt (tgt := 16) hx hb dX2_has_1 rfl (fun hc => ?_) (fun hc => ?_)
  · replace h := h.1 hc
    clear hc
    refine lv_iconst (v := (nI 0)) hx hb dX2_has_16 rfl ?_
    exact am_zret hx hb hr (rfl) hK hN hP hS h hlocks dX2_has_17
  · replace h := h.2 hc
    clear hc
    refine lv_iload_n hx hb dX2_has_4 rfl (lv_at hl 1 rfl) ?_
    refine lv_aload_n hx hb dX2_has_5 rfl (lv_at hl 0 rfl) ?_
    refine gf_X2_16 hx hb hta hown hK hP (am_wo (i := 3) (by decide) (am_s_row ca)) (am_fvi rfl) dX2_has_6 ?_
    refine lv_icmp_ge (tgt := 16) hx hb dX2_has_9 rfl (fun hc => ?_) (fun hc => ?_)
    · replace h := h.1 hc
      clear hc
      refine lv_iconst (v := (nI 0)) hx hb dX2_has_16 rfl ?_
      exact am_zret hx hb hr (rfl) hK hN hP hS h hlocks dX2_has_17
    · replace h := h.2 hc
      clear hc
      refine lv_iconst (v := (nI 1)) hx hb dX2_has_12 rfl ?_
      refine lv_goto (tgt := 17) hx hb dX2_has_13 rfl ?_
      exact am_zret hx hb hr (rfl) hK hN hP hS h hlocks dX2_has_17
abbrev rmX2_takeOut : Room := { frames := 0, cells := 0, slots := 0, locals := 0 }
set_option maxHeartbeats 4000000 in
set_option maxRecDepth 100000 in
theorem c_X2_takeOut (l : Launch) (dC : Nat → ClassId) (dI : Nat → Nat → Nat) (ca : Nat → ClassId) (ad : Nat → Nat) (hI : am_inj ad) (M : am_M) (x1 : Int32) (Q : am_M → Prop) (h : w_X2_takeOut M x1 Q) : Met l yX2_takeOut wsX2_takeOut rmX2_takeOut (va_Pc [.ref (ad 3), .int x1] (am_B dC dI ca ad M)) (am_Qv dC dI ca ad Q) 0 0 (am_A ad 63) := by
  refine Met.ofW (cc := cX2_takeOut) (maxL := 4) (ret := none) (by decide) rfl ?_
  intro p e s m args below meth c s₁ B hml hv
  obtain ⟨rfl, hP, hK, hN⟩ := hv
  have hx := B.exec
  have hb := B.bytes
  have hr := B.returns
  have hts := atoms_spec (ws := wsX2_takeOut) B.pre
  have hta : ∀ w ∈ am_all, w.before _ s = true := fun w hw => hts w (List.mem_cons_of_mem _ hw)
  have hown : s.vm.findClass RX2 = some m.cls := findClass_of_methodNamed B.named
  have hlocks := B.notSynchronized
  have hl := lv_entry ([.ref (ad 3), .int x1]) (n := 4) (Nat.le_of_ble_eq_true rfl)
  rw [lg_entry_eq]
  generalize (lg_sl ([.ref (ad 3), .int x1]) ++ List.replicate (4 - (lg_sl ([.ref (ad 3), .int x1])).length) Slot.unset).toArray = ls at hl ⊢
  have hl : lv_has ls 4 [(0, .ref (ad 3)), (1, .int x1)] := hl
  replace h := w_X2_takeOut_s h
  refine am_enter (A := am_A ad 63) hP (fun H locs hP hS => ?_)
  refine lv_aload_n hx hb dX2_takeOut_0 rfl (lv_at hl 0 rfl) ?_
  refine lv_dup hx hb dX2_takeOut_1 rfl ?_
  refine gf_X2_16 hx hb hta hown hK hP (am_wo (i := 3) (by decide) (am_s_row ca)) (am_fvi rfl) dX2_takeOut_2 ?_
  refine lv_iconst (v := (nI 1)) hx hb dX2_takeOut_5 rfl ?_
  refine lv_isub hx hb dX2_takeOut_6 ?_
  refine pf_X2_16 hx hb hta hown hK hP hI hS (i := 3) (by decide) (am_s_row ca) h dX2_takeOut_7 (fun M1 H locs hP hS h => ?_)
  refine lv_iconst (v := (nI 0)) hx hb dX2_takeOut_10 rfl ?_
  refine am_topi h (fun y2 h => ?_)
  refine lv_istore_n hx hb dX2_takeOut_11 rfl hl (by decide) rfl (fun ls hl => ?_)
  have hl : lv_has ls 4 [(2, .int y2), (0, .ref (ad 3)), (1, .int x1)] := hl
  obtain ⟨f12, h⟩ := h
  have key12 : ∀ (K : am_M → Int32 → Prop), (∀ (M4 : am_M) (z3 : Int32) (ls : Array Slot) (H : Heap) (locs : List Loc), K M4 z3 → va_P (dC, dI) vwCl (am_w ad (am_sh ca) 63 M4) H → va_S (am_A ad 63) s.heap H locs → lv_has ls 4 [(2, .int z3), (0, .ref (ad 3)), (1, .int x1)] → am_Wv p l e wsX2_takeOut rmX2_takeOut s m ([.ref (ad 3), .int x1] : List Value).toArray below meth c H locs dC dI ca ad Q (F0 m 57 ls [])) → ∀ (f12 : Nat) (M4 : am_M) (z3 : Int32) (ls : Array Slot) (H : Heap) (locs : List Loc), w_X2_takeOut_L12 x1 Q K f12 M4 z3 → va_P (dC, dI) vwCl (am_w ad (am_sh ca) 63 M4) H → va_S (am_A ad 63) s.heap H locs → lv_has ls 4 [(2, .int z3), (0, .ref (ad 3)), (1, .int x1)] → am_Wv p l e wsX2_takeOut rmX2_takeOut s m ([.ref (ad 3), .int x1] : List Value).toArray below meth c H locs dC dI ca ad Q (F0 m 12 ls []) := by
    intro K hex12 f12
    induction f12 with
    | zero => intro _ _ _ _ _ h; exact False.elim h
    | succ f12 ih12 =>
      intro M4 z3 ls H locs h hP hS hl
      replace h := w_X2_takeOut_L12_s h
      refine lv_iload_n hx hb dX2_takeOut_12 rfl (lv_at hl 0 rfl) ?_
      refine lv_iconst (v := (nI 4)) hx hb dX2_takeOut_13 rfl ?_
      refine lv_icmp_ge (tgt := 57) hx hb dX2_takeOut_14 rfl (fun hc => ?_) (fun hc => ?_)
      · replace h := h.1 hc
        clear hc
        exact hex12 M4 z3 ls H locs h hP hS (lv_sub hl [0, 1, 2] rfl)
      · replace h := h.2 hc
        clear hc
        refine lv_iload_n hx hb dX2_takeOut_17 rfl (lv_at hl 2 rfl) ?_
        refine am_topi h (fun y5 h => ?_)
        refine lv_istore_n hx hb dX2_takeOut_18 rfl hl (by decide) rfl (fun ls hl => ?_)
        have hl : lv_has ls 4 [(3, .int y5), (2, .int z3), (0, .ref (ad 3)), (1, .int x1)] := hl
        obtain ⟨f19, h⟩ := h
        have key19 : ∀ (K : am_M → Int32 → Prop), (∀ (M7 : am_M) (z6 : Int32) (ls : Array Slot) (H : Heap) (locs : List Loc), K M7 z6 → va_P (dC, dI) vwCl (am_w ad (am_sh ca) 63 M7) H → va_S (am_A ad 63) s.heap H locs → lv_has ls 4 [(3, .int z6), (2, .int z3), (0, .ref (ad 3)), (1, .int x1)] → am_Wv p l e wsX2_takeOut rmX2_takeOut s m ([.ref (ad 3), .int x1] : List Value).toArray below meth c H locs dC dI ca ad Q (F0 m 51 ls [])) → ∀ (f19 : Nat) (M7 : am_M) (z6 : Int32) (ls : Array Slot) (H : Heap) (locs : List Loc), w_X2_takeOut_L19 z3 x1 Q K f19 M7 z6 → va_P (dC, dI) vwCl (am_w ad (am_sh ca) 63 M7) H → va_S (am_A ad 63) s.heap H locs → lv_has ls 4 [(3, .int z6), (2, .int z3), (0, .ref (ad 3)), (1, .int x1)] → am_Wv p l e wsX2_takeOut rmX2_takeOut s m ([.ref (ad 3), .int x1] : List Value).toArray below meth c H locs dC dI ca ad Q (F0 m 19 ls []) := by
          intro K hex19 f19
          induction f19 with
          | zero => intro _ _ _ _ _ h; exact False.elim h
          | succ f19 ih19 =>
            intro M7 z6 ls H locs h hP hS hl
            replace h := w_X2_takeOut_L19_s h
            refine lv_iload_n hx hb dX2_takeOut_19 rfl (lv_at hl 0 rfl) ?_
            refine lv_aload_n hx hb dX2_takeOut_20 rfl (lv_at hl 2 rfl) ?_
            refine gf_X2_16 hx hb hta hown hK hP (am_wo (i := 3) (by decide) (am_s_row ca)) (am_fvi rfl) dX2_takeOut_21 ?_
            refine lv_icmp_ge (tgt := 51) hx hb dX2_takeOut_24 rfl (fun hc => ?_) (fun hc => ?_)
            · replace h := h.1 hc
              clear hc
              exact hex19 M7 z6 ls H locs h hP hS (lv_sub hl [0, 1, 2, 3] rfl)
            · replace h := h.2 hc
              clear hc
              refine lv_aload_n hx hb dX2_takeOut_27 rfl (lv_at hl 2 rfl) ?_
              refine gf_X2_11 hx hb hta hown hK hP (am_wo (i := 3) (by decide) (am_s_row ca)) (am_fvr (j := 4) rfl) dX2_takeOut_28 ?_
              refine lv_iload_n hx hb dX2_takeOut_31 rfl (lv_at hl 1 rfl) ?_
              refine am_aald hx hb hK hP (i := 4) (by decide) (am_s_parts ca) (t0 := 4) rfl h dX2_takeOut_32 (fun k8 hk8 h => ?_)
              refine lv_iload_n hx hb dX2_takeOut_33 rfl (lv_at hl 0 rfl) ?_
              refine lv_aload_n hx hb dX2_takeOut_34 rfl (lv_at hl 2 rfl) ?_
              refine gf_X2_11 hx hb hta hown hK hP (am_wo (i := 3) (by decide) (am_s_row ca)) (am_fvr (j := 4) rfl) dX2_takeOut_35 ?_
              refine lv_iload_n hx hb dX2_takeOut_38 rfl (lv_at hl 1 rfl) ?_
              refine am_aald hx hb hK hP (i := 4) (by decide) (am_s_parts ca) (t0 := 4) rfl h dX2_takeOut_39 (fun k9 hk9 h => ?_)
              refine lv_iload_n hx hb dX2_takeOut_40 rfl (lv_at hl 0 rfl) ?_
              refine lv_iconst (v := (nI 1)) hx hb dX2_takeOut_41 rfl ?_
              refine lv_iadd hx hb dX2_takeOut_42 ?_
              refine am_iald hx hb hK hP (i := (5 + k9)) (by omega) (am_s_part ca hk9) h dX2_takeOut_43 (fun k10 hk10 h => ?_)
              refine am_iast hx hb hK hP hI hS (i := (5 + k8)) (by omega) (am_s_part ca hk8) h dX2_takeOut_44 (fun M11 H locs hP hS h => ?_)
              refine am_iinc (k := 0) (d := nI 1) hx hb dX2_takeOut_45 hl rfl rfl (by decide) h (fun y12 ls h hl => ?_)
              have hl : lv_has ls 4 [(3, .int y12), (2, .int z3), (0, .ref (ad 3)), (1, .int x1)] := hl
              refine lv_goto (tgt := 19) hx hb dX2_takeOut_48 rfl ?_
              exact ih19 M11 y12 ls H locs h hP hS (lv_sub hl [0, 1, 2, 3] rfl)
        refine key19 _ ?_ f19 M4 y5 ls H locs h hP hS hl
        intro M13 z14 ls H locs h hP hS hl
        refine am_iinc (k := 1) (d := nI 1) hx hb dX2_takeOut_51 hl rfl rfl (by decide) h (fun y15 ls h hl => ?_)
        have hl : lv_has ls 4 [(2, .int y15), (3, .int z14), (0, .ref (ad 3)), (1, .int x1)] := hl
        refine lv_goto (tgt := 12) hx hb dX2_takeOut_54 rfl ?_
        exact ih12 M13 y15 ls H locs h hP hS (lv_sub hl [0, 2, 3] rfl)
  refine key12 _ ?_ f12 M1 y2 ls H locs h hP hS hl
  intro M16 z17 ls H locs h hP hS hl
  exact am_vret hx hb hr hK hN hP hS h hlocks dX2_takeOut_57
abbrev rmX3_letGo : Room := { frames := 0, cells := 0, slots := 0, locals := 0 }
set_option maxHeartbeats 4000000 in
set_option maxRecDepth 100000 in
theorem c_X3_letGo (l : Launch) (dC : Nat → ClassId) (dI : Nat → Nat → Nat) (ca : Nat → ClassId) (ad : Nat → Nat) (hI : am_inj ad) (M : am_M) (n : Nat) (hn : n < 4) (x1 : Int32) (Q : am_M → Prop) (h : w_X3_letGo M n x1 Q) : Met l yX3_letGo wsX3_letGo rmX3_letGo (va_Pc [.ref (ad (9 + 6 * n)), .int x1] (am_B dC dI ca ad M)) (am_Qv dC dI ca ad Q) 0 0 (am_A ad 63) := by
  refine Met.ofW (cc := cX3_letGo) (maxL := 2) (ret := none) (by decide) rfl ?_
  intro p e s m args below meth c s₁ B hml hv
  obtain ⟨rfl, hP, hK, hN⟩ := hv
  have hx := B.exec
  have hb := B.bytes
  have hr := B.returns
  have hts := atoms_spec (ws := wsX3_letGo) B.pre
  have hta : ∀ w ∈ am_all, w.before _ s = true := fun w hw => hts w (List.mem_cons_of_mem _ hw)
  have hown : s.vm.findClass RX3 = some m.cls := findClass_of_methodNamed B.named
  have hlocks := B.notSynchronized
  have hl := lv_entry ([.ref (ad (9 + 6 * n)), .int x1]) (n := 2) (Nat.le_of_ble_eq_true rfl)
  rw [lg_entry_eq]
  generalize (lg_sl ([.ref (ad (9 + 6 * n)), .int x1]) ++ List.replicate (2 - (lg_sl ([.ref (ad (9 + 6 * n)), .int x1])).length) Slot.unset).toArray = ls at hl ⊢
  have hl : lv_has ls 2 [(0, .ref (ad (9 + 6 * n))), (1, .int x1)] := hl
  replace h := w_X3_letGo_s h
  refine am_enter (A := am_A ad 63) hP (fun H locs hP hS => ?_)
  refine lv_aload_n hx hb dX3_letGo_0 rfl (lv_at hl 0 rfl) ?_
  refine gf_X3_19 hx hb hta hown hK hP (am_wo (i := (9 + 6 * n)) (by omega) (am_s_node ca hn)) (am_fvr (j := (11 + 6 * n)) rfl) dX3_letGo_1 ?_
  refine lv_iload_n hx hb dX3_letGo_4 rfl (lv_at hl 1 rfl) ?_
  refine lv_iconst (v := (nI 0)) hx hb dX3_letGo_5 rfl ?_
  refine am_iast hx hb hK hP hI hS (i := (11 + 6 * n)) (by omega) (am_s_held ca hn) h dX3_letGo_6 (fun M1 H locs hP hS h => ?_)
  refine lv_aload_n hx hb dX3_letGo_7 rfl (lv_at hl 0 rfl) ?_
  refine gf_X3_15 hx hb hta hown hK hP (am_wo (i := (9 + 6 * n)) (by omega) (am_s_node ca hn)) (am_fvr (j := (10 + 6 * n)) rfl) dX3_letGo_8 ?_
  refine lv_iload_n hx hb dX3_letGo_11 rfl (lv_at hl 1 rfl) ?_
  refine lv_iconst (v := (nI 0)) hx hb dX3_letGo_12 rfl ?_
  refine am_iast hx hb hK hP hI hS (i := (10 + 6 * n)) (by omega) (am_s_states ca hn) h dX3_letGo_13 (fun M2 H locs hP hS h => ?_)
  exact am_vret hx hb hr hK hN hP hS h hlocks dX3_letGo_14
abbrev rmX1_force : Room := { frames := 2, cells := 0, slots := 0, locals := 44 }
set_option maxHeartbeats 4000000 in
set_option maxRecDepth 100000 in
theorem c_X1_force (l : Launch) (dC : Nat → ClassId) (dI : Nat → Nat → Nat) (ca : Nat → ClassId) (ad : Nat → Nat) (hI : am_inj ad) (M : am_M) (n : Nat) (hn : n < 4) (x1 : Int32) (x2 : Int32) (x3 : Int32) (Q : am_M → Prop) (h : w_X1_force M n x1 x2 x3 Q) : Met l yX1_force wsX1_force rmX1_force (va_Pc [.ref (ad (12 + 6 * n)), .int x1, .int x2, .int x3] (am_B dC dI ca ad M)) (am_Qv dC dI ca ad Q) 0 0 (am_A ad 63) := by
  refine Met.ofW (cc := cX1_force) (maxL := 4) (ret := none) (by decide) rfl ?_
  intro p e s m args below meth c s₁ B hml hv
  obtain ⟨rfl, hP, hK, hN⟩ := hv
  have hx := B.exec
  have hb := B.bytes
  have hr := B.returns
  have hts := atoms_spec (ws := wsX1_force) B.pre
  have hta : ∀ w ∈ am_all, w.before _ s = true := fun w hw => hts w (List.mem_cons_of_mem _ hw)
  have hown : s.vm.findClass RX1 = some m.cls := findClass_of_methodNamed B.named
  have hlocks := B.notSynchronized
  have hl := lv_entry ([.ref (ad (12 + 6 * n)), .int x1, .int x2, .int x3]) (n := 4) (Nat.le_of_ble_eq_true rfl)
  rw [lg_entry_eq]
  generalize (lg_sl ([.ref (ad (12 + 6 * n)), .int x1, .int x2, .int x3]) ++ List.replicate (4 - (lg_sl ([.ref (ad (12 + 6 * n)), .int x1, .int x2, .int x3])).length) Slot.unset).toArray = ls at hl ⊢
  have hl : lv_has ls 4 [(0, .ref (ad (12 + 6 * n))), (1, .int x1), (2, .int x2), (3, .int x3)] := hl
  replace h := w_X1_force_s h
  refine am_enter (A := am_A ad 63) hP (fun H locs hP hS => ?_)
  refine lv_aload_n hx hb dX1_force_0 rfl (lv_at hl 0 rfl) ?_
  refine lv_iload_n hx hb dX1_force_1 rfl (lv_at hl 1 rfl) ?_
  refine lv_iload_n hx hb dX1_force_2 rfl (lv_at hl 2 rfl) ?_
  refine lv_iload_n hx hb dX1_force_3 rfl (lv_at hl 3 rfl) ?_
  refine am_callv (va_runV (C := RX1) (As := [.int x1, .int x2, .int x3]) (rest := []) ⟨hx, hb, hml, hown, hts⟩ (c_X1_write l dC dI ca ad hI M n hn x1 x2 x3 _ h) ⟨callB_of 3 hts (am_gd mc_X1_write) rfl rfl rfl (hta _ mn_X1) (hta _ ml_X1_26) dc_X1_write ⟨Nat.le_of_ble_eq_true rfl, Nat.le_of_ble_eq_true rfl⟩, hta _ mi_X1_write, hta _ me_X1_write⟩ (am_preV (q := (RX1, TX1, 5)) hK hN hP rfl (by omega) (am_s_log ca hn)) rfl rfl hl.1 rfl (lv_room (Nat.le_of_ble_eq_true rfl)) dX1_force_4 ⟨Nat.zero_le _, Nat.zero_le _⟩) hS (fun M1 H locs hP hS h => ?_)
  refine lv_aload_n hx hb dX1_force_7 rfl (lv_at hl 0 rfl) ?_
  refine lv_aload_n hx hb dX1_force_8 rfl (lv_at hl 0 rfl) ?_
  refine gf_X1_18 hx hb hta hown hK hP (am_wo (i := (12 + 6 * n)) (by omega) (am_s_log ca hn)) (am_fvi rfl) dX1_force_9 ?_
  refine pf_X1_30 hx hb hta hown hK hP hI hS (i := (12 + 6 * n)) (by omega) (am_s_log ca hn) h dX1_force_12 (fun M2 H locs hP hS h => ?_)
  refine lv_aload_n hx hb dX1_force_15 rfl (lv_at hl 0 rfl) ?_
  refine lv_dup hx hb dX1_force_16 rfl ?_
  refine gf_X1_33 hx hb hta hown hK hP (am_wo (i := (12 + 6 * n)) (by omega) (am_s_log ca hn)) (am_fvi rfl) dX1_force_17 ?_
  refine lv_iconst (v := (nI 1)) hx hb dX1_force_20 rfl ?_
  refine lv_iadd hx hb dX1_force_21 ?_
  refine pf_X1_33 hx hb hta hown hK hP hI hS (i := (12 + 6 * n)) (by omega) (am_s_log ca hn) h dX1_force_22 (fun M3 H locs hP hS h => ?_)
  exact am_vret hx hb hr hK hN hP hS h hlocks dX1_force_25
abbrev rmX3_voteWhenWorking : Room := { frames := 3, cells := 0, slots := 0, locals := 67 }
set_option maxHeartbeats 4000000 in
set_option maxRecDepth 100000 in
theorem c_X3_voteWhenWorking (l : Launch) (dC : Nat → ClassId) (dI : Nat → Nat → Nat) (ca : Nat → ClassId) (ad : Nat → Nat) (hI : am_inj ad) (M : am_M) (n : Nat) (hn : n < 4) (x1 : Int32) (Q : Int32 → am_M → Prop) (h : w_X3_voteWhenWorking M n x1 Q) : Met l yX3_voteWhenWorking wsX3_voteWhenWorking rmX3_voteWhenWorking (va_Pc [.ref (ad (9 + 6 * n)), .int x1] (am_B dC dI ca ad M)) (am_Qi dC dI ca ad Q) 0 0 (am_A ad 63) := by
  refine Met.ofW (cc := cX3_voteWhenWorking) (maxL := 2) (ret := (some .int)) (by decide) rfl ?_
  intro p e s m args below meth c s₁ B hml hv
  obtain ⟨rfl, hP, hK, hN⟩ := hv
  have hx := B.exec
  have hb := B.bytes
  have hr := B.returns
  have hts := atoms_spec (ws := wsX3_voteWhenWorking) B.pre
  have hta : ∀ w ∈ am_all, w.before _ s = true := fun w hw => hts w (List.mem_cons_of_mem _ hw)
  have hown : s.vm.findClass RX3 = some m.cls := findClass_of_methodNamed B.named
  have hlocks := B.notSynchronized
  have hl := lv_entry ([.ref (ad (9 + 6 * n)), .int x1]) (n := 2) (Nat.le_of_ble_eq_true rfl)
  rw [lg_entry_eq]
  generalize (lg_sl ([.ref (ad (9 + 6 * n)), .int x1]) ++ List.replicate (2 - (lg_sl ([.ref (ad (9 + 6 * n)), .int x1])).length) Slot.unset).toArray = ls at hl ⊢
  have hl : lv_has ls 2 [(0, .ref (ad (9 + 6 * n))), (1, .int x1)] := hl
  replace h := w_X3_voteWhenWorking_s h
  refine am_enter (A := am_A ad 63) hP (fun H locs hP hS => ?_)
  refine lv_aload_n hx hb dX3_voteWhenWorking_0 rfl (lv_at hl 0 rfl) ?_
  refine gf_X3_19 hx hb hta hown hK hP (am_wo (i := (9 + 6 * n)) (by omega) (am_s_node ca hn)) (am_fvr (j := (11 + 6 * n)) rfl) dX3_voteWhenWorking_1 ?_
  refine lv_iload_n hx hb dX3_voteWhenWorking_4 rfl (lv_at hl 1 rfl) ?_
  refine am_iald hx hb hK hP (i := (11 + 6 * n)) (by omega) (am_s_held ca hn) h dX3_voteWhenWorking_5 (fun k1 hk1 h => ?_)
  refine lv_if_ne (tgt := 16) hx hb dX3_voteWhenWorking_6 rfl (fun hc => ?_) (fun hc => ?_)
  · replace h := h.1 hc
    clear hc
    refine lv_aload_n hx hb dX3_voteWhenWorking_16 rfl (lv_at hl 0 rfl) ?_
    refine gf_X3_25 hx hb hta hown hK hP (am_wo (i := (9 + 6 * n)) (by omega) (am_s_node ca hn)) (am_fvr (j := (12 + 6 * n)) rfl) dX3_voteWhenWorking_17 ?_
    refine lv_iload_n hx hb dX3_voteWhenWorking_20 rfl (lv_at hl 1 rfl) ?_
    refine lv_iconst (v := (nI 1)) hx hb dX3_voteWhenWorking_21 rfl ?_
    refine lv_aload_n hx hb dX3_voteWhenWorking_22 rfl (lv_at hl 0 rfl) ?_
    refine gf_X3_19 hx hb hta hown hK hP (am_wo (i := (9 + 6 * n)) (by omega) (am_s_node ca hn)) (am_fvr (j := (11 + 6 * n)) rfl) dX3_voteWhenWorking_23 ?_
    refine lv_iload_n hx hb dX3_voteWhenWorking_26 rfl (lv_at hl 1 rfl) ?_
    refine am_iald hx hb hK hP (i := (11 + 6 * n)) (by omega) (am_s_held ca hn) h dX3_voteWhenWorking_27 (fun k2 hk2 h => ?_)
    refine am_callv (va_runV (C := RX1) (As := [.int x1, .int (nI 1), .int (nI (M.1 5 n k2))]) (rest := []) ⟨hx, hb, hml, hown, hts⟩ (c_X1_force l dC dI ca ad hI M n hn x1 (nI 1) (nI (M.1 5 n k2)) _ h) ⟨callB_of 3 hts (am_gd mc_X1_force) rfl rfl rfl (hta _ mn_X1) (hta _ ml_X3_50) dc_X1_force ⟨Nat.le_of_ble_eq_true rfl, Nat.le_of_ble_eq_true rfl⟩, hta _ mi_X1_force, hta _ me_X1_force⟩ (am_preV (q := (RX1, TX1, 5)) hK hN hP rfl (by omega) (am_s_log ca hn)) rfl rfl hl.1 rfl (lv_room (Nat.le_of_ble_eq_true rfl)) dX3_voteWhenWorking_28 ⟨Nat.zero_le _, Nat.zero_le _⟩) hS (fun M3 H locs hP hS h => ?_)
    refine lv_aload_n hx hb dX3_voteWhenWorking_31 rfl (lv_at hl 0 rfl) ?_
    refine gf_X3_15 hx hb hta hown hK hP (am_wo (i := (9 + 6 * n)) (by omega) (am_s_node ca hn)) (am_fvr (j := (10 + 6 * n)) rfl) dX3_voteWhenWorking_32 ?_
    refine lv_iload_n hx hb dX3_voteWhenWorking_35 rfl (lv_at hl 1 rfl) ?_
    refine lv_iconst (v := (nI 3)) hx hb dX3_voteWhenWorking_36 rfl ?_
    refine am_iast hx hb hK hP hI hS (i := (10 + 6 * n)) (by omega) (am_s_states ca hn) h dX3_voteWhenWorking_37 (fun M4 H locs hP hS h => ?_)
    refine lv_iconst (v := (nI 2)) hx hb dX3_voteWhenWorking_38 rfl ?_
    exact am_iret hx hb hr hK hN hP hS h hlocks dX3_voteWhenWorking_39
  · replace h := h.2 hc
    clear hc
    refine lv_aload_n hx hb dX3_voteWhenWorking_9 rfl (lv_at hl 0 rfl) ?_
    refine lv_iload_n hx hb dX3_voteWhenWorking_10 rfl (lv_at hl 1 rfl) ?_
    refine am_callv (va_runV (C := RX3) (As := [.int x1]) (rest := []) ⟨hx, hb, hml, hown, hts⟩ (c_X3_letGo l dC dI ca ad hI M n hn x1 _ h) ⟨callB_of 1 hts (am_gd mc_X3_letGo) rfl rfl rfl (hta _ mn_X3) (hta _ ml_X3_47) dc_X3_letGo ⟨Nat.le_of_ble_eq_true rfl, Nat.le_of_ble_eq_true rfl⟩, hta _ mi_X3_letGo, hta _ me_X3_letGo⟩ (am_preV (q := (RX3, TX3, 4)) hK hN hP rfl (by omega) (am_s_node ca hn)) rfl rfl hl.1 rfl (lv_room (Nat.le_of_ble_eq_true rfl)) dX3_voteWhenWorking_11 ⟨Nat.zero_le _, Nat.zero_le _⟩) hS (fun M5 H locs hP hS h => ?_)
    refine lv_iconst (v := (nI 3)) hx hb dX3_voteWhenWorking_14 rfl ?_
    exact am_iret hx hb hr hK hN hP hS h hlocks dX3_voteWhenWorking_15
abbrev rmX3_abort : Room := { frames := 2, cells := 0, slots := 0, locals := 44 }
set_option maxHeartbeats 4000000 in
set_option maxRecDepth 100000 in
theorem c_X3_abort (l : Launch) (dC : Nat → ClassId) (dI : Nat → Nat → Nat) (ca : Nat → ClassId) (ad : Nat → Nat) (hI : am_inj ad) (M : am_M) (n : Nat) (hn : n < 4) (x1 : Int32) (Q : am_M → Prop) (h : w_X3_abort M n x1 Q) : Met l yX3_abort wsX3_abort rmX3_abort (va_Pc [.ref (ad (9 + 6 * n)), .int x1] (am_B dC dI ca ad M)) (am_Qv dC dI ca ad Q) 0 0 (am_A ad 63) := by
  refine Met.ofW (cc := cX3_abort) (maxL := 2) (ret := none) (by decide) rfl ?_
  intro p e s m args below meth c s₁ B hml hv
  obtain ⟨rfl, hP, hK, hN⟩ := hv
  have hx := B.exec
  have hb := B.bytes
  have hr := B.returns
  have hts := atoms_spec (ws := wsX3_abort) B.pre
  have hta : ∀ w ∈ am_all, w.before _ s = true := fun w hw => hts w (List.mem_cons_of_mem _ hw)
  have hown : s.vm.findClass RX3 = some m.cls := findClass_of_methodNamed B.named
  have hlocks := B.notSynchronized
  have hl := lv_entry ([.ref (ad (9 + 6 * n)), .int x1]) (n := 2) (Nat.le_of_ble_eq_true rfl)
  rw [lg_entry_eq]
  generalize (lg_sl ([.ref (ad (9 + 6 * n)), .int x1]) ++ List.replicate (2 - (lg_sl ([.ref (ad (9 + 6 * n)), .int x1])).length) Slot.unset).toArray = ls at hl ⊢
  have hl : lv_has ls 2 [(0, .ref (ad (9 + 6 * n))), (1, .int x1)] := hl
  replace h := w_X3_abort_s h
  refine am_enter (A := am_A ad 63) hP (fun H locs hP hS => ?_)
  refine lv_aload_n hx hb dX3_abort_0 rfl (lv_at hl 0 rfl) ?_
  refine gf_X3_15 hx hb hta hown hK hP (am_wo (i := (9 + 6 * n)) (by omega) (am_s_node ca hn)) (am_fvr (j := (10 + 6 * n)) rfl) dX3_abort_1 ?_
  refine lv_iload_n hx hb dX3_abort_4 rfl (lv_at hl 1 rfl) ?_
  refine am_iald hx hb hK hP (i := (10 + 6 * n)) (by omega) (am_s_states ca hn) h dX3_abort_5 (fun k1 hk1 h => ?_)
  refine lv_if_eq (tgt := 24) hx hb dX3_abort_6 rfl (fun hc => ?_) (fun hc => ?_)
  · replace h := h.1 hc
    clear hc
    exact am_vret hx hb hr hK hN hP hS h hlocks dX3_abort_24
  · replace h := h.2 hc
    clear hc
    refine lv_aload_n hx hb dX3_abort_9 rfl (lv_at hl 0 rfl) ?_
    refine gf_X3_25 hx hb hta hown hK hP (am_wo (i := (9 + 6 * n)) (by omega) (am_s_node ca hn)) (am_fvr (j := (12 + 6 * n)) rfl) dX3_abort_10 ?_
    refine lv_iload_n hx hb dX3_abort_13 rfl (lv_at hl 1 rfl) ?_
    refine lv_iconst (v := (nI 3)) hx hb dX3_abort_14 rfl ?_
    refine lv_iconst (v := (nI 0)) hx hb dX3_abort_15 rfl ?_
    refine am_callv (va_runV (C := RX1) (As := [.int x1, .int (nI 3), .int (nI 0)]) (rest := []) ⟨hx, hb, hml, hown, hts⟩ (c_X1_write l dC dI ca ad hI M n hn x1 (nI 3) (nI 0) _ h) ⟨callB_of 3 hts (am_gd mc_X1_write) rfl rfl rfl (hta _ mn_X1) (hta _ ml_X3_54) dc_X1_write ⟨Nat.le_of_ble_eq_true rfl, Nat.le_of_ble_eq_true rfl⟩, hta _ mi_X1_write, hta _ me_X1_write⟩ (am_preV (q := (RX1, TX1, 5)) hK hN hP rfl (by omega) (am_s_log ca hn)) rfl rfl hl.1 rfl (lv_room (Nat.le_of_ble_eq_true rfl)) dX3_abort_16 ⟨Nat.zero_le _, Nat.zero_le _⟩) hS (fun M2 H locs hP hS h => ?_)
    refine lv_aload_n hx hb dX3_abort_19 rfl (lv_at hl 0 rfl) ?_
    refine lv_iload_n hx hb dX3_abort_20 rfl (lv_at hl 1 rfl) ?_
    refine am_callv (va_runV (C := RX3) (As := [.int x1]) (rest := []) ⟨hx, hb, hml, hown, hts⟩ (c_X3_letGo l dC dI ca ad hI M2 n hn x1 _ h) ⟨callB_of 1 hts (am_gd mc_X3_letGo) rfl rfl rfl (hta _ mn_X3) (hta _ ml_X3_47) dc_X3_letGo ⟨Nat.le_of_ble_eq_true rfl, Nat.le_of_ble_eq_true rfl⟩, hta _ mi_X3_letGo, hta _ me_X3_letGo⟩ (am_preV (q := (RX3, TX3, 4)) hK hN hP rfl (by omega) (am_s_node ca hn)) rfl rfl hl.1 rfl (lv_room (Nat.le_of_ble_eq_true rfl)) dX3_abort_21 ⟨Nat.zero_le _, Nat.zero_le _⟩) hS (fun M3 H locs hP hS h => ?_)
    exact am_vret hx hb hr hK hN hP hS h hlocks dX3_abort_24
abbrev rmX3_voteOn : Room := { frames := 4, cells := 0, slots := 0, locals := 88 }
set_option maxHeartbeats 4000000 in
set_option maxRecDepth 100000 in
theorem c_X3_voteOn (l : Launch) (dC : Nat → ClassId) (dI : Nat → Nat → Nat) (ca : Nat → ClassId) (ad : Nat → Nat) (hI : am_inj ad) (M : am_M) (n : Nat) (hn : n < 4) (x1 : Int32) (Q : Int32 → am_M → Prop) (h : w_X3_voteOn M n x1 Q) : Met l yX3_voteOn wsX3_voteOn rmX3_voteOn (va_Pc [.ref (ad (9 + 6 * n)), .int x1] (am_B dC dI ca ad M)) (am_Qi dC dI ca ad Q) 0 0 (am_A ad 63) := by
  refine Met.ofW (cc := cX3_voteOn) (maxL := 2) (ret := (some .int)) (by decide) rfl ?_
  intro p e s m args below meth c s₁ B hml hv
  obtain ⟨rfl, hP, hK, hN⟩ := hv
  have hx := B.exec
  have hb := B.bytes
  have hr := B.returns
  have hts := atoms_spec (ws := wsX3_voteOn) B.pre
  have hta : ∀ w ∈ am_all, w.before _ s = true := fun w hw => hts w (List.mem_cons_of_mem _ hw)
  have hown : s.vm.findClass RX3 = some m.cls := findClass_of_methodNamed B.named
  have hlocks := B.notSynchronized
  have hl := lv_entry ([.ref (ad (9 + 6 * n)), .int x1]) (n := 2) (Nat.le_of_ble_eq_true rfl)
  rw [lg_entry_eq]
  generalize (lg_sl ([.ref (ad (9 + 6 * n)), .int x1]) ++ List.replicate (2 - (lg_sl ([.ref (ad (9 + 6 * n)), .int x1])).length) Slot.unset).toArray = ls at hl ⊢
  have hl : lv_has ls 2 [(0, .ref (ad (9 + 6 * n))), (1, .int x1)] := hl
  replace h := w_X3_voteOn_s h
  refine am_enter (A := am_A ad 63) hP (fun H locs hP hS => ?_)
  refine lv_aload_n hx hb dX3_voteOn_0 rfl (lv_at hl 0 rfl) ?_
  refine gf_X3_15 hx hb hta hown hK hP (am_wo (i := (9 + 6 * n)) (by omega) (am_s_node ca hn)) (am_fvr (j := (10 + 6 * n)) rfl) dX3_voteOn_1 ?_
  refine lv_iload_n hx hb dX3_voteOn_4 rfl (lv_at hl 1 rfl) ?_
  refine am_iald hx hb hK hP (i := (10 + 6 * n)) (by omega) (am_s_states ca hn) h dX3_voteOn_5 (fun k1 hk1 h => ?_)
  by_cases hc : (nI (M.1 4 n k1)) = (nI 1)
  · replace h := h.1 hc
    refine lv_lookup (tgt := 32) (off := 26) hx hb dX3_voteOn_6 (by decide) (by rw [hc]; rfl) rfl ?_
    clear hc
    refine lv_aload_n hx hb dX3_voteOn_32 rfl (lv_at hl 0 rfl) ?_
    refine lv_iload_n hx hb dX3_voteOn_33 rfl (lv_at hl 1 rfl) ?_
    refine am_calli (va_runV (C := RX3) (As := [.int x1]) (rest := []) ⟨hx, hb, hml, hown, hts⟩ (c_X3_voteWhenWorking l dC dI ca ad hI M n hn x1 _ h) ⟨callB_of 1 hts (am_gd mc_X3_voteWhenWorking) rfl rfl rfl (hta _ mn_X3) (hta _ ml_X3_40) dc_X3_voteWhenWorking ⟨Nat.le_of_ble_eq_true rfl, Nat.le_of_ble_eq_true rfl⟩, hta _ mi_X3_voteWhenWorking, hta _ me_X3_voteWhenWorking⟩ (am_preV (q := (RX3, TX3, 4)) hK hN hP rfl (by omega) (am_s_node ca hn)) rfl rfl hl.1 rfl (lv_room (Nat.le_of_ble_eq_true rfl)) dX3_voteOn_34 ⟨Nat.zero_le _, Nat.zero_le _⟩) hS (fun y3 M2 H locs hP hS h => ?_)
    exact am_iret hx hb hr hK hN hP hS h hlocks dX3_voteOn_37
  · replace h := h.2 hc
    have hc1 := hc
    clear hc
    by_cases hc : (nI (M.1 4 n k1)) = (nI 3)
    · replace h := h.1 hc
      refine lv_lookup (tgt := 38) (off := 32) hx hb dX3_voteOn_6 (by decide) (by rw [hc]; rfl) rfl ?_
      clear hc
      refine lv_iconst (v := (nI 2)) hx hb dX3_voteOn_38 rfl ?_
      exact am_iret hx hb hr hK hN hP hS h hlocks dX3_voteOn_39
    · replace h := h.2 hc
      have hc3 := hc
      clear hc
      refine lv_lookup (tgt := 40) (off := 34) hx hb dX3_voteOn_6 (by decide) ((lv_osw hc1 rfl).trans ((lv_osw hc3 rfl).trans (rfl))) rfl ?_
      clear hc1 hc3
      refine lv_aload_n hx hb dX3_voteOn_40 rfl (lv_at hl 0 rfl) ?_
      refine lv_iload_n hx hb dX3_voteOn_41 rfl (lv_at hl 1 rfl) ?_
      refine am_callv (va_runV (C := RX3) (As := [.int x1]) (rest := []) ⟨hx, hb, hml, hown, hts⟩ (c_X3_abort l dC dI ca ad hI M n hn x1 _ h) ⟨callB_of 1 hts (am_gd mc_X3_abort) rfl rfl rfl (hta _ mn_X3) (hta _ ml_X3_43) dc_X3_abort ⟨Nat.le_of_ble_eq_true rfl, Nat.le_of_ble_eq_true rfl⟩, hta _ mi_X3_abort, hta _ me_X3_abort⟩ (am_preV (q := (RX3, TX3, 4)) hK hN hP rfl (by omega) (am_s_node ca hn)) rfl rfl hl.1 rfl (lv_room (Nat.le_of_ble_eq_true rfl)) dX3_voteOn_42 ⟨Nat.zero_le _, Nat.zero_le _⟩) hS (fun M4 H locs hP hS h => ?_)
      refine lv_iconst (v := (nI 4)) hx hb dX3_voteOn_45 rfl ?_
      exact am_iret hx hb hr hK hN hP hS h hlocks dX3_voteOn_46
abbrev rmX4_hasAllVotes : Room := { frames := 0, cells := 0, slots := 0, locals := 0 }
set_option maxHeartbeats 4000000 in
set_option maxRecDepth 100000 in
theorem c_X4_hasAllVotes (l : Launch) (dC : Nat → ClassId) (dI : Nat → Nat → Nat) (ca : Nat → ClassId) (ad : Nat → Nat) (hI : am_inj ad) (M : am_M) (n : Nat) (hn : n < 10) (Q : Int32 → am_M → Prop) (h : w_X4_hasAllVotes M n Q) : Met l yX4_hasAllVotes wsX4_hasAllVotes rmX4_hasAllVotes (va_Pc [.ref (ad (33 + n))] (am_B dC dI ca ad M)) (am_Qi dC dI ca ad Q) 0 0 (am_A ad 63) := by
  refine Met.ofW (cc := cX4_hasAllVotes) (maxL := 1) (ret := (some .boolean)) (by decide) rfl ?_
  intro p e s m args below meth c s₁ B hml hv
  obtain ⟨rfl, hP, hK, hN⟩ := hv
  have hx := B.exec
  have hb := B.bytes
  have hr := B.returns
  have hts := atoms_spec (ws := wsX4_hasAllVotes) B.pre
  have hta : ∀ w ∈ am_all, w.before _ s = true := fun w hw => hts w (List.mem_cons_of_mem _ hw)
  have hown : s.vm.findClass RX4 = some m.cls := findClass_of_methodNamed B.named
  have hlocks := B.notSynchronized
  have hl := lv_entry ([.ref (ad (33 + n))]) (n := 1) (Nat.le_of_ble_eq_true rfl)
  rw [lg_entry_eq]
  generalize (lg_sl ([.ref (ad (33 + n))]) ++ List.replicate (1 - (lg_sl ([.ref (ad (33 + n))])).length) Slot.unset).toArray = ls at hl ⊢
  have hl : lv_has ls 1 [(0, .ref (ad (33 + n)))] := hl
  replace h := w_X4_hasAllVotes_s h
  refine am_enter (A := am_A ad 63) hP (fun H locs hP hS => ?_)
  refine lv_aload_n hx hb dX4_hasAllVotes_0 rfl (lv_at hl 0 rfl) ?_
  refine gf_X4_9 hx hb hta hown hK hP (am_wo (i := (33 + n)) (by omega) (am_s_tx ca hn)) (am_fvi rfl) dX4_hasAllVotes_1 ?_
  refine lv_aload_n hx hb dX4_hasAllVotes_4 rfl (lv_at hl 0 rfl) ?_
  refine gf_X4_15 hx hb hta hown hK hP (am_wo (i := (33 + n)) (by omega) (am_s_tx ca hn)) (am_fvi rfl) dX4_hasAllVotes_5 ?_
  refine lv_aload_n hx hb dX4_hasAllVotes_8 rfl (lv_at hl 0 rfl) ?_
  refine gf_X4_18 hx hb hta hown hK hP (am_wo (i := (33 + n)) (by omega) (am_s_tx ca hn)) (am_fvi rfl) dX4_hasAllVotes_9 ?_
  refine lv_ior hx hb dX4_hasAllVotes_12 ?_
  refine lv_iconst (v := (-1)) hx hb dX4_hasAllVotes_13 rfl ?_
  refine lv_ixor hx hb dX4_hasAllVotes_14 ?_
  refine lv_iand hx hb dX4_hasAllVotes_15 ?_
  refine lv_if_ne (tgt := 23) hx hb dX4_hasAllVotes_16 rfl (fun hc => ?_) (fun hc => ?_)
  · replace h := h.1 hc
    clear hc
    refine lv_iconst (v := (nI 0)) hx hb dX4_hasAllVotes_23 rfl ?_
    exact am_zret hx hb hr (rfl) hK hN hP hS h hlocks dX4_hasAllVotes_24
  · replace h := h.2 hc
    clear hc
    refine lv_iconst (v := (nI 1)) hx hb dX4_hasAllVotes_19 rfl ?_
    refine lv_goto (tgt := 24) hx hb dX4_hasAllVotes_20 rfl ?_
    exact am_zret hx hb hr (rfl) hK hN hP hS h hlocks dX4_hasAllVotes_24
abbrev rmX0_decide : Room := { frames := 3, cells := 0, slots := 0, locals := 67 }
set_option maxHeartbeats 4000000 in
set_option maxRecDepth 100000 in
theorem c_X0_decide (l : Launch) (dC : Nat → ClassId) (dI : Nat → Nat → Nat) (ca : Nat → ClassId) (ad : Nat → Nat) (hI : am_inj ad) (M : am_M) (x1 : Int32) (Q : am_M → Prop) (h : w_X0_decide M x1 Q) : Met l yX0_decide wsX0_decide rmX0_decide (va_Pc [.ref (ad 0), .int x1] (am_B dC dI ca ad M)) (am_Qv dC dI ca ad Q) 0 0 (am_A ad 63) := by
  refine Met.ofW (cc := cX0_decide) (maxL := 3) (ret := none) (by decide) rfl ?_
  intro p e s m args below meth c s₁ B hml hv
  obtain ⟨rfl, hP, hK, hN⟩ := hv
  have hx := B.exec
  have hb := B.bytes
  have hr := B.returns
  have hts := atoms_spec (ws := wsX0_decide) B.pre
  have hta : ∀ w ∈ am_all, w.before _ s = true := fun w hw => hts w (List.mem_cons_of_mem _ hw)
  have hown : s.vm.findClass RX0 = some m.cls := findClass_of_methodNamed B.named
  have hlocks := B.notSynchronized
  have hl := lv_entry ([.ref (ad 0), .int x1]) (n := 3) (Nat.le_of_ble_eq_true rfl)
  rw [lg_entry_eq]
  generalize (lg_sl ([.ref (ad 0), .int x1]) ++ List.replicate (3 - (lg_sl ([.ref (ad 0), .int x1])).length) Slot.unset).toArray = ls at hl ⊢
  have hl : lv_has ls 3 [(0, .ref (ad 0)), (1, .int x1)] := hl
  replace h := w_X0_decide_s h
  refine am_enter (A := am_A ad 63) hP (fun H locs hP hS => ?_)
  refine lv_aload_n hx hb dX0_decide_0 rfl (lv_at hl 0 rfl) ?_
  refine gf_X0_18 hx hb hta hown hK hP (am_wo (i := 0) (by decide) (am_s_outer ca)) (am_fvr (j := 2) rfl) dX0_decide_1 ?_
  refine lv_iload_n hx hb dX0_decide_4 rfl (lv_at hl 1 rfl) ?_
  refine am_aald hx hb hK hP (i := 2) (by decide) (am_s_trans ca) (t0 := 3) rfl h dX0_decide_5 (fun k1 hk1 h => ?_)
  refine lv_astore_n hx hb dX0_decide_6 rfl hl (by decide) rfl (fun ls hl => ?_)
  have hl : lv_has ls 3 [(2, .ref (ad (33 + k1))), (0, .ref (ad 0)), (1, .int x1)] := hl
  refine lv_aload_n hx hb dX0_decide_7 rfl (lv_at hl 0 rfl) ?_
  refine gf_X0_127 hx hb hta hown hK hP (am_wo (i := (33 + k1)) (by omega) (am_s_tx ca hk1)) (am_fvi rfl) dX0_decide_8 ?_
  refine lv_if_ne (tgt := 19) hx hb dX0_decide_11 rfl (fun hc => ?_) (fun hc => ?_)
  · replace h := h.1 hc
    clear hc
    refine lv_aload_n hx hb dX0_decide_19 rfl (lv_at hl 0 rfl) ?_
    refine lv_aload_n hx hb dX0_decide_20 rfl (lv_at hl 0 rfl) ?_
    refine gf_X0_127 hx hb hta hown hK hP (am_wo (i := (33 + k1)) (by omega) (am_s_tx ca hk1)) (am_fvi rfl) dX0_decide_21 ?_
    refine pf_X0_133 hx hb hta hown hK hP hI hS (i := (33 + k1)) (by omega) (am_s_tx ca hk1) h dX0_decide_24 (fun M2 H locs hP hS h => ?_)
    refine lv_aload_n hx hb dX0_decide_27 rfl (lv_at hl 1 rfl) ?_
    refine gf_X0_11 hx hb hta hown hK hP (am_wo (i := 0) (by decide) (am_s_outer ca)) (am_fvr (j := 1) rfl) dX0_decide_28 ?_
    refine lv_aload_n hx hb dX0_decide_31 rfl (lv_at hl 0 rfl) ?_
    refine gf_X0_42 hx hb hta hown hK hP (am_wo (i := (33 + k1)) (by omega) (am_s_tx ca hk1)) (am_fvi rfl) dX0_decide_32 ?_
    refine am_aald hx hb hK hP (i := 1) (by decide) (am_s_nodes ca) (t0 := 2) rfl h dX0_decide_35 (fun k3 hk3 h => ?_)
    refine gf_X0_111 hx hb hta hown hK hP (am_wo (i := (9 + 6 * k3)) (by omega) (am_s_node ca hk3)) (am_fvr (j := (12 + 6 * k3)) rfl) dX0_decide_36 ?_
    refine lv_iload_n hx hb dX0_decide_39 rfl (lv_at hl 2 rfl) ?_
    refine lv_iconst (v := (nI 4)) hx hb dX0_decide_40 rfl ?_
    refine lv_aload_n hx hb dX0_decide_41 rfl (lv_at hl 0 rfl) ?_
    refine gf_X0_133 hx hb hta hown hK hP (am_wo (i := (33 + k1)) (by omega) (am_s_tx ca hk1)) (am_fvi rfl) dX0_decide_42 ?_
    refine am_callv (va_runV (C := RX1) (As := [.int x1, .int (nI 4), .int (nI (M2.1 9 k1 5))]) (rest := []) ⟨hx, hb, hml, hown, hts⟩ (c_X1_force l dC dI ca ad hI M2 k3 hk3 x1 (nI 4) (nI (M2.1 9 k1 5)) _ h) ⟨callB_of 3 hts (am_gd mc_X1_force) rfl rfl rfl (hta _ mn_X1) (hta _ ml_X0_186) dc_X1_force ⟨Nat.le_of_ble_eq_true rfl, Nat.le_of_ble_eq_true rfl⟩, hta _ mi_X1_force, hta _ me_X1_force⟩ (am_preV (q := (RX1, TX1, 5)) hK hN hP rfl (by omega) (am_s_log ca hk3)) rfl rfl hl.1 rfl (lv_room (Nat.le_of_ble_eq_true rfl)) dX0_decide_45 ⟨Nat.zero_le _, Nat.zero_le _⟩) hS (fun M4 H locs hP hS h => ?_)
    refine lv_aload_n hx hb dX0_decide_48 rfl (lv_at hl 0 rfl) ?_
    refine lv_iconst (v := (nI 3)) hx hb dX0_decide_49 rfl ?_
    refine pf_X0_45 hx hb hta hown hK hP hI hS (i := (33 + k1)) (by omega) (am_s_tx ca hk1) h dX0_decide_50 (fun M5 H locs hP hS h => ?_)
    refine lv_aload_n hx hb dX0_decide_53 rfl (lv_at hl 1 rfl) ?_
    refine gf_X0_26 hx hb hta hown hK hP (am_wo (i := 0) (by decide) (am_s_outer ca)) (am_fvr (j := 3) rfl) dX0_decide_54 ?_
    refine lv_iconst (v := (nI 5)) hx hb dX0_decide_57 rfl ?_
    refine lv_aload_n hx hb dX0_decide_58 rfl (lv_at hl 0 rfl) ?_
    refine gf_X0_42 hx hb hta hown hK hP (am_wo (i := (33 + k1)) (by omega) (am_s_tx ca hk1)) (am_fvi rfl) dX0_decide_59 ?_
    refine lv_aload_n hx hb dX0_decide_62 rfl (lv_at hl 0 rfl) ?_
    refine gf_X0_133 hx hb hta hown hK hP (am_wo (i := (33 + k1)) (by omega) (am_s_tx ca hk1)) (am_fvi rfl) dX0_decide_63 ?_
    refine lv_iload_n hx hb dX0_decide_66 rfl (lv_at hl 2 rfl) ?_
    refine am_callv (va_runV (C := RX2) (As := [.int (nI 5), .int (nI (M5.1 9 k1 0)), .int (nI (M5.1 9 k1 5)), .int x1]) (rest := []) ⟨hx, hb, hml, hown, hts⟩ (c_X2_sendToEach l dC dI ca ad hI M5 (nI 5) (nI (M5.1 9 k1 0)) (nI (M5.1 9 k1 5)) x1 _ h) ⟨callB_of 4 hts (am_gd mc_X2_sendToEach) rfl rfl rfl (hta _ mn_X2) (hta _ ml_X0_75) dc_X2_sendToEach ⟨Nat.le_of_ble_eq_true rfl, Nat.le_of_ble_eq_true rfl⟩, hta _ mi_X2_sendToEach, hta _ me_X2_sendToEach⟩ (am_preV (q := (RX2, TX2, 2)) hK hN hP rfl (by decide) (am_s_row ca)) rfl rfl hl.1 rfl (lv_room (Nat.le_of_ble_eq_true rfl)) dX0_decide_67 ⟨Nat.zero_le _, Nat.zero_le _⟩) hS (fun M6 H locs hP hS h => ?_)
    exact am_vret hx hb hr hK hN hP hS h hlocks dX0_decide_70
  · replace h := h.2 hc
    clear hc
    refine lv_aload_n hx hb dX0_decide_14 rfl (lv_at hl 0 rfl) ?_
    refine am_callv (va_runV (C := RX4) (As := []) (rest := []) ⟨hx, hb, hml, hown, hts⟩ (c_X4_forget l dC dI ca ad hI M k1 hk1 _ h) ⟨callB_of 0 hts (am_gd mc_X4_forget) rfl rfl rfl (hta _ mn_X4) (hta _ ml_X0_72) dc_X4_forget ⟨Nat.le_of_ble_eq_true rfl, Nat.le_of_ble_eq_true rfl⟩, hta _ mi_X4_forget, hta _ me_X4_forget⟩ (am_preV (q := (RX4, TX4, 6)) hK hN hP rfl (by omega) (am_s_tx ca hk1)) rfl rfl hl.1 rfl (lv_room (Nat.le_of_ble_eq_true rfl)) dX0_decide_15 ⟨Nat.zero_le _, Nat.zero_le _⟩) hS (fun M7 H locs hP hS h => ?_)
    exact am_vret hx hb hr hK hN hP hS h hlocks dX0_decide_18
abbrev rmX0_hearVote : Room := { frames := 4, cells := 0, slots := 0, locals := 90 }
set_option maxHeartbeats 4000000 in
set_option maxRecDepth 100000 in
theorem c_X0_hearVote (l : Launch) (dC : Nat → ClassId) (dI : Nat → Nat → Nat) (ca : Nat → ClassId) (ad : Nat → Nat) (hI : am_inj ad) (M : am_M) (x1 : Int32) (x2 : Int32) (x3 : Int32) (Q : am_M → Prop) (h : w_X0_hearVote M x1 x2 x3 Q) : Met l yX0_hearVote wsX0_hearVote rmX0_hearVote (va_Pc [.ref (ad 0), .int x1, .int x2, .int x3] (am_B dC dI ca ad M)) (am_Qv dC dI ca ad Q) 0 0 (am_A ad 63) := by
  refine Met.ofW (cc := cX0_hearVote) (maxL := 5) (ret := none) (by decide) rfl ?_
  intro p e s m args below meth c s₁ B hml hv
  obtain ⟨rfl, hP, hK, hN⟩ := hv
  have hx := B.exec
  have hb := B.bytes
  have hr := B.returns
  have hts := atoms_spec (ws := wsX0_hearVote) B.pre
  have hta : ∀ w ∈ am_all, w.before _ s = true := fun w hw => hts w (List.mem_cons_of_mem _ hw)
  have hown : s.vm.findClass RX0 = some m.cls := findClass_of_methodNamed B.named
  have hlocks := B.notSynchronized
  have hl := lv_entry ([.ref (ad 0), .int x1, .int x2, .int x3]) (n := 5) (Nat.le_of_ble_eq_true rfl)
  rw [lg_entry_eq]
  generalize (lg_sl ([.ref (ad 0), .int x1, .int x2, .int x3]) ++ List.replicate (5 - (lg_sl ([.ref (ad 0), .int x1, .int x2, .int x3])).length) Slot.unset).toArray = ls at hl ⊢
  have hl : lv_has ls 5 [(0, .ref (ad 0)), (1, .int x1), (2, .int x2), (3, .int x3)] := hl
  replace h := w_X0_hearVote_s h
  have J82 : ∀ (k10 : Nat) (hk10 : k10 < 10) (M11 : am_M) (y7 : Int32) (y8 : Int32) (y9 : Int32) (ls : Array Slot) (H : Heap) (locs : List Loc), w_X0_hearVote_J82 k10 M11 y7 y8 y9 Q → va_P (dC, dI) vwCl (am_w ad (am_sh ca) 63 M11) H → va_S (am_A ad 63) s.heap H locs → lv_has ls 5 [(0, .ref (ad 0)), (1, .int y7), (2, .int y8), (3, .int y9), (4, .ref (ad (33 + k10)))] → am_Wv p l e wsX0_hearVote rmX0_hearVote s m ([.ref (ad 0), .int x1, .int x2, .int x3] : List Value).toArray below meth c H locs dC dI ca ad Q (F0 m 82 ls []) := by
      intro k10 hk10 M11 y7 y8 y9 ls H locs h hP hS hl
      replace h := w_X0_hearVote_J82_s h
      refine lv_aload hx hb dX0_hearVote_82 (lv_at hl 4 rfl) ?_
      refine am_calli (va_runV (C := RX4) (As := []) (rest := []) ⟨hx, hb, hml, hown, hts⟩ (c_X4_hasAllVotes l dC dI ca ad hI M11 k10 hk10 _ h) ⟨callB_of 0 hts (am_gd mc_X4_hasAllVotes) rfl rfl rfl (hta _ mn_X4) (hta _ ml_X0_179) dc_X4_hasAllVotes ⟨Nat.le_of_ble_eq_true rfl, Nat.le_of_ble_eq_true rfl⟩, hta _ mi_X4_hasAllVotes, hta _ me_X4_hasAllVotes⟩ (am_preV (q := (RX4, TX4, 6)) hK hN hP rfl (by omega) (am_s_tx ca hk10)) rfl rfl hl.1 rfl (lv_room (Nat.le_of_ble_eq_true rfl)) dX0_hearVote_84 ⟨Nat.zero_le _, Nat.zero_le _⟩) hS (fun y13 M12 H locs hP hS h => ?_)
      refine lv_if_eq (tgt := 95) hx hb dX0_hearVote_87 rfl (fun hc => ?_) (fun hc => ?_)
      · replace h := h.1 hc
        clear hc
        exact am_vret hx hb hr hK hN hP hS h hlocks dX0_hearVote_95
      · replace h := h.2 hc
        clear hc
        refine lv_aload_n hx hb dX0_hearVote_90 rfl (lv_at hl 0 rfl) ?_
        refine lv_iload_n hx hb dX0_hearVote_91 rfl (lv_at hl 3 rfl) ?_
        refine am_callv (va_runV (C := RX0) (As := [.int y9]) (rest := []) ⟨hx, hb, hml, hown, hts⟩ (c_X0_decide l dC dI ca ad hI M12 y9 _ h) ⟨callB_of 1 hts (am_gd mc_X0_decide) rfl rfl rfl (hta _ mn_X0) (hta _ ml_X0_183) dc_X0_decide ⟨Nat.le_of_ble_eq_true rfl, Nat.le_of_ble_eq_true rfl⟩, hta _ mi_X0_decide, hta _ me_X0_decide⟩ (am_preV (q := (RX0, TX0, 4)) hK hN hP rfl (by decide) (am_s_outer ca)) rfl rfl hl.1 rfl (lv_room (Nat.le_of_ble_eq_true rfl)) dX0_hearVote_92 ⟨Nat.zero_le _, Nat.zero_le _⟩) hS (fun M14 H locs hP hS h => ?_)
        exact am_vret hx hb hr hK hN hP hS h hlocks dX0_hearVote_95
  refine am_enter (A := am_A ad 63) hP (fun H locs hP hS => ?_)
  refine lv_aload_n hx hb dX0_hearVote_0 rfl (lv_at hl 0 rfl) ?_
  refine gf_X0_18 hx hb hta hown hK hP (am_wo (i := 0) (by decide) (am_s_outer ca)) (am_fvr (j := 2) rfl) dX0_hearVote_1 ?_
  refine lv_iload_n hx hb dX0_hearVote_4 rfl (lv_at hl 3 rfl) ?_
  refine am_aald hx hb hK hP (i := 2) (by decide) (am_s_trans ca) (t0 := 3) rfl h dX0_hearVote_5 (fun k1 hk1 h => ?_)
  refine lv_astore hx hb dX0_hearVote_6 hl (by decide) rfl (fun ls hl => ?_)
  have hl : lv_has ls 5 [(4, .ref (ad (33 + k1))), (0, .ref (ad 0)), (1, .int x1), (2, .int x2), (3, .int x3)] := hl
  refine lv_aload hx hb dX0_hearVote_8 (lv_at hl 0 rfl) ?_
  refine gf_X0_45 hx hb hta hown hK hP (am_wo (i := (33 + k1)) (by omega) (am_s_tx ca hk1)) (am_fvi rfl) dX0_hearVote_10 ?_
  refine lv_iconst (v := (nI 2)) hx hb dX0_hearVote_13 rfl ?_
  refine lv_icmp_ne (tgt := 29) hx hb dX0_hearVote_14 rfl (fun hc => ?_) (fun hc => ?_)
  · replace h := h.1 hc
    clear hc
    exact am_vret hx hb hr hK hN hP hS h hlocks dX0_hearVote_29
  · replace h := h.2 hc
    clear hc
    refine lv_aload hx hb dX0_hearVote_17 (lv_at hl 0 rfl) ?_
    refine gf_X0_54 hx hb hta hown hK hP (am_wo (i := (33 + k1)) (by omega) (am_s_tx ca hk1)) (am_fvi rfl) dX0_hearVote_19 ?_
    refine lv_iload_n hx hb dX0_hearVote_22 rfl (lv_at hl 3 rfl) ?_
    refine am_calli (va_runS (As := [.int (nI (M.1 9 k1 2)), .int x2]) (rest := []) ⟨hx, hb, hml, hown, hts⟩ (c_X0_isIn l dC dI ca ad hI M (nI (M.1 9 k1 2)) x2 _ h) ⟨callB_of 2 hts (am_gd mc_X0_isIn) rfl rfl rfl (hta _ mn_X0) (hta _ ml_X0_57) dc_X0_isIn ⟨Nat.le_of_ble_eq_true rfl, Nat.le_of_ble_eq_true rfl⟩, hta _ ms_X0_isIn⟩ (am_preS hK hN hP) rfl rfl hl.1 rfl (lv_room (Nat.le_of_ble_eq_true rfl)) dX0_hearVote_23 ⟨Nat.zero_le _, Nat.zero_le _⟩) hS (fun y3 M2 H locs hP hS h => ?_)
    refine lv_if_ne (tgt := 30) hx hb dX0_hearVote_26 rfl (fun hc => ?_) (fun hc => ?_)
    · replace h := h.1 hc
      clear hc
      refine lv_iload_n hx hb dX0_hearVote_30 rfl (lv_at hl 2 rfl) ?_
      refine lv_iconst (v := (nI 4)) hx hb dX0_hearVote_31 rfl ?_
      refine lv_icmp_ne (tgt := 46) hx hb dX0_hearVote_32 rfl (fun hc => ?_) (fun hc => ?_)
      · replace h := h.1 hc
        clear hc
        refine lv_iload_n hx hb dX0_hearVote_46 rfl (lv_at hl 2 rfl) ?_
        refine lv_iconst (v := (nI 2)) hx hb dX0_hearVote_47 rfl ?_
        refine lv_icmp_ne (tgt := 68) hx hb dX0_hearVote_48 rfl (fun hc => ?_) (fun hc => ?_)
        · replace h := h.1 hc
          clear hc
          refine lv_aload hx hb dX0_hearVote_68 (lv_at hl 0 rfl) ?_
          refine lv_dup hx hb dX0_hearVote_70 rfl ?_
          refine gf_X0_130 hx hb hta hown hK hP (am_wo (i := (33 + k1)) (by omega) (am_s_tx ca hk1)) (am_fvi rfl) dX0_hearVote_71 ?_
          refine lv_iload_n hx hb dX0_hearVote_74 rfl (lv_at hl 3 rfl) ?_
          refine am_calli (va_runS (As := [.int x2]) (rest := [.int (nI (M2.1 9 k1 4)), .ref (ad (33 + k1))]) ⟨hx, hb, hml, hown, hts⟩ (c_X0_only l dC dI ca ad hI M2 x2 _ h) ⟨callB_of 1 hts (am_gd mc_X0_only) rfl rfl rfl (hta _ mn_X0) (hta _ ml_X0_65) dc_X0_only ⟨Nat.le_of_ble_eq_true rfl, Nat.le_of_ble_eq_true rfl⟩, hta _ ms_X0_only⟩ (am_preS hK hN hP) rfl rfl hl.1 rfl (lv_room (Nat.le_of_ble_eq_true rfl)) dX0_hearVote_75 ⟨Nat.zero_le _, Nat.zero_le _⟩) hS (fun y5 M4 H locs hP hS h => ?_)
          refine lv_ior hx hb dX0_hearVote_78 ?_
          refine pf_X0_130 hx hb hta hown hK hP hI hS (i := (33 + k1)) (by omega) (am_s_tx ca hk1) h dX0_hearVote_79 (fun M6 H locs hP hS h => ?_)
          exact J82 k1 hk1 M6 x1 x2 x3 ls H locs h hP hS (lv_sub hl [1, 2, 3, 4, 0] rfl)
        · replace h := h.2 hc
          clear hc
          refine lv_aload hx hb dX0_hearVote_51 (lv_at hl 0 rfl) ?_
          refine lv_dup hx hb dX0_hearVote_53 rfl ?_
          refine gf_X0_127 hx hb hta hown hK hP (am_wo (i := (33 + k1)) (by omega) (am_s_tx ca hk1)) (am_fvi rfl) dX0_hearVote_54 ?_
          refine lv_iload_n hx hb dX0_hearVote_57 rfl (lv_at hl 3 rfl) ?_
          refine am_calli (va_runS (As := [.int x2]) (rest := [.int (nI (M2.1 9 k1 3)), .ref (ad (33 + k1))]) ⟨hx, hb, hml, hown, hts⟩ (c_X0_only l dC dI ca ad hI M2 x2 _ h) ⟨callB_of 1 hts (am_gd mc_X0_only) rfl rfl rfl (hta _ mn_X0) (hta _ ml_X0_65) dc_X0_only ⟨Nat.le_of_ble_eq_true rfl, Nat.le_of_ble_eq_true rfl⟩, hta _ ms_X0_only⟩ (am_preS hK hN hP) rfl rfl hl.1 rfl (lv_room (Nat.le_of_ble_eq_true rfl)) dX0_hearVote_58 ⟨Nat.zero_le _, Nat.zero_le _⟩) hS (fun y16 M15 H locs hP hS h => ?_)
          refine lv_ior hx hb dX0_hearVote_61 ?_
          refine pf_X0_127 hx hb hta hown hK hP hI hS (i := (33 + k1)) (by omega) (am_s_tx ca hk1) h dX0_hearVote_62 (fun M17 H locs hP hS h => ?_)
          refine lv_goto (tgt := 82) hx hb dX0_hearVote_65 rfl ?_
          exact J82 k1 hk1 M17 x1 x2 x3 ls H locs h hP hS (lv_sub hl [1, 2, 3, 4, 0] rfl)
      · replace h := h.2 hc
        clear hc
        refine lv_aload_n hx hb dX0_hearVote_35 rfl (lv_at hl 1 rfl) ?_
        refine lv_iload_n hx hb dX0_hearVote_36 rfl (lv_at hl 4 rfl) ?_
        refine lv_iload_n hx hb dX0_hearVote_37 rfl (lv_at hl 3 rfl) ?_
        refine am_calli (va_runS (As := [.int x2]) (rest := [.int x3, .ref (ad 0)]) ⟨hx, hb, hml, hown, hts⟩ (c_X0_only l dC dI ca ad hI M2 x2 _ h) ⟨callB_of 1 hts (am_gd mc_X0_only) rfl rfl rfl (hta _ mn_X0) (hta _ ml_X0_65) dc_X0_only ⟨Nat.le_of_ble_eq_true rfl, Nat.le_of_ble_eq_true rfl⟩, hta _ ms_X0_only⟩ (am_preS hK hN hP) rfl rfl hl.1 rfl (lv_room (Nat.le_of_ble_eq_true rfl)) dX0_hearVote_38 ⟨Nat.zero_le _, Nat.zero_le _⟩) hS (fun y19 M18 H locs hP hS h => ?_)
        refine am_calli (va_runV (C := RX0) (As := [.int x3, .int y19]) (rest := []) ⟨hx, hb, hml, hown, hts⟩ (c_X0_giveUp l dC dI ca ad hI M18 x3 y19 _ h) ⟨callB_of 2 hts (am_gd mc_X0_giveUp) rfl rfl rfl (hta _ mn_X0) (hta _ ml_X0_84) dc_X0_giveUp ⟨Nat.le_of_ble_eq_true rfl, Nat.le_of_ble_eq_true rfl⟩, hta _ mi_X0_giveUp, hta _ me_X0_giveUp⟩ (am_preV (q := (RX0, TX0, 4)) hK hN hP rfl (by decide) (am_s_outer ca)) rfl rfl hl.1 rfl (lv_room (Nat.le_of_ble_eq_true rfl)) dX0_hearVote_41 ⟨Nat.zero_le _, Nat.zero_le _⟩) hS (fun y21 M20 H locs hP hS h => ?_)
        refine lv_pop hx hb dX0_hearVote_44 rfl ?_
        exact am_vret hx hb hr hK hN hP hS h hlocks dX0_hearVote_45
    · replace h := h.2 hc
      clear hc
      exact am_vret hx hb hr hK hN hP hS h hlocks dX0_hearVote_29
