/-! words of the makings -/
theorem mq_L_7 : Cond.classLink RL 7 RX0 ∈ am_all := am_in 8 (by decide +kernel) rfl
theorem mt_X0 : Cond.instantiable RX0 4 ∈ am_all := am_in 9 (by decide +kernel) rfl
theorem mo_X0 : Cond.methodLink RX0 1 objectInit ∈ am_all := am_in 13 (by decide +kernel) rfl
theorem mi_obj : Cond.instanceMethod objectInit ∈ am_all := am_in 14 (by decide +kernel) rfl
set_option maxRecDepth 100000 in
theorem mc_obj : Cond.code objectInit ⟨#[0xb1]⟩ 1 none ∈ am_all := am_in 15 rfl rfl
theorem mq_X0_9 : Cond.classLink RX0 9 RX3 ∈ am_all := am_in 16 (by decide +kernel) rfl
theorem mt_X3 : Cond.instantiable RX3 4 ∈ am_all := am_in 18 (by decide +kernel) rfl
theorem mo_X3 : Cond.methodLink RX3 3 objectInit ∈ am_all := am_in 22 (by decide +kernel) rfl
theorem mq_X3_22 : Cond.classLink RX3 22 RX1 ∈ am_all := am_in 23 (by decide +kernel) rfl
theorem mt_X1 : Cond.instantiable RX1 5 ∈ am_all := am_in 24 (by decide +kernel) rfl
theorem mo_X1 : Cond.methodLink RX1 3 objectInit ∈ am_all := am_in 28 (by decide +kernel) rfl
theorem ma_int : Cond.arrayClass .int ∈ am_all := am_in 51 (by decide +kernel) rfl
theorem mq_X0_16 : Cond.classLink RX0 16 RX4 ∈ am_all := am_in 68 (by decide +kernel) rfl
theorem mt_X4 : Cond.instantiable RX4 6 ∈ am_all := am_in 70 (by decide +kernel) rfl
theorem mo_X4 : Cond.methodLink RX4 3 objectInit ∈ am_all := am_in 74 (by decide +kernel) rfl
theorem mq_X0_23 : Cond.classLink RX0 23 RX2 ∈ am_all := am_in 99 (by decide +kernel) rfl
theorem mt_X2 : Cond.instantiable RX2 2 ∈ am_all := am_in 100 (by decide +kernel) rfl
theorem mo_X2 : Cond.methodLink RX2 3 objectInit ∈ am_all := am_in 104 (by decide +kernel) rfl
theorem mq_X2_9 : Cond.classLink RX2 9 ("[" ++ (FieldType.array .int).toString) ∈ am_all := am_in 105 (by decide +kernel) rfl
theorem mq_L_10 : Cond.classLink RL 10 RX5 ∈ am_all := am_in 357 (by decide +kernel) rfl
theorem mt_X5 : Cond.instantiable RX5 21 ∈ am_all := am_in 358 (by decide +kernel) rfl
theorem mo_X5 : Cond.methodLink RX5 1 objectInit ∈ am_all := am_in 362 (by decide +kernel) rfl
theorem ma_boolean : Cond.arrayClass .boolean ∈ am_all := am_in 427 (by decide +kernel) rfl
theorem hf_X0 : ∀ j, j < 4 → defaultValue (tyX0 j) = vp_V [.null, .null, .null, .int 0] j := by
  intro j hj
  have h : j = 0 ∨ j = 1 ∨ j = 2 ∨ j = 3 := by omega
  rcases h with rfl | rfl | rfl | rfl <;> rfl
theorem hf_X1 : ∀ j, j < 5 → defaultValue (tyX1 j) = vp_V [.null, .null, .int 0, .int 0, .int 0] j := by
  intro j hj
  have h : j = 0 ∨ j = 1 ∨ j = 2 ∨ j = 3 ∨ j = 4 := by omega
  rcases h with rfl | rfl | rfl | rfl | rfl <;> rfl
theorem hf_X2 : ∀ j, j < 2 → defaultValue (tyX2 j) = vp_V [.null, .int 0] j := by
  intro j hj
  have h : j = 0 ∨ j = 1 := by omega
  rcases h with rfl | rfl <;> rfl
theorem hf_X3 : ∀ j, j < 4 → defaultValue (tyX3 j) = vp_V [.int 0, .null, .null, .null] j := by
  intro j hj
  have h : j = 0 ∨ j = 1 ∨ j = 2 ∨ j = 3 := by omega
  rcases h with rfl | rfl | rfl | rfl <;> rfl
theorem hf_X4 : ∀ j, j < 6 → defaultValue (tyX4 j) = vp_V [.int 0, .int 0, .int 0, .int 0, .int 0, .int 0] j := by
  intro j hj
  have h : j = 0 ∨ j = 1 ∨ j = 2 ∨ j = 3 ∨ j = 4 ∨ j = 5 := by omega
  rcases h with rfl | rfl | rfl | rfl | rfl | rfl <;> rfl
theorem hf_X5 : ∀ j, j < 21 → defaultValue (tyX5 j) = vp_V [.null, .null, .int 0, .null, .null, .null, .null, .null, .null, .null, .null, .null, .null, .null, .null, .null, .int 0, .null, .null, .null, .null] j := by
  intro j hj
  have h : j = 0 ∨ j = 1 ∨ j = 2 ∨ j = 3 ∨ j = 4 ∨ j = 5 ∨ j = 6 ∨ j = 7 ∨ j = 8 ∨ j = 9 ∨ j = 10 ∨ j = 11 ∨ j = 12 ∨ j = 13 ∨ j = 14 ∨ j = 15 ∨ j = 16 ∨ j = 17 ∨ j = 18 ∨ j = 19 ∨ j = 20 := by omega
  rcases h with rfl | rfl | rfl | rfl | rfl | rfl | rfl | rfl | rfl | rfl | rfl | rfl | rfl | rfl | rfl | rfl | rfl | rfl | rfl | rfl | rfl <;> rfl
/-- the start and the end of a constructor -/
abbrev am_PI (dC : Nat → ClassId) (dI : Nat → Nat → Nat) (ca : Nat → ClassId) (q ci : Nat) (fs : List Value) (sz : Nat) (U : State) : Prop := U.heap.size = sz ∧ va_P (dC, dI) vwCl [(q, .inr (ci, fs))] U.heap ∧ va_K (dC, dI) vwCl (am_ty ca) U ∧ am_N2 U ∧ va_D (fun _ => True) [(q, .inr (ci, fs))]
abbrev am_AI (q ci : Nat) (fs : List Value) (sz : Nat) : Nat → Prop := va_A [(q, .inr (ci, fs))] sz
abbrev am_QI (dC : Nat → ClassId) (dI : Nat → Nat → Nat) (q ci : Nat) (fs : List Value) (sz : Nat) (cells : (Nat → Nat) → va_W) : Array Value → State → Outcome → State → Prop := va_Qv (fun _ : Nat → Nat => True) (fun u t => va_P (dC, dI) vwCl (cells u) t.heap ∧ va_D (am_AI q ci fs sz) (cells u)) (am_AI q ci fs sz)
theorem am_preI {s : State} {H : Heap} {dC : Nat → ClassId} {dI : Nat → Nat → Nat} {ca : Nat → ClassId} {A : Nat → Prop} {q ci : Nat} {fs : List Value} (hK : va_K (dC, dI) vwCl (am_ty ca) s) (hN : am_N2 s) (hP : va_P (dC, dI) vwCl [(q, .inr (ci, fs))] H) (hD : va_D A [(q, .inr (ci, fs))]) : PreS s H (va_Pc [.ref q] (am_PI dC dI ca q ci fs H.size)) [.ref q] :=
  ⟨fun a U g mk z => by
    obtain ⟨z0, z1, zP, zK, zN, zD⟩ := z
    exact ⟨z0, z1, zP, va_K.moved (u := U) (U := U.calling g mk a) (Vm.Alike.refl U.vm) zK, zN.same rfl, zD⟩, fun U hU hW => ⟨rfl, by rw [hU], by rw [hU]; exact hP, va_K.moved hW.alike hK, hN.warm hW, hD.weaken (fun _ _ _ _ => trivial)⟩⟩
set_option maxHeartbeats 4000000 in
set_option maxRecDepth 100000 in
theorem c_X1_init (l : Launch) (dC : Nat → ClassId) (dI : Nat → Nat → Nat) (ca : Nat → ClassId) (h0 sz : Nat) : Met l yX1_init wsX1_init ({ frames := 1, cells := 2, slots := 120, locals := 12 }) (va_Pc [.ref h0] (am_PI dC dI ca h0 1 [.null, .null, .int 0, .int 0, .int 0] sz)) (am_QI dC dI h0 1 [.null, .null, .int 0, .int 0, .int 0] sz (fun u : Nat → Nat => [(h0, .inr (1, [.ref (u 0), .ref (u 1), .int 0, .int 0, .int 0])), (u 0, .inl (ca 0, 60, .inl (fun _ => 0))), (u 1, .inl (ca 0, 60, .inl (fun _ => 0)))])) 2 120 (am_AI h0 1 [.null, .null, .int 0, .int 0, .int 0] sz) := by
  refine Met.ofW (cc := cX1_init) (maxL := 1) (ret := none) (by decide) rfl ?_
  intro p e s m args below meth c s₁ B hml hv
  obtain ⟨rfl, hsz, hP, hK, hN2, hD0⟩ := hv
  have hx := B.exec
  have hb := B.bytes
  have hr := B.returns
  have hts := atoms_spec (ws := wsX1_init) B.pre
  have hta : ∀ w ∈ am_all, w.before _ s = true := fun w hw => hts w (List.mem_cons_of_mem _ hw)
  have hown : s.vm.findClass RX1 = some m.cls := findClass_of_methodNamed B.named
  have hlocks := B.notSynchronized
  have hin : meth.name = "<init>" := (name_of_methodNamed B.named B.method).1
  subst hsz
  obtain ⟨A, hAe⟩ : ∃ A, A = am_AI h0 1 [.null, .null, .int 0, .int 0, .int 0] s.heap.size := ⟨_, rfl⟩
  have hD : va_D A [(h0, .inr (1, [.null, .null, .int 0, .int 0, .int 0]))] := by rw [hAe]; exact hD0.self
  have hA : ∀ q : Nat, s.heap.size ≤ q → A q := fun q h => by rw [hAe]; exact Or.inr h
  have hS : va_S A s.heap s.heap [] := va_S.rf
  have hl := lv_entry ([.ref h0]) (n := 1) (Nat.le_of_ble_eq_true rfl)
  rw [lg_entry_eq]
  generalize (lg_sl ([.ref h0]) ++ List.replicate (1 - (lg_sl ([.ref h0])).length) Slot.unset).toArray = ls at hl ⊢
  have hl : lv_has ls 1 [(0, .ref h0)] := hl
  have hP : va_P (dC, dI) vwCl [(h0, .inr (1, [.null, .null, .int 0, .int 0, .int 0]))] s.heap := hP
  refine lv_aload_n hx hb dX1_init_0 rfl (lv_at hl 0 rfl) ?_
  refine W.objInit hx hb hown (hta _ mo_X1) (hta _ mi_obj) (hta _ mc_obj) rfl (by rw [hml]; exact hl.1) rfl dX1_init_1 (Nat.le_of_ble_eq_true rfl) (Nat.le_of_ble_eq_true rfl) ?_
  refine W.eq (g2 := F0 m 4 ls []) rfl ?_
  refine lv_aload_n hx hb dX1_init_4 rfl (lv_at hl 0 rfl) ?_
  refine lv_bipush (v := nI 60) hx hb dX1_init_5 rfl ?_
  refine am_newa (atype := .int) (N := 60) hx hb (hta _ ma_int) rfl hK hP hD hS hA 0 rfl rfl (by decide) (by decide) (Nat.le_of_ble_eq_true rfl) (Nat.le_of_ble_eq_true rfl) dX1_init_7 (fun a1 H hP hD hS => ?_)
  have hP : va_P (dC, dI) vwCl [(h0, .inr (1, [.null, .null, .int 0, .int 0, .int 0])), (a1, .inl (ca 0, 60, .inl (fun _ => 0)))] H := hP
  have hD : va_D A [(h0, .inr (1, [.null, .null, .int 0, .int 0, .int 0])), (a1, .inl (ca 0, 60, .inl (fun _ => 0)))] := hD
  refine W.widen (k := 1) (n := 60) (Nat.le_of_ble_eq_true rfl) (Nat.le_of_ble_eq_true rfl) ?_
  refine va_putF (D := (dC, dI)) (ci := 1) (v := .ref a1) (ty := .array .int) (C := RX1) (T := TX1) (N := 5) hx hb hta mu_X1 tyX1 tyX1_ok nmX1 hown hK hP hD hS 0 rfl rfl 0 (by decide) (hta _ mf_X1_9) (fun _ h9 => h9) rfl hin rfl (by decide +kernel) rfl rfl (Nat.le_of_ble_eq_true rfl) dX1_init_9 (fun H locs hP hD hS => ?_)
  have hP : va_P (dC, dI) vwCl [(h0, .inr (1, [.ref a1, .null, .int 0, .int 0, .int 0])), (a1, .inl (ca 0, 60, .inl (fun _ => 0)))] H := hP
  have hD : va_D A [(h0, .inr (1, [.ref a1, .null, .int 0, .int 0, .int 0])), (a1, .inl (ca 0, 60, .inl (fun _ => 0)))] := hD
  refine lv_aload_n hx hb dX1_init_12 rfl (lv_at hl 0 rfl) ?_
  refine lv_bipush (v := nI 60) hx hb dX1_init_13 rfl ?_
  refine am_newa (atype := .int) (N := 60) hx hb (hta _ ma_int) rfl hK hP hD hS hA 0 rfl rfl (by decide) (by decide) (Nat.le_of_ble_eq_true rfl) (Nat.le_of_ble_eq_true rfl) dX1_init_15 (fun a2 H hP hD hS => ?_)
  have hP : va_P (dC, dI) vwCl [(h0, .inr (1, [.ref a1, .null, .int 0, .int 0, .int 0])), (a1, .inl (ca 0, 60, .inl (fun _ => 0))), (a2, .inl (ca 0, 60, .inl (fun _ => 0)))] H := hP
  have hD : va_D A [(h0, .inr (1, [.ref a1, .null, .int 0, .int 0, .int 0])), (a1, .inl (ca 0, 60, .inl (fun _ => 0))), (a2, .inl (ca 0, 60, .inl (fun _ => 0)))] := hD
  refine W.widen (k := 2) (n := 120) (Nat.le_of_ble_eq_true rfl) (Nat.le_of_ble_eq_true rfl) ?_
  refine va_putF (D := (dC, dI)) (ci := 1) (v := .ref a2) (ty := .array .int) (C := RX1) (T := TX1) (N := 5) hx hb hta mu_X1 tyX1 tyX1_ok nmX1 hown hK hP hD hS 0 rfl rfl 1 (by decide) (hta _ mf_X1_15) (fun _ h9 => h9) rfl hin rfl (by decide +kernel) rfl rfl (Nat.le_of_ble_eq_true rfl) dX1_init_17 (fun H locs hP hD hS => ?_)
  have hP : va_P (dC, dI) vwCl [(h0, .inr (1, [.ref a1, .ref a2, .int 0, .int 0, .int 0])), (a1, .inl (ca 0, 60, .inl (fun _ => 0))), (a2, .inl (ca 0, 60, .inl (fun _ => 0)))] H := hP
  have hD : va_D A [(h0, .inr (1, [.ref a1, .ref a2, .int 0, .int 0, .int 0])), (a1, .inl (ca 0, 60, .inl (fun _ => 0))), (a2, .inl (ca 0, 60, .inl (fun _ => 0)))] := hD
  subst hAe
  exact W.vret hx hb hr (fun t ht hW => ⟨⟨(fun i => ([a1, a2] : List Nat).getD i 0), rfl, trivial, by rw [ht]; exact hP, hD⟩, hS.F ht⟩) hS.2.2 dX1_init_20 hlocks
set_option maxHeartbeats 4000000 in
set_option maxRecDepth 100000 in
theorem c_X4_init (l : Launch) (dC : Nat → ClassId) (dI : Nat → Nat → Nat) (ca : Nat → ClassId) (h0 sz : Nat) : Met l yX4_init wsX4_init ({ frames := 1, cells := 0, slots := 0, locals := 12 }) (va_Pc [.ref h0] (am_PI dC dI ca h0 4 [.int 0, .int 0, .int 0, .int 0, .int 0, .int 0] sz)) (am_QI dC dI h0 4 [.int 0, .int 0, .int 0, .int 0, .int 0, .int 0] sz (fun u : Nat → Nat => [(h0, .inr (4, [.int 0, .int 0, .int 0, .int 0, .int 0, .int 0]))])) 0 0 (am_AI h0 4 [.int 0, .int 0, .int 0, .int 0, .int 0, .int 0] sz) := by
  refine Met.ofW (cc := cX4_init) (maxL := 1) (ret := none) (by decide) rfl ?_
  intro p e s m args below meth c s₁ B hml hv
  obtain ⟨rfl, hsz, hP, hK, hN2, hD0⟩ := hv
  have hx := B.exec
  have hb := B.bytes
  have hr := B.returns
  have hts := atoms_spec (ws := wsX4_init) B.pre
  have hta : ∀ w ∈ am_all, w.before _ s = true := fun w hw => hts w (List.mem_cons_of_mem _ hw)
  have hown : s.vm.findClass RX4 = some m.cls := findClass_of_methodNamed B.named
  have hlocks := B.notSynchronized
  have hin : meth.name = "<init>" := (name_of_methodNamed B.named B.method).1
  subst hsz
  obtain ⟨A, hAe⟩ : ∃ A, A = am_AI h0 4 [.int 0, .int 0, .int 0, .int 0, .int 0, .int 0] s.heap.size := ⟨_, rfl⟩
  have hD : va_D A [(h0, .inr (4, [.int 0, .int 0, .int 0, .int 0, .int 0, .int 0]))] := by rw [hAe]; exact hD0.self
  have hA : ∀ q : Nat, s.heap.size ≤ q → A q := fun q h => by rw [hAe]; exact Or.inr h
  have hS : va_S A s.heap s.heap [] := va_S.rf
  have hl := lv_entry ([.ref h0]) (n := 1) (Nat.le_of_ble_eq_true rfl)
  rw [lg_entry_eq]
  generalize (lg_sl ([.ref h0]) ++ List.replicate (1 - (lg_sl ([.ref h0])).length) Slot.unset).toArray = ls at hl ⊢
  have hl : lv_has ls 1 [(0, .ref h0)] := hl
  have hP : va_P (dC, dI) vwCl [(h0, .inr (4, [.int 0, .int 0, .int 0, .int 0, .int 0, .int 0]))] s.heap := hP
  refine lv_aload_n hx hb dX4_init_0 rfl (lv_at hl 0 rfl) ?_
  refine W.objInit hx hb hown (hta _ mo_X4) (hta _ mi_obj) (hta _ mc_obj) rfl (by rw [hml]; exact hl.1) rfl dX4_init_1 (Nat.le_of_ble_eq_true rfl) (Nat.le_of_ble_eq_true rfl) ?_
  refine W.eq (g2 := F0 m 4 ls []) rfl ?_
  subst hAe
  exact W.vret hx hb hr (fun t ht hW => ⟨⟨(fun i => ([] : List Nat).getD i 0), rfl, trivial, by rw [ht]; exact hP, hD⟩, hS.F ht⟩) hS.2.2 dX4_init_4 hlocks
set_option maxHeartbeats 4000000 in
set_option maxRecDepth 100000 in
theorem c_X3_init (l : Launch) (dC : Nat → ClassId) (dI : Nat → Nat → Nat) (ca : Nat → ClassId) (h0 sz : Nat) : Met l yX3_init wsX3_init ({ frames := 2, cells := 5, slots := 145, locals := 32 }) (va_Pc [.ref h0] (am_PI dC dI ca h0 3 [.int 0, .null, .null, .null] sz)) (am_QI dC dI h0 3 [.int 0, .null, .null, .null] sz (fun u : Nat → Nat => [(h0, .inr (3, [.int (nI 1), .ref (u 0), .ref (u 1), .ref (u 2)])), (u 0, .inl (ca 0, 10, .inl (fun _ => 0))), (u 1, .inl (ca 0, 10, .inl (fun _ => 0))), (u 2, .inr (1, [.ref ((u 3)), .ref ((u 4)), .int 0, .int 0, .int 0])), (u 3, .inl (ca 0, 60, .inl (fun _ => 0))), (u 4, .inl (ca 0, 60, .inl (fun _ => 0)))])) 5 145 (am_AI h0 3 [.int 0, .null, .null, .null] sz) := by
  refine Met.ofW (cc := cX3_init) (maxL := 1) (ret := none) (by decide) rfl ?_
  intro p e s m args below meth c s₁ B hml hv
  obtain ⟨rfl, hsz, hP, hK, hN2, hD0⟩ := hv
  have hx := B.exec
  have hb := B.bytes
  have hr := B.returns
  have hts := atoms_spec (ws := wsX3_init) B.pre
  have hta : ∀ w ∈ am_all, w.before _ s = true := fun w hw => hts w (List.mem_cons_of_mem _ hw)
  have hown : s.vm.findClass RX3 = some m.cls := findClass_of_methodNamed B.named
  have hlocks := B.notSynchronized
  have hin : meth.name = "<init>" := (name_of_methodNamed B.named B.method).1
  subst hsz
  obtain ⟨A, hAe⟩ : ∃ A, A = am_AI h0 3 [.int 0, .null, .null, .null] s.heap.size := ⟨_, rfl⟩
  have hD : va_D A [(h0, .inr (3, [.int 0, .null, .null, .null]))] := by rw [hAe]; exact hD0.self
  have hA : ∀ q : Nat, s.heap.size ≤ q → A q := fun q h => by rw [hAe]; exact Or.inr h
  have hS : va_S A s.heap s.heap [] := va_S.rf
  have hl := lv_entry ([.ref h0]) (n := 1) (Nat.le_of_ble_eq_true rfl)
  rw [lg_entry_eq]
  generalize (lg_sl ([.ref h0]) ++ List.replicate (1 - (lg_sl ([.ref h0])).length) Slot.unset).toArray = ls at hl ⊢
  have hl : lv_has ls 1 [(0, .ref h0)] := hl
  have hP : va_P (dC, dI) vwCl [(h0, .inr (3, [.int 0, .null, .null, .null]))] s.heap := hP
  refine lv_aload_n hx hb dX3_init_0 rfl (lv_at hl 0 rfl) ?_
  refine W.objInit hx hb hown (hta _ mo_X3) (hta _ mi_obj) (hta _ mc_obj) rfl (by rw [hml]; exact hl.1) rfl dX3_init_1 (Nat.le_of_ble_eq_true rfl) (Nat.le_of_ble_eq_true rfl) ?_
  refine W.eq (g2 := F0 m 4 ls []) rfl ?_
  refine lv_aload_n hx hb dX3_init_4 rfl (lv_at hl 0 rfl) ?_
  refine lv_iconst (v := nI 1) hx hb dX3_init_5 rfl ?_
  refine va_put (D := (dC, dI)) (ci := 3) (v := .int (nI 1)) (ty := .boolean) (C := RX3) (T := TX3) (N := 4) hx hb hta mu_X3 tyX3 tyX3_ok nmX3 hown hK hP hD hS 0 rfl rfl 0 (by decide) (hta _ mf_X3_9) (fun _ h9 => h9) rfl (by decide +kernel) rfl rfl (Nat.le_of_ble_eq_true rfl) dX3_init_6 (fun H locs hP hD hS => ?_)
  have hP : va_P (dC, dI) vwCl [(h0, .inr (3, [.int (nI 1), .null, .null, .null]))] H := hP
  have hD : va_D A [(h0, .inr (3, [.int (nI 1), .null, .null, .null]))] := hD
  refine lv_aload_n hx hb dX3_init_9 rfl (lv_at hl 0 rfl) ?_
  refine lv_bipush (v := nI 10) hx hb dX3_init_10 rfl ?_
  refine am_newa (atype := .int) (N := 10) hx hb (hta _ ma_int) rfl hK hP hD hS hA 0 rfl rfl (by decide) (by decide) (Nat.le_of_ble_eq_true rfl) (Nat.le_of_ble_eq_true rfl) dX3_init_12 (fun a1 H hP hD hS => ?_)
  have hP : va_P (dC, dI) vwCl [(h0, .inr (3, [.int (nI 1), .null, .null, .null])), (a1, .inl (ca 0, 10, .inl (fun _ => 0)))] H := hP
  have hD : va_D A [(h0, .inr (3, [.int (nI 1), .null, .null, .null])), (a1, .inl (ca 0, 10, .inl (fun _ => 0)))] := hD
  refine W.widen (k := 1) (n := 10) (Nat.le_of_ble_eq_true rfl) (Nat.le_of_ble_eq_true rfl) ?_
  refine va_putF (D := (dC, dI)) (ci := 3) (v := .ref a1) (ty := .array .int) (C := RX3) (T := TX3) (N := 4) hx hb hta mu_X3 tyX3 tyX3_ok nmX3 hown hK hP hD hS 0 rfl rfl 1 (by decide) (hta _ mf_X3_15) (fun _ h9 => h9) rfl hin rfl (by decide +kernel) rfl rfl (Nat.le_of_ble_eq_true rfl) dX3_init_14 (fun H locs hP hD hS => ?_)
  have hP : va_P (dC, dI) vwCl [(h0, .inr (3, [.int (nI 1), .ref a1, .null, .null])), (a1, .inl (ca 0, 10, .inl (fun _ => 0)))] H := hP
  have hD : va_D A [(h0, .inr (3, [.int (nI 1), .ref a1, .null, .null])), (a1, .inl (ca 0, 10, .inl (fun _ => 0)))] := hD
  refine lv_aload_n hx hb dX3_init_17 rfl (lv_at hl 0 rfl) ?_
  refine lv_bipush (v := nI 10) hx hb dX3_init_18 rfl ?_
  refine am_newa (atype := .int) (N := 10) hx hb (hta _ ma_int) rfl hK hP hD hS hA 0 rfl rfl (by decide) (by decide) (Nat.le_of_ble_eq_true rfl) (Nat.le_of_ble_eq_true rfl) dX3_init_20 (fun a2 H hP hD hS => ?_)
  have hP : va_P (dC, dI) vwCl [(h0, .inr (3, [.int (nI 1), .ref a1, .null, .null])), (a1, .inl (ca 0, 10, .inl (fun _ => 0))), (a2, .inl (ca 0, 10, .inl (fun _ => 0)))] H := hP
  have hD : va_D A [(h0, .inr (3, [.int (nI 1), .ref a1, .null, .null])), (a1, .inl (ca 0, 10, .inl (fun _ => 0))), (a2, .inl (ca 0, 10, .inl (fun _ => 0)))] := hD
  refine W.widen (k := 2) (n := 20) (Nat.le_of_ble_eq_true rfl) (Nat.le_of_ble_eq_true rfl) ?_
  refine va_putF (D := (dC, dI)) (ci := 3) (v := .ref a2) (ty := .array .int) (C := RX3) (T := TX3) (N := 4) hx hb hta mu_X3 tyX3 tyX3_ok nmX3 hown hK hP hD hS 0 rfl rfl 2 (by decide) (hta _ mf_X3_19) (fun _ h9 => h9) rfl hin rfl (by decide +kernel) rfl rfl (Nat.le_of_ble_eq_true rfl) dX3_init_22 (fun H locs hP hD hS => ?_)
  have hP : va_P (dC, dI) vwCl [(h0, .inr (3, [.int (nI 1), .ref a1, .ref a2, .null])), (a1, .inl (ca 0, 10, .inl (fun _ => 0))), (a2, .inl (ca 0, 10, .inl (fun _ => 0)))] H := hP
  have hD : va_D A [(h0, .inr (3, [.int (nI 1), .ref a1, .ref a2, .null])), (a1, .inl (ca 0, 10, .inl (fun _ => 0))), (a2, .inl (ca 0, 10, .inl (fun _ => 0)))] := hD
  refine lv_aload_n hx hb dX3_init_25 rfl (lv_at hl 0 rfl) ?_
  refine va_new (ci := 1) (fs := [.null, .null, .int 0, .int 0, .int 0]) (C := RX1) (T := TX1) (N := 5) hx hb hta mu_X1 tyX1 tyX1_ok hown (hta _ mq_X3_22) (hta _ mt_X1) (hta _ mn_X1) hK hP hD hS hA rfl hf_X1 (Nat.le_of_ble_eq_true rfl) (Nat.le_of_ble_eq_true rfl) dX3_init_26 (fun a3 H hP hD hS => ?_)
  have hP : va_P (dC, dI) vwCl [(h0, .inr (3, [.int (nI 1), .ref a1, .ref a2, .null])), (a1, .inl (ca 0, 10, .inl (fun _ => 0))), (a2, .inl (ca 0, 10, .inl (fun _ => 0))), (a3, .inr (1, [.null, .null, .int 0, .int 0, .int 0]))] H := hP
  have hD : va_D A [(h0, .inr (3, [.int (nI 1), .ref a1, .ref a2, .null])), (a1, .inl (ca 0, 10, .inl (fun _ => 0))), (a2, .inl (ca 0, 10, .inl (fun _ => 0))), (a3, .inr (1, [.null, .null, .int 0, .int 0, .int 0]))] := hD
  refine W.widen (k := 3) (n := 25) (Nat.le_of_ble_eq_true rfl) (Nat.le_of_ble_eq_true rfl) ?_
  refine lv_dup hx hb dX3_init_29 rfl ?_
  have hPc := hP.sub (ws' := [(a3, .inr (1, [.null, .null, .int 0, .int 0, .int 0]))]) [3] rfl
  have hDc := hD.sub (ws' := [(a3, .inr (1, [.null, .null, .int 0, .int 0, .int 0]))]) [3] (by decide) rfl
  have hFc := va_free (wc := [(a3, .inr (1, [.null, .null, .int 0, .int 0, .int 0]))]) hD hS hA [3] rfl
  refine va_callv (va_runIN (As := []) (rest := [.ref a3, .ref h0]) ⟨hx, hb, hml, hown, hts⟩ (c_X1_init l dC dI ca a3 H.size) ⟨va_cnB 0 hts (am_gd mc_X1_init) rfl rfl rfl hN2.2.1 (hta _ mn_X1) dc_X1_init ⟨(Nat.le_of_ble_eq_true rfl), (Nat.le_of_ble_eq_true rfl)⟩, rfl, hta _ mi_X1_init⟩ (am_preI hK hN2 hPc hDc) rfl rfl hl.1 rfl (lv_room (Nat.le_of_ble_eq_true rfl)) dX3_init_30 ⟨(Nat.le_of_ble_eq_true rfl), (Nat.le_of_ble_eq_true rfl)⟩) hS (fun q _ h => hFc q h) hFc (fun u4 t H1 locs ht hvm h5 hB hz1 hk1 hS => ?_)
  obtain ⟨hP1, hD1⟩ := hB
  rw [ht] at hP1
  obtain ⟨hP, hD⟩ := va_join (wr := [(h0, .inr (3, [.int (nI 1), .ref a1, .ref a2, .null])), (a1, .inl (ca 0, 10, .inl (fun _ => 0))), (a2, .inl (ca 0, 10, .inl (fun _ => 0)))]) (w1 := [(a3, .inr (1, [.ref (u4 0), .ref (u4 1), .int 0, .int 0, .int 0])), (u4 0, .inl (ca 0, 60, .inl (fun _ => 0))), (u4 1, .inl (ca 0, 60, .inl (fun _ => 0)))]) hP hD [3] [0, 1, 2] rfl rfl (by decide) (by decide) hk1 hFc hP1 hD1
  generalize H1 = H at hP hS ⊢
  have hP : va_P (dC, dI) vwCl [(h0, .inr (3, [.int (nI 1), .ref a1, .ref a2, .null])), (a1, .inl (ca 0, 10, .inl (fun _ => 0))), (a2, .inl (ca 0, 10, .inl (fun _ => 0))), (a3, .inr (1, [.ref (u4 0), .ref (u4 1), .int 0, .int 0, .int 0])), (u4 0, .inl (ca 0, 60, .inl (fun _ => 0))), (u4 1, .inl (ca 0, 60, .inl (fun _ => 0)))] H := hP
  have hD : va_D A [(h0, .inr (3, [.int (nI 1), .ref a1, .ref a2, .null])), (a1, .inl (ca 0, 10, .inl (fun _ => 0))), (a2, .inl (ca 0, 10, .inl (fun _ => 0))), (a3, .inr (1, [.ref (u4 0), .ref (u4 1), .int 0, .int 0, .int 0])), (u4 0, .inl (ca 0, 60, .inl (fun _ => 0))), (u4 1, .inl (ca 0, 60, .inl (fun _ => 0)))] := hD
  refine W.widen (k := 5) (n := 145) (Nat.le_of_ble_eq_true rfl) (Nat.le_of_ble_eq_true rfl) ?_
  refine va_putF (D := (dC, dI)) (ci := 3) (v := .ref a3) (ty := .object "AbsentMeansAbort$Log") (C := RX3) (T := TX3) (N := 4) hx hb hta mu_X3 tyX3 tyX3_ok nmX3 hown hK hP hD hS 0 rfl rfl 3 (by decide) (hta _ mf_X3_25) (fun _ h9 => h9) rfl hin rfl (by decide +kernel) rfl rfl (Nat.le_of_ble_eq_true rfl) dX3_init_33 (fun H locs hP hD hS => ?_)
  have hP : va_P (dC, dI) vwCl [(h0, .inr (3, [.int (nI 1), .ref a1, .ref a2, .ref a3])), (a1, .inl (ca 0, 10, .inl (fun _ => 0))), (a2, .inl (ca 0, 10, .inl (fun _ => 0))), (a3, .inr (1, [.ref (u4 0), .ref (u4 1), .int 0, .int 0, .int 0])), (u4 0, .inl (ca 0, 60, .inl (fun _ => 0))), (u4 1, .inl (ca 0, 60, .inl (fun _ => 0)))] H := hP
  have hD : va_D A [(h0, .inr (3, [.int (nI 1), .ref a1, .ref a2, .ref a3])), (a1, .inl (ca 0, 10, .inl (fun _ => 0))), (a2, .inl (ca 0, 10, .inl (fun _ => 0))), (a3, .inr (1, [.ref (u4 0), .ref (u4 1), .int 0, .int 0, .int 0])), (u4 0, .inl (ca 0, 60, .inl (fun _ => 0))), (u4 1, .inl (ca 0, 60, .inl (fun _ => 0)))] := hD
  subst hAe
  exact W.vret hx hb hr (fun t ht hW => ⟨⟨(fun i => ([a1, a2, a3, u4 0, u4 1] : List Nat).getD i 0), rfl, trivial, by rw [ht]; exact hP, hD⟩, hS.F ht⟩) hS.2.2 dX3_init_36 hlocks
set_option maxHeartbeats 4000000 in
set_option maxRecDepth 100000 in
theorem c_X2_init (l : Launch) (dC : Nat → ClassId) (dI : Nat → Nat → Nat) (ca : Nat → ClassId) (h0 sz : Nat) : Met l yX2_init wsX2_init ({ frames := 1, cells := 5, slots := 164, locals := 12 }) (va_Pc [.ref h0] (am_PI dC dI ca h0 2 [.null, .int 0] sz)) (am_QI dC dI h0 2 [.null, .int 0] sz (fun u : Nat → Nat => [(h0, .inr (2, [.ref (u 0), .int 0])), (u 0, .inl (ca 4, 4, .inr (.inr (.inr (.inr (fun i => if i < 4 then some ((u 0) + 1 + i) else none)))))), ((u 0) + 1 + 0, .inl (ca 0, 40, .inl (fun _ => 0))), ((u 0) + 1 + 1, .inl (ca 0, 40, .inl (fun _ => 0))), ((u 0) + 1 + 2, .inl (ca 0, 40, .inl (fun _ => 0))), ((u 0) + 1 + 3, .inl (ca 0, 40, .inl (fun _ => 0)))])) 5 164 (am_AI h0 2 [.null, .int 0] sz) := by
  refine Met.ofW (cc := cX2_init) (maxL := 1) (ret := none) (by decide) rfl ?_
  intro p e s m args below meth c s₁ B hml hv
  obtain ⟨rfl, hsz, hP, hK, hN2, hD0⟩ := hv
  have hx := B.exec
  have hb := B.bytes
  have hr := B.returns
  have hts := atoms_spec (ws := wsX2_init) B.pre
  have hta : ∀ w ∈ am_all, w.before _ s = true := fun w hw => hts w (List.mem_cons_of_mem _ hw)
  have hown : s.vm.findClass RX2 = some m.cls := findClass_of_methodNamed B.named
  have hlocks := B.notSynchronized
  have hin : meth.name = "<init>" := (name_of_methodNamed B.named B.method).1
  subst hsz
  obtain ⟨A, hAe⟩ : ∃ A, A = am_AI h0 2 [.null, .int 0] s.heap.size := ⟨_, rfl⟩
  have hD : va_D A [(h0, .inr (2, [.null, .int 0]))] := by rw [hAe]; exact hD0.self
  have hA : ∀ q : Nat, s.heap.size ≤ q → A q := fun q h => by rw [hAe]; exact Or.inr h
  have hS : va_S A s.heap s.heap [] := va_S.rf
  have hl := lv_entry ([.ref h0]) (n := 1) (Nat.le_of_ble_eq_true rfl)
  rw [lg_entry_eq]
  generalize (lg_sl ([.ref h0]) ++ List.replicate (1 - (lg_sl ([.ref h0])).length) Slot.unset).toArray = ls at hl ⊢
  have hl : lv_has ls 1 [(0, .ref h0)] := hl
  have hP : va_P (dC, dI) vwCl [(h0, .inr (2, [.null, .int 0]))] s.heap := hP
  refine lv_aload_n hx hb dX2_init_0 rfl (lv_at hl 0 rfl) ?_
  refine W.objInit hx hb hown (hta _ mo_X2) (hta _ mi_obj) (hta _ mc_obj) rfl (by rw [hml]; exact hl.1) rfl dX2_init_1 (Nat.le_of_ble_eq_true rfl) (Nat.le_of_ble_eq_true rfl) ?_
  refine W.eq (g2 := F0 m 4 ls []) rfl ?_
  refine lv_aload_n hx hb dX2_init_4 rfl (lv_at hl 0 rfl) ?_
  refine lv_iconst (v := nI 4) hx hb dX2_init_5 rfl ?_
  refine lv_bipush (v := nI 40) hx hb dX2_init_6 rfl ?_
  refine am_mna (N := 4) (K := 40) hx hb hown (hta _ mq_X2_9) hN2.2.2.2.2.2.2 (hta _ ma_int) hK hP hD hS hA 0 4 rfl rfl (by decide) (by decide) (Nat.le_of_ble_eq_true rfl) (Nat.le_of_ble_eq_true rfl) dX2_init_8 (fun a1 H hP hD hS => ?_)
  have hP : va_P (dC, dI) vwCl [(h0, .inr (2, [.null, .int 0])), (a1, .inl (ca 4, 4, .inr (.inr (.inr (.inr (fun i => if i < 4 then some (a1 + 1 + i) else none)))))), (a1 + 1 + 0, .inl (ca 0, 40, .inl (fun _ => 0))), (a1 + 1 + 1, .inl (ca 0, 40, .inl (fun _ => 0))), (a1 + 1 + 2, .inl (ca 0, 40, .inl (fun _ => 0))), (a1 + 1 + 3, .inl (ca 0, 40, .inl (fun _ => 0)))] H := hP
  have hD : va_D A [(h0, .inr (2, [.null, .int 0])), (a1, .inl (ca 4, 4, .inr (.inr (.inr (.inr (fun i => if i < 4 then some (a1 + 1 + i) else none)))))), (a1 + 1 + 0, .inl (ca 0, 40, .inl (fun _ => 0))), (a1 + 1 + 1, .inl (ca 0, 40, .inl (fun _ => 0))), (a1 + 1 + 2, .inl (ca 0, 40, .inl (fun _ => 0))), (a1 + 1 + 3, .inl (ca 0, 40, .inl (fun _ => 0)))] := hD
  refine W.widen (k := 5) (n := 164) (Nat.le_of_ble_eq_true rfl) (Nat.le_of_ble_eq_true rfl) ?_
  refine va_putF (D := (dC, dI)) (ci := 2) (v := .ref a1) (ty := .array (.array .int)) (C := RX2) (T := TX2) (N := 2) hx hb hta mu_X2 tyX2 tyX2_ok nmX2 hown hK hP hD hS 0 rfl rfl 0 (by decide) (hta _ mf_X2_11) (fun _ h9 => h9) rfl hin rfl (by decide +kernel) rfl rfl (Nat.le_of_ble_eq_true rfl) dX2_init_12 (fun H locs hP hD hS => ?_)
  have hP : va_P (dC, dI) vwCl [(h0, .inr (2, [.ref a1, .int 0])), (a1, .inl (ca 4, 4, .inr (.inr (.inr (.inr (fun i => if i < 4 then some (a1 + 1 + i) else none)))))), (a1 + 1 + 0, .inl (ca 0, 40, .inl (fun _ => 0))), (a1 + 1 + 1, .inl (ca 0, 40, .inl (fun _ => 0))), (a1 + 1 + 2, .inl (ca 0, 40, .inl (fun _ => 0))), (a1 + 1 + 3, .inl (ca 0, 40, .inl (fun _ => 0)))] H := hP
  have hD : va_D A [(h0, .inr (2, [.ref a1, .int 0])), (a1, .inl (ca 4, 4, .inr (.inr (.inr (.inr (fun i => if i < 4 then some (a1 + 1 + i) else none)))))), (a1 + 1 + 0, .inl (ca 0, 40, .inl (fun _ => 0))), (a1 + 1 + 1, .inl (ca 0, 40, .inl (fun _ => 0))), (a1 + 1 + 2, .inl (ca 0, 40, .inl (fun _ => 0))), (a1 + 1 + 3, .inl (ca 0, 40, .inl (fun _ => 0)))] := hD
  subst hAe
  exact W.vret hx hb hr (fun t ht hW => ⟨⟨(fun i => ([a1] : List Nat).getD i 0), rfl, trivial, by rw [ht]; exact hP, hD⟩, hS.F ht⟩) hS.2.2 dX2_init_15 hlocks
