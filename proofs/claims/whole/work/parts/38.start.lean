/-! THE CLAIM OUT OF ONE WALK OF THE LAW'S BODY. Your part is whole_start (and what it stands on); all else here is the same for every law, but numbers. -/
def R_law : String := "AbsentMeansAbortLaw"
def lw_P (b : Addr) (xs : List Int32) (args : Array Value) (s : State) : Prop := args = #[.ref b] ∧ s.IntsAt b xs ∧ xs.length ≤ 2048 ∧ (Jvm.Cond.and given_1 narrow_1).before args s = true
def lw_Q (_ : Array Value) (s : State) (o : Outcome) (t : State) : Prop := o = .returned (some (.int 1)) ∧ Framed s o t [] 600000 7302250
def lw_Z (below : List Frame) (a : Array Value) (s : State) : State → Prop := fun t => ∃ o, t.status = .running ∧ Ended t below o ∧ lw_Q a s o t
/-- the law's own end, with 1 on the stack, nothing written that was there before, its room as the claim has it -/
theorem lw_ret {p : Program} {l : Launch} {e : Env} {s : State} {m : MethodId} {below : List Frame} {meth : Method} {c : Code} {b : Nat} (hx : p.tables.exec = Jvm.exec) (hb : c.code = code) (hr : meth.sig.returnType = ret) (hlocks : meth.locks = false) {pc : Nat} {H : Heap} {ls : Array Slot} (hdg : decode code pc = .ok (.ireturn, 1)) : W p l e room_1 s m #[Value.ref b] below meth c H [] 600000 7302250 (lw_Z below #[Value.ref b] s) (F0 m pc ls [.int 1]) := by
  intro T hT X
  obtain ⟨fs, hret, hrun, hended, hW, hframe⟩ := X.leave (v := some (.int 1)) (hlocks := hlocks) (fun h => by rw [hr] at h; cases h)
  have hmeth' : T.vm.method? m = some meth := X.method'
  refine ⟨T.setFrames fs, ?_, .returned (some (.int 1)), hrun, hended, rfl, ⟨_, rfl⟩, hW, hframe⟩
  jvm_step X.here [X.here.top, hx, hb, hdg, hmeth', hr, ret, narrow_b1]
  (try refine ⟨rfl, ?_⟩); (try refine ⟨rfl, ?_⟩)
  first | (intro acts; rw [hret _ acts rfl rfl rfl]) | rw [hret _ _ rfl rfl rfl]
  exact Steps.refl _
/-- what holds at the law's entry: the machine, the code, the tables' words (any of lw_tbl by 'hts w (by decide +kernel)'), the script of L ints xs at the cell b, what the Statement gives of the start (any of its parts by flat_of_before) -/
def lw_At (p : Program) (s : State) (m : MethodId) (meth : Method) (c : Code) (b L : Nat) (xs : Nat → Int32) : Prop :=
  p.tables.exec = Jvm.exec ∧ c.code = code ∧ meth.sig.returnType = ret ∧ c.maxLocals = 4 ∧ s.vm.findClass R_law = some m.cls ∧ (∀ w ∈ lw_tbl, w.before #[Value.ref b] s = true) ∧ va_X b L xs s s.heap ∧ b < s.heap.size ∧ meth.locks = false ∧ (Jvm.Cond.and given_1 narrow_1).before #[Value.ref b] s = true
theorem am_tb {b : Nat} {s : State} (hts : ∀ w ∈ lw_tbl, w.before #[Value.ref b] s = true) {w : Cond} (i : Nat) (h : tables_1[i]? = some w) : w.before #[Value.ref b] s = true := hts w (List.mem_append_right _ (List.mem_of_getElem? h))
theorem am_at (s : State) {cA comp : ClassId} {kA : Class} {ty : FieldType} (h2 : s.vm.classes[cA]? = some kA) (h3 : kA.kind = .array comp ty) : ArrOfT s cA ty := fun n z => ⟨fun k h => (by cases h), kA, h2, comp, h3⟩
set_option maxRecDepth 100000 in
theorem am_K0 {b : Nat} {s : State} (hts : ∀ w ∈ lw_tbl, w.before #[Value.ref b] s = true) : ∃ dC dI ca, va_K (dC, dI) vwCl (am_ty ca) s ∧ am_Nw s ∧ am_N2 s := by
  have hta : ∀ w ∈ am_all, w.before #[Value.ref b] s = true := fun w hw => hts w (List.mem_filter.mp hw).1
  obtain ⟨c0, i0, k0⟩ := u_known hta mu_X0 (hta _ mt_X0)
  obtain ⟨c1, i1, k1⟩ := u_known hta mu_X1 (hta _ mt_X1)
  obtain ⟨c2, i2, k2⟩ := u_known hta mu_X2 (hta _ mt_X2)
  obtain ⟨c3, i3, k3⟩ := u_known hta mu_X3 (hta _ mt_X3)
  obtain ⟨c4, i4, k4⟩ := u_known hta mu_X4 (hta _ mt_X4)
  obtain ⟨c5, i5, k5⟩ := u_known hta mu_X5 (hta _ mt_X5)
  obtain ⟨aI, kI, pI, f1, f2, f3⟩ := Cond.arrayClass_spec (hta _ ma_int)
  obtain ⟨aZ, kZ, pZ, z1, z2, z3⟩ := Cond.arrayClass_spec (hta _ ma_boolean)
  have oN : va_AO RX3 s := va_AO.of (am_tb hts 17 (by decide +kernel))
  have oT : va_AO RX4 s := va_AO.of (am_tb hts 69 (by decide +kernel))
  have oA0 : (Cond.arrayOver (.array .int)).before #[Value.ref b] s = true := am_tb hts 106 (by decide +kernel)
  have oA : va_AOA .int s := oA0
  obtain ⟨pN, aN, kN, n1, -, n3, n4, n5⟩ := Cond.arrayOver_spec oN
  obtain ⟨pT, aT, kT, t1, -, t3, t4, t5⟩ := Cond.arrayOver_spec oT
  obtain ⟨pA, aA, kA, a1, -, a3, a4, a5⟩ := am_AOAs oA
  refine ⟨fun i => if i = 0 then c0 else if i = 1 then c1 else if i = 2 then c2 else if i = 3 then c3 else if i = 4 then c4 else c5, fun i => if i = 0 then i0 else if i = 1 then i1 else if i = 2 then i2 else if i = 3 then i3 else if i = 4 then i4 else i5, fun i => if i = 0 then aI else if i = 1 then aZ else if i = 2 then aN else if i = 3 then aT else aA, ⟨fun k q hq => ?_, fun k q hq => ?_⟩, ?_, ?_⟩
  · have hk : k < 6 := (List.getElem?_eq_some_iff.mp hq).1
    have h : k = 0 ∨ k = 1 ∨ k = 2 ∨ k = 3 ∨ k = 4 ∨ k = 5 := by omega
    rcases h with rfl | rfl | rfl | rfl | rfl | rfl
    · cases hq; exact k0
    · cases hq; exact k1
    · cases hq; exact k2
    · cases hq; exact k3
    · cases hq; exact k4
    · cases hq; exact k5
  · have hk : k < 5 := (List.getElem?_eq_some_iff.mp hq).1
    have h : k = 0 ∨ k = 1 ∨ k = 2 ∨ k = 3 ∨ k = 4 := by omega
    rcases h with rfl | rfl | rfl | rfl | rfl
    · cases hq; exact ⟨am_at s f2 f3, f1⟩
    · cases hq; exact ⟨am_at s z2 z3, z1⟩
    · cases hq; exact ⟨am_at s n3 n4, kN, pN, n3, n4, n1, n5⟩
    · cases hq; exact ⟨am_at s t3 t4, kT, pT, t3, t4, t1, t5⟩
    · cases hq; exact ⟨am_at s a3 a4, a5⟩
  · exact ⟨va_Nw.of rfl (am_tb hts 161 (by decide +kernel)), va_Nw.of rfl (am_tb hts 162 (by decide +kernel)), va_Nw.of rfl (am_tb hts 175 (by decide +kernel))⟩
  · exact ⟨va_Nw.of rfl (am_tb hts 19 (by decide +kernel)), va_Nw.of rfl (am_tb hts 25 (by decide +kernel)), va_Nw.of rfl (am_tb hts 71 (by decide +kernel)), va_Nw.of rfl (am_tb hts 101 (by decide +kernel)), oN, oT, oA⟩
set_option maxHeartbeats 4000000 in
set_option maxRecDepth 100000 in
/-- from the entry, for every script of at most 2048 ints, the law comes to its end with true -/
theorem whole_start {p : Program} {e : Env} {s : State} {m : MethodId} {below : List Frame} {meth : Method} {c : Code} (l : Launch) {b L : Nat} {xs : Nat → Int32} (hL : L ≤ 2048) (C0 : lw_At p s m meth c b L xs) : W p l e room_1 s m #[Value.ref b] below meth c s.heap [] 0 0 (lw_Z below #[Value.ref b] s) (entryFrame m ([Value.ref b] : List Value).toArray 4) := by
  obtain ⟨hx, hb, hr, hml, hown, hts, hX, hbl, hlocks, -⟩ := C0
  have hown : s.vm.findClass RL = some m.cls := hown
  have hb : c.code = cL_law := hb
  obtain ⟨dC, dI, ca, hK, hN, hN2⟩ := am_K0 hts
  have hta : ∀ w ∈ am_all, w.before #[Value.ref b] s = true := fun w hw => hts w (List.mem_filter.mp hw).1
  have hl := lv_entry ([.ref b]) (n := 4) (Nat.le_of_ble_eq_true rfl)
  rw [lg_entry_eq]
  generalize (lg_sl ([.ref b]) ++ List.replicate (4 - (lg_sl ([.ref b])).length) Slot.unset).toArray = ls at hl ⊢
  have hl : lv_has ls 4 [(0, .ref b)] := hl
  obtain ⟨A, hAe⟩ : ∃ A : Nat → Prop, A = fun q => s.heap.size ≤ q := ⟨_, rfl⟩
  have hA : ∀ q : Nat, s.heap.size ≤ q → A q := fun q h => by rw [hAe]; exact h
  have hA2 : ∀ q : Nat, A q → s.heap.size ≤ q := fun q h => by rw [hAe] at h; exact h
  clear hAe
  have hP : va_P (dC, dI) vwCl [] s.heap := fun k q h => by cases h
  have hD : va_D A [] := ⟨fun i j p q h => (by cases h), fun k q h => (by cases h)⟩
  have hS : va_S A s.heap s.heap [] := va_S.rf
  refine va_new (ci := 0) (fs := [.null, .null, .null, .int 0]) (C := RX0) (T := TX0) (N := 4) hx hb hta mu_X0 tyX0 tyX0_ok hown (hta _ mq_L_7) (hta _ mt_X0) (hta _ mn_X0) hK hP hD hS hA rfl hf_X0 (Nat.le_of_ble_eq_true rfl) (Nat.le_of_ble_eq_true rfl) dL_law_0 (fun q0 H hP hD hS => ?_)
  have hP : va_P (dC, dI) vwCl [(q0, .inr (0, [.null, .null, .null, .int 0]))] H := hP
  have hD : va_D A [(q0, .inr (0, [.null, .null, .null, .int 0]))] := hD
  refine W.widen (k := 1) (n := 4) (Nat.le_of_ble_eq_true rfl) (Nat.le_of_ble_eq_true rfl) ?_
  refine lv_dup hx hb dL_law_3 rfl ?_
  have hFc := va_free (wc := [(q0, .inr (0, [.null, .null, .null, .int 0]))]) hD hS hA [0] rfl
  refine va_callv (va_runI (As := []) (rest := [.ref q0]) ⟨hx, hb, hml, hown, hta⟩ (c_X0_init l dC dI ca q0 H.size) ⟨callB_of 0 hta (am_gdL mc_X0_init) rfl rfl rfl (hta _ mn_X0) (hta _ ml_L_9) dc_X0_init ⟨(Nat.le_of_ble_eq_true rfl), (Nat.le_of_ble_eq_true rfl)⟩, rfl, hta _ mi_X0_init⟩ (am_preI hK hN2 hP hD) rfl rfl hl.1 rfl (lv_room (Nat.le_of_ble_eq_true rfl)) dL_law_4 ⟨(Nat.le_of_ble_eq_true rfl), (Nat.le_of_ble_eq_true rfl)⟩) hS (fun q _ h => hFc q h) hFc (fun u t H1 locs ht hvm h5 hB hz1 hk1 hS => ?_)
  obtain ⟨hP1, hD1⟩ := hB
  rw [ht] at hP1
  have hP : va_P (dC, dI) vwCl (am_cC ca q0 u) H1 := hP1
  have hD : va_D A (am_cC ca q0 u) := hD1.weaken (fun k q _ h => hFc q.1 h)
  clear hP1 hD1 hFc
  generalize H1 = H at hP hS ⊢
  refine W.widen (k := 43) (n := 840) (Nat.le_of_ble_eq_true rfl) (Nat.le_of_ble_eq_true rfl) ?_
  refine lv_astore_n hx hb dL_law_7 rfl hl (by decide) rfl (fun ls hl => ?_)
  have hl : lv_has ls 4 [(1, .ref q0), (0, .ref b)] := hl
  refine va_new (ci := 5) (fs := [.null, .null, .int 0, .null, .null, .null, .null, .null, .null, .null, .null, .null, .null, .null, .null, .null, .int 0, .null, .null, .null, .null]) (C := RX5) (T := TX5) (N := 21) hx hb hta mu_X5 tyX5 tyX5_ok hown (hta _ mq_L_10) (hta _ mt_X5) (hta _ mn_X5) hK hP hD hS hA rfl hf_X5 (Nat.le_of_ble_eq_true rfl) (Nat.le_of_ble_eq_true rfl) dL_law_8 (fun qm H hP hD hS => ?_)
  refine W.widen (k := 44) (n := 861) (Nat.le_of_ble_eq_true rfl) (Nat.le_of_ble_eq_true rfl) ?_
  refine lv_dup hx hb dL_law_11 rfl ?_
  have hPc := hP.sub (ws' := [(qm, .inr (5, [.null, .null, .int 0, .null, .null, .null, .null, .null, .null, .null, .null, .null, .null, .null, .null, .null, .int 0, .null, .null, .null, .null]))]) [43] rfl
  have hDc := hD.sub (ws' := [(qm, .inr (5, [.null, .null, .int 0, .null, .null, .null, .null, .null, .null, .null, .null, .null, .null, .null, .null, .null, .int 0, .null, .null, .null, .null]))]) [43] (by decide) rfl
  have hFc := va_free (wc := [(qm, .inr (5, [.null, .null, .int 0, .null, .null, .null, .null, .null, .null, .null, .null, .null, .null, .null, .null, .null, .int 0, .null, .null, .null, .null]))]) hD hS hA [43] rfl
  refine va_callv (va_runI (As := []) (rest := [.ref qm]) ⟨hx, hb, hml, hown, hta⟩ (c_X5_init l dC dI ca qm H.size) ⟨callB_of 0 hta (am_gdL mc_X5_init) rfl rfl rfl (hta _ mn_X5) (hta _ ml_L_12) dc_X5_init ⟨(Nat.le_of_ble_eq_true rfl), (Nat.le_of_ble_eq_true rfl)⟩, rfl, hta _ mi_X5_init⟩ (am_preI hK hN2 hPc hDc) rfl rfl hl.1 rfl (lv_room (Nat.le_of_ble_eq_true rfl)) dL_law_12 ⟨(Nat.le_of_ble_eq_true rfl), (Nat.le_of_ble_eq_true rfl)⟩) hS (fun q _ h => hFc q h) hFc (fun v t H1 locs ht hvm h5 hB hz1 hk1 hS => ?_)
  obtain ⟨hP1, hD1⟩ := hB
  rw [ht] at hP1
  obtain ⟨hP, hD⟩ := va_join (wr := am_cC ca q0 u) (w1 := am_cM ca qm v) hP hD [43] [0, 1, 2, 3, 4, 5, 6, 7, 8, 9, 10, 11, 12, 13, 14, 15, 16, 17, 18, 19, 20, 21, 22, 23, 24, 25, 26, 27, 28, 29, 30, 31, 32, 33, 34, 35, 36, 37, 38, 39, 40, 41, 42] rfl rfl (by decide) (by decide) hk1 hFc hP1 hD1
  clear hP1 hD1 hFc hPc hDc hk1
  generalize H1 = H at hP hS ⊢
  refine W.widen (k := 63) (n := 2309) (Nat.le_of_ble_eq_true rfl) (Nat.le_of_ble_eq_true rfl) ?_
  refine lv_astore_n hx hb dL_law_15 rfl hl (by decide) rfl (fun ls hl => ?_)
  have hl : lv_has ls 4 [(2, .ref qm), (1, .ref q0), (0, .ref b)] := hl
  refine lv_iconst (v := nI 0) hx hb dL_law_16 rfl ?_
  refine lv_istore_n hx hb dL_law_17 rfl hl (by decide) rfl (fun ls hl => ?_)
  have hl : lv_has ls 4 [(3, .int (nI 0)), (2, .ref qm), (1, .ref q0), (0, .ref b)] := hl
  have hPm := am_fin hP
  obtain ⟨hI, hAd⟩ := am_finI hD
  clear hP hD
  have hl : lv_has ls 4 [(3, .int (nI 0)), (2, .ref (am_ad q0 qm u v 43)), (1, .ref (am_ad q0 qm u v 0)), (0, .ref b)] := hl
  generalize am_ad q0 qm u v = ad at hPm hI hAd hl
  have hbA0 : ¬ A b := fun h => by have := hA2 b h; omega
  have hX2 : va_X b L xs s H := hX.kept (hS.2.1 b hbl hbA0)
  have hbl2 : b < H.size := Nat.lt_of_lt_of_le hbl hS.1
  have hbA : ¬ am_A ad 63 b := fun ⟨i, hi, eb⟩ => by
    have := hA2 _ (hAd i hi)
    omega
  have C : lw_C p s m c b L xs dC dI ca ad H := ⟨hx, hb, hml, hown, hta, hK, hN, hI, hX2, hbl2, hbA⟩
  refine va_forget (fun q hq => hA2 _ (hS.2.2 q hq)) ?_
  refine lw_loop C ⟨by decide, by decide⟩ hL (fun H2 locs2 ls2 hS2 => ?_) L 0 (by omega) (by omega) am_M0 H [] ls JJ_0 hPm va_S.rf (lv_sub hl [3, 2, 1, 0] rfl)
  refine va_forget (fun q hq => ?_) ?_
  · obtain ⟨i, hi, eq⟩ := hS2.2.2 q hq
    rw [eq]
    exact hA2 _ (hAd i hi)
  · refine W.widen (k := 600000) (n := 7302250) (Nat.le_of_ble_eq_true rfl) (Nat.le_of_ble_eq_true rfl) ?_
    refine lv_iconst (v := 1) hx hb dL_law_726 rfl ?_
    exact lw_ret hx hb hr hlocks dL_law_727
