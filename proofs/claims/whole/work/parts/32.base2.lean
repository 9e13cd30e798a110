/-! making: rows that leave the array classes as they are known -/
def va_AOA (ty : FieldType) (U : State) : Prop := (Cond.arrayOver (.array ty)).before #[] U = true
theorem am_AOAs {ty : FieldType} {U : State} (h : va_AOA ty U) : ∃ comp c k, U.vm.findClass (FieldType.array ty).toString = some comp ∧ (U.vm.classes.findIdx? fun (x : Class) => match x.kind with | .array component _ => component == comp | _ => false) = some c ∧ U.vm.classes[c]? = some k ∧ k.kind = .array comp (.array ty) ∧ U.vm.findClass ("[" ++ (FieldType.array ty).toString) = some c := by
  unfold va_AOA Cond.before at h
  simp only [Cond.holds, Cond.value, beq_iff_eq] at h
  cases hc : U.vm.findClass (FieldType.array ty).toString with
  | none => simp [hc] at h
  | some comp =>
    simp only [hc, Option.bind_some, Option.bind_eq_some_iff, Option.map_eq_some_iff] at h
    obtain ⟨c, hi, k, hk, hb⟩ := h
    obtain ⟨hlt, hp, -⟩ := Array.findIdx?_eq_some_iff_getElem.mp hi
    have hkk : U.vm.classes[c] = k := (Array.getElem?_eq_some_iff.mp hk).2
    rw [hkk] at hp
    cases hkind : k.kind with
    | array component ty2 =>
      rw [hkind] at hb hp
      simp at hb hp
      exact ⟨comp, c, k, rfl, hi, hk, by rw [hkind, hp, hb.1], hb.2⟩
    | _ => rw [hkind] at hb; simp at hb
theorem am_AOAm {ty : FieldType} {u U : State} (hvm : u.vm.Alike U.vm) (h : va_AOA ty u) : va_AOA ty U := by
  obtain ⟨comp, c, k, h1, h2, h3, h4, h5⟩ := am_AOAs h
  obtain ⟨k', hk', he⟩ := hvm.2.2 _ _ h3
  have hi : (U.vm.classes.findIdx? fun (x : Class) => match x.kind with | .array component _ => component == comp | _ => false) = some c := by
    refine (va_idx_bare U.vm comp).symm.trans ?_
    first | rw [hvm.bare_eq] | rw [← hvm.bare_eq]
    exact (va_idx_bare u.vm comp).trans h2
  have hkind : k'.kind = .array comp (.array ty) := by rw [he]; exact h4
  have f1 : U.vm.findClass (FieldType.array ty).toString = some comp := by rw [hvm.findClass]; exact h1
  have f2 : U.vm.findClass ("[" ++ (FieldType.array ty).toString) = some c := by rw [hvm.findClass]; exact h5
  unfold va_AOA Cond.before Cond.holds
  simp only [Cond.value]
  rw [f1, Option.bind_some]
  refine (congrArg (fun o : Option Nat => (o.bind (fun c => (U.vm.classes[c]?).map fun (k : Class) => match k.kind with | .array _ ty2 => decide (ty2 = FieldType.array ty) && decide (U.vm.findClass ("[" ++ (FieldType.array ty).toString) = some c) | _ => false) == some true)) hi).trans ?_
  simp [hk', hkind, f2]
/-- what the makings need of the tables, beside the good words -/
def am_N2 (t : State) : Prop := va_Nw (.methodLinkNest RX0 15 yX3_init RX0) t ∧ va_Nw (.methodLinkNest RX3 24 yX1_init RX0) t ∧ va_Nw (.methodLinkNest RX0 22 yX4_init RX0) t ∧ va_Nw (.methodLinkNest RX0 25 yX2_init RX0) t ∧ va_AO RX3 t ∧ va_AO RX4 t ∧ va_AOA .int t
theorem am_N2.warm {s t : State} (hW : s.WarmedH t.vm) (h : am_N2 s) : am_N2 t := by
  obtain ⟨h1, h2, h3, h4, h5, h6, h7⟩ := h
  exact ⟨va_Nw.warmM hW h1, va_Nw.warmM hW h2, va_Nw.warmM hW h3, va_Nw.warmM hW h4, va_AO.moved hW.alike h5, va_AO.moved hW.alike h6, am_AOAm hW.alike h7⟩
theorem am_N2.same {s t : State} (hv : s.vm = t.vm) (h : am_N2 s) : am_N2 t := by
  obtain ⟨h1, h2, h3, h4, h5, h6, h7⟩ := h
  have ha : s.vm.Alike t.vm := by rw [hv]; exact Vm.Alike.refl _
  exact ⟨va_Nw.same rfl hv h1, va_Nw.same rfl hv h2, va_Nw.same rfl hv h3, va_Nw.same rfl hv h4, va_AO.moved ha h5, va_AO.moved ha h6, am_AOAm ha h7⟩
theorem am_RA {U : State} {c1 c2 : ClassId} {ty : FieldType} (h1 : va_RA U c1 ty) (h2 : va_RA U c2 ty) : c1 = c2 := by
  cases ty <;> first
    | exact Option.some.inj ((show U.vm.findClass _ = some c1 from h1).symm.trans h2)
    | (obtain ⟨_, _, _, _, _, a⟩ := h1
       obtain ⟨_, _, _, _, _, b⟩ := h2
       exact Option.some.inj (a.symm.trans b))
section AMN
variable {p : Program} {l : Launch} {e : Env} {R : Room} {s : State} {m : MethodId} {args : Array Value} {below : List Frame} {meth : Method} {c : Code} {H : Heap} {locs : List Loc} {cells slots : Nat} {Q : State → Prop}
variable {cc : ByteArray} {pc : Nat} {ls : Array Slot} {rest : List Value} {D : va_G} {cl : List vw_C} {A : Nat → Prop} {tys : List (ClassId × FieldType)} {ws : va_W} {H0 : Heap}
theorem am_Klast {t0 : Nat} {cA cB : ClassId} {ty : FieldType} (hK : va_K D cl tys s) (ht : tys[t0]? = some (cB, ty)) (hK1 : va_K D cl (tys ++ [(cA, ty)]) s) : cA = cB := by
  have h1 := (hK1.2 tys.length (cA, ty) (by simp)).2
  have h2 := (hK.2 t0 _ ht).2
  exact am_RA h1 h2
theorem am_newa (hx : p.tables.exec = Jvm.exec) (hb : c.code = cc) {atype : ArrayType} (harr : (Cond.arrayClass (newarray.typeOf atype)).before args s = true) {ty : FieldType} (hty : newarray.typeOf atype = ty) (hK : va_K D cl tys s) (hP : va_P D cl ws H) (hD : va_D A ws) (hS : va_S A H0 H locs) (hA : ∀ q, H0.size ≤ q → A q) (t0 : Nat) {cB : ClassId} (ht : tys[t0]? = some (cB, ty)) {N : Nat} (hdf : defaultValue ty = .int 0) (hN : N < 1000) (hbytes : N * componentBytes ty ≤ 536870912) (hcells : cells + 1 ≤ R.cells) (hslots : slots + N ≤ R.slots) (hdg : decode cc pc = .ok (.newarray atype, 2))
    (kk : ∀ (q : Nat) (H1 : Heap), va_P D cl (ws ++ [(q, .inl (cB, N, .inl (fun _ => 0)))]) H1 → va_D A (ws ++ [(q, .inl (cB, N, .inl (fun _ => 0)))]) → va_S A H0 H1 locs →
      W p l e R s m args below meth c H1 locs (cells + 1) (slots + N) Q (F0 m (pc + 2) ls (.ref q :: rest))) : W p l e R s m args below meth c H locs cells slots Q (F0 m pc ls (.int (nI N) :: rest)) := by
  refine va_newa (a0 := (N, .inl (fun _ => 0))) hx hb harr hty hK hP hD hS hA (fun cA => by rw [vp_cell_i, hdf]) (nI_pos (by omega)) (nI_clamp (by omega)) hbytes hcells hslots hdg (fun q cA H1 hK1 hP1 hD1 hS1 => ?_)
  have ec := am_Klast hK ht hK1
  subst ec
  exact kk q H1 hP1 hD1 hS1
theorem am_newq (hx : p.tables.exec = Jvm.exec) (hb : c.code = cc) {own C : String} {index : Nat} (hown : s.vm.findClass own = some m.cls) (hclink : (Cond.classLink own index C).before args s = true) (hover : va_AO C s) (hK : va_K D cl tys s) (hP : va_P D cl ws H) (hD : va_D A ws) (hS : va_S A H0 H locs) (hA : ∀ q, H0.size ≤ q → A q) (t0 : Nat) {cB : ClassId} (ht : tys[t0]? = some (cB, .object C)) {N : Nat} (hN : N < 1000) (hcells : cells + 1 ≤ R.cells) (hslots : slots + N ≤ R.slots) (hdg : decode cc pc = .ok (.anewarray index, 3))
    (kk : ∀ (q : Nat) (H1 : Heap), va_P D cl (ws ++ [(q, .inl (cB, N, .inr (.inr (.inr (.inr (fun _ => none))))))]) H1 → va_D A (ws ++ [(q, .inl (cB, N, .inr (.inr (.inr (.inr (fun _ => none))))))]) → va_S A H0 H1 locs →
      W p l e R s m args below meth c H1 locs (cells + 1) (slots + N) Q (F0 m (pc + 3) ls (.ref q :: rest))) : W p l e R s m args below meth c H locs cells slots Q (F0 m pc ls (.int (nI N) :: rest)) := by
  refine va_newq hx hb hown hclink hover hK hP hD hS hA (nI_pos (by omega)) (nI_clamp (by omega)) (by omega) hcells hslots hdg (fun q cA H1 hK1 hP1 hD1 hS1 => ?_)
  have ec := am_Klast hK ht hK1
  subst ec
  exact kk q H1 hP1 hD1 hS1
theorem am_outer (k : ClassId) (N h0 : Nat) : ∀ i : Nat, Jvm.Free.Multi.outerC k N h0 i = arrV k N (fun j => va_rf (if j < i then some (h0 + 1 + j) else none))
  | 0 => by
    show ({ cls := k, slots := Array.replicate N .null, vm := .none } : Cell) = _
    rw [arrV_new]
    refine congrArg (arrV k N) (funext fun j => ?_)
    simp [va_rf]
  | i + 1 => by
    show (Jvm.Free.Multi.outerC k N h0 i).setSlot i (.ref (h0 + 1 + i)) = _
    rw [am_outer k N h0 i, arrV_store]
    refine congrArg (arrV k N) (funext fun j => ?_)
    by_cases e : j = i
    · subst e
      simp [updV, va_rf]
    · by_cases h : j < i
      · simp [updV, e, h, Nat.lt_succ_of_lt h]
      · simp [updV, e, h, show ¬ j < i + 1 by omega]
/-- the cells of a made int[N][K], from q on -/
def am_rows (q : Nat) (cA cI : ClassId) (N K : Nat) : va_W := (q, .inl (cA, N, .inr (.inr (.inr (.inr (fun i => if i < N then some (q + 1 + i) else none)))))) :: (List.range N).map (fun i => (q + 1 + i, .inl (cI, K, .inl (fun _ => 0))))
theorem am_rows_g {q : Nat} {cA cI : ClassId} {N K j : Nat} {x : Nat × va_E} (h : (am_rows q cA cI N K)[j]? = some x) : x.1 = q + j ∧ (j = 0 → x = (q, .inl (cA, N, .inr (.inr (.inr (.inr (fun i => if i < N then some (q + 1 + i) else none))))))) ∧ (j ≠ 0 → j - 1 < N ∧ x = (q + 1 + (j - 1), .inl (cI, K, .inl (fun _ => 0)))) := by
  unfold am_rows at h
  cases j with
  | zero =>
    cases h
    exact ⟨rfl, fun _ => rfl, fun z => absurd rfl z⟩
  | succ j =>
    rw [List.getElem?_cons_succ, List.getElem?_map] at h
    by_cases hj : j < N
    · rw [List.getElem?_range hj] at h
      cases h
      exact ⟨by show q + 1 + j = q + (j + 1); omega, fun z => absurd z (by omega), fun _ => ⟨by omega, rfl⟩⟩
    · rw [List.getElem?_eq_none (by rw [List.length_range]; omega)] at h
      cases h
theorem am_mna (hx : p.tables.exec = Jvm.exec) (hb : c.code = cc) {own : String} {index : Nat} {cA cI : ClassId} (hown : s.vm.findClass own = some m.cls) (hclink : (Cond.classLink own index ("[" ++ (FieldType.array .int).toString)).before args s = true) (hover : va_AOA .int s) (harr : (Cond.arrayClass .int).before args s = true) (hK : va_K D cl tys s) (hP : va_P D cl ws H) (hD : va_D A ws) (hS : va_S A H0 H locs) (hA : ∀ q, H0.size ≤ q → A q) (t0 t1 : Nat) (ht0 : tys[t0]? = some (cI, .int)) (ht1 : tys[t1]? = some (cA, .array .int)) {N K : Nat} (hN : N < 1000) (hK2 : K < 1000) (hcells : cells + (1 + N) ≤ R.cells) (hslots : slots + (N + N * K) ≤ R.slots) (hdg : decode cc pc = .ok (.multianewarray index 2, 4))
    (kk : ∀ (q : Nat) (H1 : Heap), va_P D cl (ws ++ am_rows q cA cI N K) H1 → va_D A (ws ++ am_rows q cA cI N K) → va_S A H0 H1 locs →
      W p l e R s m args below meth c H1 locs (cells + 1 + N) (slots + N + N * K) Q (F0 m (pc + 4) ls (.ref q :: rest))) : W p l e R s m args below meth c H locs cells slots Q (F0 m pc ls (.int (nI K) :: .int (nI N) :: rest)) := by
  intro T hT Xs
  have eN : (nI N).toNatClampNeg = N := nI_clamp (by omega)
  have eK : (nI K).toNatClampNeg = K := nI_clamp (by omega)
  have h := Xs.multianewarray2F hx hown hclink hover harr (g := F0 m pc ls (.int (nI K) :: .int (nI N) :: rest)) rfl (by rw [hb]; exact hdg) rfl (nI_pos (by omega)) (nI_pos (by omega)) (by rw [eN]; omega) (by rw [eK]; show K * 4 ≤ _; omega) (by rw [eK]; omega) rfl rfl (by rw [eN]; exact hcells) (by rw [eN, eK]; exact hslots)
  rw [eN, eK] at h
  obtain ⟨vm₁, cA', comp, -, fA, fC, -, -, X', step⟩ := h
  have e1 : cA' = cA := Option.some.inj (fA.symm.trans (show s.vm.findClass _ = some cA from (hK.2 t1 _ ht1).2))
  have e2 : comp = cI := Option.some.inj (fC.symm.trans (show s.vm.findClass _ = some cI from (hK.2 t0 _ ht0).2))
  subst e1
  subst e2
  generalize hF : Jvm.Free.Multi.fill (T.setVm vm₁) cA' comp N K (defaultValue .int) N = F at X' step
  have hTh : (T.setVm vm₁).heap = H := hT
  obtain ⟨f1, f2, -, -⟩ := Jvm.Free.Multi.fill_facts (T.setVm vm₁) cA' comp N K (defaultValue .int) N
  rw [hF, hTh] at f1 f2
  have hold : ∀ x : Nat, x < H.size → F.heap[x]? = H[x]? := fun x hx => by
    have := Jvm.Free.Multi.fill_old (T.setVm vm₁) cA' comp N K (defaultValue .int) (a := x) (by rw [hTh]; exact hx) N
    rw [hF, hTh] at this
    exact this
  have hrow : ∀ j : Nat, j < N → F.heap[H.size + 1 + j]? = some (vp_cell comp (K, .inl (fun _ => 0))) := fun j hj => by
    have := Jvm.Free.Multi.fill_inner (T.setVm vm₁) cA' comp N K (defaultValue .int) N j hj
    rw [hF, hTh] at this
    rw [this, vp_cell_i, ← arrV_new]
    rfl
  have hout : Jvm.Free.Multi.outerC cA' N H.size N = vp_cell cA' (N, .inr (.inr (.inr (.inr (fun i => if i < N then some (H.size + 1 + i) else none))))) := by
    rw [vp_cell_q]
    exact am_outer cA' N H.size N
  rw [hout] at f2
  have hP1 : va_P D cl (ws ++ am_rows H.size cA' comp N K) F.heap := (hP.kept (fun k x hx => hold x.1 ((hP k x hx).lt))).app (fun k x hx => by
    obtain ⟨g1, g2, g3⟩ := am_rows_g hx
    by_cases q : k = 0
    · rw [g2 q]; exact f2
    · obtain ⟨g4, g5⟩ := g3 q
      rw [g5]; exact hrow _ g4)
  have hD1 : va_D A (ws ++ am_rows H.size cA' comp N K) := hD.app ⟨fun i j x y hi hj hxy => by
      have a := (am_rows_g hi).1
      have b := (am_rows_g hj).1
      omega, fun k x hx => by
      rw [(am_rows_g hx).1]
      exact hA _ (by have := hS.1; omega)⟩ (fun i j x y hi hj hxy => by
      have a := (hP i x hi).lt
      have b := (am_rows_g hj).1
      omega)
  obtain ⟨t, a1, b1⟩ := kk H.size F.heap hP1 hD1 ⟨by rw [f1]; have := hS.1; omega, fun x h1 h2 => (hold x (Nat.lt_of_lt_of_le h1 hS.1)).trans (hS.2.1 x h1 h2), hS.2.2⟩ F rfl X'
  refine ⟨t, step t ?_, b1⟩
  have e : T.heap.size = H.size := by rw [hT]
  rw [e]
  exact a1
end AMN
