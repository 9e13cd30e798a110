/-! the law's own rows -/
theorem am_gdL {c2 : Cond} (h : c2 ∈ am_all) : GoodIn am_all (c2 :: am_all) := by
  intro w hw
  have hw : w ∈ am_all := (List.mem_cons.mp hw).elim (fun q => q ▸ h) id
  exact ⟨hw, good_of_word (List.mem_filter.mp hw).2⟩
/-- what stays the same while the law runs its loop -/
def lw_C (p : Program) (s : State) (m : MethodId) (c : Code) (b L : Nat) (xs : Nat → Int32) (dC : Nat → ClassId) (dI : Nat → Nat → Nat) (ca : Nat → ClassId) (ad : Nat → Nat) (H0 : Heap) : Prop :=
  p.tables.exec = Jvm.exec ∧ c.code = cL_law ∧ c.maxLocals = 4 ∧ s.vm.findClass RL = some m.cls ∧ (∀ w ∈ am_all, w.before #[Value.ref b] s = true) ∧ va_K (dC, dI) vwCl (am_ty ca) s ∧ am_Nw s ∧ am_inj ad ∧ va_X b L xs s H0 ∧ b < H0.size ∧ ¬ am_A ad 63 b
section LWR
variable {p : Program} {l : Launch} {e : Env} {R : Room} {s : State} {m : MethodId} {args : Array Value} {below : List Frame} {meth : Method} {c : Code} {H : Heap} {locs : List Loc} {cells slots : Nat} {Q : State → Prop}
variable {cc : ByteArray} {pc : Nat} {ls : Array Slot} {rest : List Value} {b L : Nat} {xs : Nat → Int32} {A : Nat → Prop} {H0 : Heap}
theorem lw_ld (hx : p.tables.exec = Jvm.exec) (hb : c.code = cc) (hX : va_X b L xs s H0) (hbl : b < H0.size) (hbA : ¬ A b) (hS : va_S A H0 H locs) {i k : Nat} (hi : i + k < L) (hL : L ≤ 2048) (hdg : decode cc pc = .ok (.iaload, 1))
    (kk : W p l e R s m args below meth c H locs cells slots Q (F0 m (pc + 1) ls (.int (xs (i + k)) :: rest))) : W p l e R s m args below meth c H locs cells slots Q (F0 m pc ls (.int (nI i + nI k) :: .ref b :: rest)) := by
  rw [nI_add]
  refine va_sld hx hb hX hbl hbA hS (vp_in_nI hi (by omega)) hdg ?_
  rw [nI_clamp (by omega)]
  exact kk
theorem lw_ld0 (hx : p.tables.exec = Jvm.exec) (hb : c.code = cc) (hX : va_X b L xs s H0) (hbl : b < H0.size) (hbA : ¬ A b) (hS : va_S A H0 H locs) {i : Nat} (hi : i < L) (hL : L ≤ 2048) (hdg : decode cc pc = .ok (.iaload, 1))
    (kk : W p l e R s m args below meth c H locs cells slots Q (F0 m (pc + 1) ls (.int (xs i) :: rest))) : W p l e R s m args below meth c H locs cells slots Q (F0 m pc ls (.int (nI i) :: .ref b :: rest)) := by
  refine va_sld hx hb hX hbl hbA hS (vp_in_nI hi (by omega)) hdg ?_
  rw [nI_clamp (by omega)]
  exact kk
end LWR
set_option maxHeartbeats 4000000 in
set_option maxRecDepth 100000 in
theorem lw_c0 {p : Program} {l : Launch} {e : Env} {s : State} {m : MethodId} {below : List Frame} {meth : Method} {c : Code} {b L : Nat} {xs : Nat → Int32} {dC : Nat → ClassId} {dI : Nat → Nat → Nat} {ca : Nat → ClassId} {ad : Nat → Nat} {H0 H : Heap} {locs : List Loc} {ls : Array Slot} {cells slots i : Nat} {Z : State → Prop} {M : am_M} (C : lw_C p s m c b L xs dC dI ca ad H0) (hcs : cells ≤ 600000 ∧ slots ≤ 7302250) (hL : L ≤ 2048) (hi : i + 4 ≤ L) (hj : JJ M) (hP : va_P (dC, dI) vwCl (am_w ad (am_sh ca) 63 M) H) (hS : va_S (am_A ad 63) H0 H locs) (hl : lv_has ls 4 [(0, .ref b), (1, .ref (ad 0)), (2, .ref (ad 43)), (3, .int (nI i))]) (kk : ∀ (M : am_M) (H : Heap) (locs : List Loc), JJ M → va_P (dC, dI) vwCl (am_w ad (am_sh ca) 63 M) H → va_S (am_A ad 63) H0 H locs → W p l e room_1 s m #[Value.ref b] below meth c H locs cells slots Z (F0 m 720 ls [])) : W p l e room_1 s m #[Value.ref b] below meth c H locs cells slots Z (F0 m 128 ls []) := by
  obtain ⟨hx, hb, hml, hown, hta, hK, hN, hI, hX, hbl, hbA⟩ := C
  obtain ⟨x, y⟩ := M
  refine lv_aload_n hx hb dL_law_128 rfl (lv_at hl 1 rfl) ?_
  refine lv_aload_n hx hb dL_law_129 rfl (lv_at hl 0 rfl) ?_
  refine lv_iload_n hx hb dL_law_130 rfl (lv_at hl 3 rfl) ?_
  refine lv_iconst (v := nI 1) hx hb dL_law_131 rfl ?_
  refine lv_iadd hx hb dL_law_132 ?_
  refine lw_ld hx hb hX hbl hbA hS (by omega) hL dL_law_133 ?_
  have h := op_begin hj (xs (i + 1))
  refine am_calli (va_runV (C := RX0) (As := [.int (xs (i + 1))]) (rest := []) ⟨hx, hb, hml, hown, hta⟩ (c_X0_begin l dC dI ca ad hI (x, y) (xs (i + 1)) _ h) ⟨callB_of 1 hta (am_gdL mc_X0_begin) rfl rfl rfl (hta _ mn_X0) (hta _ ml_L_13) dc_X0_begin ⟨Nat.le_of_ble_eq_true rfl, Nat.le_of_ble_eq_true rfl⟩, hta _ mi_X0_begin, hta _ me_X0_begin⟩ (am_preV (q := (RX0, TX0, 4)) hK hN hP rfl (by decide) (am_s_outer ca)) rfl rfl hl.1 rfl (lv_room (Nat.le_of_ble_eq_true rfl)) dL_law_134 hcs) hS (fun r1 M1 H locs hP hS h => ?_)
  refine lv_aload_n hx hb dL_law_137 rfl (lv_at hl 2 rfl) ?_
  refine lv_aload_n hx hb dL_law_138 rfl (lv_at hl 0 rfl) ?_
  refine lv_iload_n hx hb dL_law_139 rfl (lv_at hl 3 rfl) ?_
  refine lv_iconst (v := nI 1) hx hb dL_law_140 rfl ?_
  refine lv_iadd hx hb dL_law_141 ?_
  refine lw_ld hx hb hX hbl hbA hS (by omega) hL dL_law_142 ?_
  refine am_calli (va_runV (C := RX5) (As := [.int (xs (i + 1))]) (rest := [.int r1]) ⟨hx, hb, hml, hown, hta⟩ (c_X5_begin l dC dI ca ad hI M1 (xs (i + 1)) _ h) ⟨callB_of 1 hta (am_gdL mc_X5_begin) rfl rfl rfl (hta _ mn_X5) (hta _ ml_L_17) dc_X5_begin ⟨Nat.le_of_ble_eq_true rfl, Nat.le_of_ble_eq_true rfl⟩, hta _ mi_X5_begin, hta _ me_X5_begin⟩ (am_preV (q := (RX5, TX5, 21)) hK hN hP rfl (by decide) (am_s_model ca)) rfl rfl hl.1 rfl (lv_room (Nat.le_of_ble_eq_true rfl)) dL_law_143 hcs) hS (fun r2 M2 H locs hP hS h => ?_)
  exact lv_icmp_eq (tgt := 720) hx hb dL_law_146 rfl (fun _ => kk _ _ _ h.2 hP hS) (fun hc => absurd h.1 hc)
set_option maxHeartbeats 4000000 in
set_option maxRecDepth 100000 in
theorem lw_c1 {p : Program} {l : Launch} {e : Env} {s : State} {m : MethodId} {below : List Frame} {meth : Method} {c : Code} {b L : Nat} {xs : Nat → Int32} {dC : Nat → ClassId} {dI : Nat → Nat → Nat} {ca : Nat → ClassId} {ad : Nat → Nat} {H0 H : Heap} {locs : List Loc} {ls : Array Slot} {cells slots i : Nat} {Z : State → Prop} {M : am_M} (C : lw_C p s m c b L xs dC dI ca ad H0) (hcs : cells ≤ 600000 ∧ slots ≤ 7302250) (hL : L ≤ 2048) (hi : i + 4 ≤ L) (hj : JJ M) (hP : va_P (dC, dI) vwCl (am_w ad (am_sh ca) 63 M) H) (hS : va_S (am_A ad 63) H0 H locs) (hl : lv_has ls 4 [(0, .ref b), (1, .ref (ad 0)), (2, .ref (ad 43)), (3, .int (nI i))]) (kk : ∀ (M : am_M) (H : Heap) (locs : List Loc), JJ M → va_P (dC, dI) vwCl (am_w ad (am_sh ca) 63 M) H → va_S (am_A ad 63) H0 H locs → W p l e room_1 s m #[Value.ref b] below meth c H locs cells slots Z (F0 m 720 ls [])) : W p l e room_1 s m #[Value.ref b] below meth c H locs cells slots Z (F0 m 151 ls []) := by
  obtain ⟨hx, hb, hml, hown, hta, hK, hN, hI, hX, hbl, hbA⟩ := C
  obtain ⟨x, y⟩ := M
  refine lv_aload_n hx hb dL_law_151 rfl (lv_at hl 1 rfl) ?_
  refine lv_aload_n hx hb dL_law_152 rfl (lv_at hl 0 rfl) ?_
  refine lv_iload_n hx hb dL_law_153 rfl (lv_at hl 3 rfl) ?_
  refine lv_iconst (v := nI 1) hx hb dL_law_154 rfl ?_
  refine lv_iadd hx hb dL_law_155 ?_
  refine lw_ld hx hb hX hbl hbA hS (by omega) hL dL_law_156 ?_
  refine lv_aload_n hx hb dL_law_157 rfl (lv_at hl 0 rfl) ?_
  refine lv_iload_n hx hb dL_law_158 rfl (lv_at hl 3 rfl) ?_
  refine lv_iconst (v := nI 2) hx hb dL_law_159 rfl ?_
  refine lv_iadd hx hb dL_law_160 ?_
  refine lw_ld hx hb hX hbl hbA hS (by omega) hL dL_law_161 ?_
  refine lv_aload_n hx hb dL_law_162 rfl (lv_at hl 0 rfl) ?_
  refine lv_iload_n hx hb dL_law_163 rfl (lv_at hl 3 rfl) ?_
  refine lv_iconst (v := nI 3) hx hb dL_law_164 rfl ?_
  refine lv_iadd hx hb dL_law_165 ?_
  refine lw_ld hx hb hX hbl hbA hS (by omega) hL dL_law_166 ?_
  have h := op_work hj (xs (i + 1)) (xs (i + 2)) (xs (i + 3))
  refine am_calli (va_runV (C := RX0) (As := [.int (xs (i + 1)), .int (xs (i + 2)), .int (xs (i + 3))]) (rest := []) ⟨hx, hb, hml, hown, hta⟩ (c_X0_work l dC dI ca ad hI (x, y) (xs (i + 1)) (xs (i + 2)) (xs (i + 3)) _ h) ⟨callB_of 3 hta (am_gdL mc_X0_work) rfl rfl rfl (hta _ mn_X0) (hta _ ml_L_18) dc_X0_work ⟨Nat.le_of_ble_eq_true rfl, Nat.le_of_ble_eq_true rfl⟩, hta _ mi_X0_work, hta _ me_X0_work⟩ (am_preV (q := (RX0, TX0, 4)) hK hN hP rfl (by decide) (am_s_outer ca)) rfl rfl hl.1 rfl (lv_room (Nat.le_of_ble_eq_true rfl)) dL_law_167 hcs) hS (fun r1 M1 H locs hP hS h => ?_)
  refine lv_aload_n hx hb dL_law_170 rfl (lv_at hl 2 rfl) ?_
  refine lv_aload_n hx hb dL_law_171 rfl (lv_at hl 0 rfl) ?_
  refine lv_iload_n hx hb dL_law_172 rfl (lv_at hl 3 rfl) ?_
  refine lv_iconst (v := nI 1) hx hb dL_law_173 rfl ?_
  refine lv_iadd hx hb dL_law_174 ?_
  refine lw_ld hx hb hX hbl hbA hS (by omega) hL dL_law_175 ?_
  refine lv_aload_n hx hb dL_law_176 rfl (lv_at hl 0 rfl) ?_
  refine lv_iload_n hx hb dL_law_177 rfl (lv_at hl 3 rfl) ?_
  refine lv_iconst (v := nI 2) hx hb dL_law_178 rfl ?_
  refine lv_iadd hx hb dL_law_179 ?_
  refine lw_ld hx hb hX hbl hbA hS (by omega) hL dL_law_180 ?_
  refine lv_aload_n hx hb dL_law_181 rfl (lv_at hl 0 rfl) ?_
  refine lv_iload_n hx hb dL_law_182 rfl (lv_at hl 3 rfl) ?_
  refine lv_iconst (v := nI 3) hx hb dL_law_183 rfl ?_
  refine lv_iadd hx hb dL_law_184 ?_
  refine lw_ld hx hb hX hbl hbA hS (by omega) hL dL_law_185 ?_
  refine am_calli (va_runV (C := RX5) (As := [.int (xs (i + 1)), .int (xs (i + 2)), .int (xs (i + 3))]) (rest := [.int r1]) ⟨hx, hb, hml, hown, hta⟩ (c_X5_work l dC dI ca ad hI M1 (xs (i + 1)) (xs (i + 2)) (xs (i + 3)) _ h) ⟨callB_of 3 hta (am_gdL mc_X5_work) rfl rfl rfl (hta _ mn_X5) (hta _ ml_L_22) dc_X5_work ⟨Nat.le_of_ble_eq_true rfl, Nat.le_of_ble_eq_true rfl⟩, hta _ mi_X5_work, hta _ me_X5_work⟩ (am_preV (q := (RX5, TX5, 21)) hK hN hP rfl (by decide) (am_s_model ca)) rfl rfl hl.1 rfl (lv_room (Nat.le_of_ble_eq_true rfl)) dL_law_186 hcs) hS (fun r2 M2 H locs hP hS h => ?_)
  exact lv_icmp_eq (tgt := 720) hx hb dL_law_189 rfl (fun _ => kk _ _ _ h.2 hP hS) (fun hc => absurd h.1 hc)
set_option maxHeartbeats 4000000 in
set_option maxRecDepth 100000 in
theorem lw_c2 {p : Program} {l : Launch} {e : Env} {s : State} {m : MethodId} {below : List Frame} {meth : Method} {c : Code} {b L : Nat} {xs : Nat → Int32} {dC : Nat → ClassId} {dI : Nat → Nat → Nat} {ca : Nat → ClassId} {ad : Nat → Nat} {H0 H : Heap} {locs : List Loc} {ls : Array Slot} {cells slots i : Nat} {Z : State → Prop} {M : am_M} (C : lw_C p s m c b L xs dC dI ca ad H0) (hcs : cells ≤ 600000 ∧ slots ≤ 7302250) (hL : L ≤ 2048) (hi : i + 4 ≤ L) (hj : JJ M) (hP : va_P (dC, dI) vwCl (am_w ad (am_sh ca) 63 M) H) (hS : va_S (am_A ad 63) H0 H locs) (hl : lv_has ls 4 [(0, .ref b), (1, .ref (ad 0)), (2, .ref (ad 43)), (3, .int (nI i))]) (kk : ∀ (M : am_M) (H : Heap) (locs : List Loc), JJ M → va_P (dC, dI) vwCl (am_w ad (am_sh ca) 63 M) H → va_S (am_A ad 63) H0 H locs → W p l e room_1 s m #[Value.ref b] below meth c H locs cells slots Z (F0 m 720 ls [])) : W p l e room_1 s m #[Value.ref b] below meth c H locs cells slots Z (F0 m 194 ls []) := by
  obtain ⟨hx, hb, hml, hown, hta, hK, hN, hI, hX, hbl, hbA⟩ := C
  obtain ⟨x, y⟩ := M
  refine lv_aload_n hx hb dL_law_194 rfl (lv_at hl 1 rfl) ?_
  refine lv_aload_n hx hb dL_law_195 rfl (lv_at hl 0 rfl) ?_
  refine lv_iload_n hx hb dL_law_196 rfl (lv_at hl 3 rfl) ?_
  refine lv_iconst (v := nI 1) hx hb dL_law_197 rfl ?_
  refine lv_iadd hx hb dL_law_198 ?_
  refine lw_ld hx hb hX hbl hbA hS (by omega) hL dL_law_199 ?_
  have h := op_commit hj (xs (i + 1))
  refine am_calli (va_runV (C := RX0) (As := [.int (xs (i + 1))]) (rest := []) ⟨hx, hb, hml, hown, hta⟩ (c_X0_commit l dC dI ca ad hI (x, y) (xs (i + 1)) _ h) ⟨callB_of 1 hta (am_gdL mc_X0_commit) rfl rfl rfl (hta _ mn_X0) (hta _ ml_L_23) dc_X0_commit ⟨Nat.le_of_ble_eq_true rfl, Nat.le_of_ble_eq_true rfl⟩, hta _ mi_X0_commit, hta _ me_X0_commit⟩ (am_preV (q := (RX0, TX0, 4)) hK hN hP rfl (by decide) (am_s_outer ca)) rfl rfl hl.1 rfl (lv_room (Nat.le_of_ble_eq_true rfl)) dL_law_200 hcs) hS (fun r1 M1 H locs hP hS h => ?_)
  refine lv_aload_n hx hb dL_law_203 rfl (lv_at hl 2 rfl) ?_
  refine lv_aload_n hx hb dL_law_204 rfl (lv_at hl 0 rfl) ?_
  refine lv_iload_n hx hb dL_law_205 rfl (lv_at hl 3 rfl) ?_
  refine lv_iconst (v := nI 1) hx hb dL_law_206 rfl ?_
  refine lv_iadd hx hb dL_law_207 ?_
  refine lw_ld hx hb hX hbl hbA hS (by omega) hL dL_law_208 ?_
  refine am_calli (va_runV (C := RX5) (As := [.int (xs (i + 1))]) (rest := [.int r1]) ⟨hx, hb, hml, hown, hta⟩ (c_X5_commit l dC dI ca ad hI M1 (xs (i + 1)) _ h) ⟨callB_of 1 hta (am_gdL mc_X5_commit) rfl rfl rfl (hta _ mn_X5) (hta _ ml_L_26) dc_X5_commit ⟨Nat.le_of_ble_eq_true rfl, Nat.le_of_ble_eq_true rfl⟩, hta _ mi_X5_commit, hta _ me_X5_commit⟩ (am_preV (q := (RX5, TX5, 21)) hK hN hP rfl (by decide) (am_s_model ca)) rfl rfl hl.1 rfl (lv_room (Nat.le_of_ble_eq_true rfl)) dL_law_209 hcs) hS (fun r2 M2 H locs hP hS h => ?_)
  exact lv_icmp_eq (tgt := 720) hx hb dL_law_212 rfl (fun _ => kk _ _ _ h.2 hP hS) (fun hc => absurd h.1 hc)
set_option maxHeartbeats 4000000 in
set_option maxRecDepth 100000 in
theorem lw_c3 {p : Program} {l : Launch} {e : Env} {s : State} {m : MethodId} {below : List Frame} {meth : Method} {c : Code} {b L : Nat} {xs : Nat → Int32} {dC : Nat → ClassId} {dI : Nat → Nat → Nat} {ca : Nat → ClassId} {ad : Nat → Nat} {H0 H : Heap} {locs : List Loc} {ls : Array Slot} {cells slots i : Nat} {Z : State → Prop} {M : am_M} (C : lw_C p s m c b L xs dC dI ca ad H0) (hcs : cells ≤ 600000 ∧ slots ≤ 7302250) (hL : L ≤ 2048) (hi : i + 4 ≤ L) (hj : JJ M) (hP : va_P (dC, dI) vwCl (am_w ad (am_sh ca) 63 M) H) (hS : va_S (am_A ad 63) H0 H locs) (hl : lv_has ls 4 [(0, .ref b), (1, .ref (ad 0)), (2, .ref (ad 43)), (3, .int (nI i))]) (kk : ∀ (M : am_M) (H : Heap) (locs : List Loc), JJ M → va_P (dC, dI) vwCl (am_w ad (am_sh ca) 63 M) H → va_S (am_A ad 63) H0 H locs → W p l e room_1 s m #[Value.ref b] below meth c H locs cells slots Z (F0 m 720 ls [])) : W p l e room_1 s m #[Value.ref b] below meth c H locs cells slots Z (F0 m 217 ls []) := by
  obtain ⟨hx, hb, hml, hown, hta, hK, hN, hI, hX, hbl, hbA⟩ := C
  obtain ⟨x, y⟩ := M
  refine lv_aload_n hx hb dL_law_217 rfl (lv_at hl 1 rfl) ?_
  refine lv_aload_n hx hb dL_law_218 rfl (lv_at hl 0 rfl) ?_
  refine lv_iload_n hx hb dL_law_219 rfl (lv_at hl 3 rfl) ?_
  refine lv_iconst (v := nI 1) hx hb dL_law_220 rfl ?_
  refine lv_iadd hx hb dL_law_221 ?_
  refine lw_ld hx hb hX hbl hbA hS (by omega) hL dL_law_222 ?_
  have h := op_withdraw hj (xs (i + 1))
  refine am_calli (va_runV (C := RX0) (As := [.int (xs (i + 1))]) (rest := []) ⟨hx, hb, hml, hown, hta⟩ (c_X0_withdraw l dC dI ca ad hI (x, y) (xs (i + 1)) _ h) ⟨callB_of 1 hta (am_gdL mc_X0_withdraw) rfl rfl rfl (hta _ mn_X0) (hta _ ml_L_27) dc_X0_withdraw ⟨Nat.le_of_ble_eq_true rfl, Nat.le_of_ble_eq_true rfl⟩, hta _ mi_X0_withdraw, hta _ me_X0_withdraw⟩ (am_preV (q := (RX0, TX0, 4)) hK hN hP rfl (by decide) (am_s_outer ca)) rfl rfl hl.1 rfl (lv_room (Nat.le_of_ble_eq_true rfl)) dL_law_223 hcs) hS (fun r1 M1 H locs hP hS h => ?_)
  refine lv_aload_n hx hb dL_law_226 rfl (lv_at hl 2 rfl) ?_
  refine lv_aload_n hx hb dL_law_227 rfl (lv_at hl 0 rfl) ?_
  refine lv_iload_n hx hb dL_law_228 rfl (lv_at hl 3 rfl) ?_
  refine lv_iconst (v := nI 1) hx hb dL_law_229 rfl ?_
  refine lv_iadd hx hb dL_law_230 ?_
  refine lw_ld hx hb hX hbl hbA hS (by omega) hL dL_law_231 ?_
  refine am_calli (va_runV (C := RX5) (As := [.int (xs (i + 1))]) (rest := [.int r1]) ⟨hx, hb, hml, hown, hta⟩ (c_X5_withdraw l dC dI ca ad hI M1 (xs (i + 1)) _ h) ⟨callB_of 1 hta (am_gdL mc_X5_withdraw) rfl rfl rfl (hta _ mn_X5) (hta _ ml_L_30) dc_X5_withdraw ⟨Nat.le_of_ble_eq_true rfl, Nat.le_of_ble_eq_true rfl⟩, hta _ mi_X5_withdraw, hta _ me_X5_withdraw⟩ (am_preV (q := (RX5, TX5, 21)) hK hN hP rfl (by decide) (am_s_model ca)) rfl rfl hl.1 rfl (lv_room (Nat.le_of_ble_eq_true rfl)) dL_law_232 hcs) hS (fun r2 M2 H locs hP hS h => ?_)
  exact lv_icmp_eq (tgt := 720) hx hb dL_law_235 rfl (fun _ => kk _ _ _ h.2 hP hS) (fun hc => absurd h.1 hc)
set_option maxHeartbeats 4000000 in
set_option maxRecDepth 100000 in
theorem lw_c4 {p : Program} {l : Launch} {e : Env} {s : State} {m : MethodId} {below : List Frame} {meth : Method} {c : Code} {b L : Nat} {xs : Nat → Int32} {dC : Nat → ClassId} {dI : Nat → Nat → Nat} {ca : Nat → ClassId} {ad : Nat → Nat} {H0 H : Heap} {locs : List Loc} {ls : Array Slot} {cells slots i : Nat} {Z : State → Prop} {M : am_M} (C : lw_C p s m c b L xs dC dI ca ad H0) (hcs : cells ≤ 600000 ∧ slots ≤ 7302250) (hL : L ≤ 2048) (hi : i + 4 ≤ L) (hj : JJ M) (hP : va_P (dC, dI) vwCl (am_w ad (am_sh ca) 63 M) H) (hS : va_S (am_A ad 63) H0 H locs) (hl : lv_has ls 4 [(0, .ref b), (1, .ref (ad 0)), (2, .ref (ad 43)), (3, .int (nI i))]) (kk : ∀ (M : am_M) (H : Heap) (locs : List Loc), JJ M → va_P (dC, dI) vwCl (am_w ad (am_sh ca) 63 M) H → va_S (am_A ad 63) H0 H locs → W p l e room_1 s m #[Value.ref b] below meth c H locs cells slots Z (F0 m 720 ls [])) : W p l e room_1 s m #[Value.ref b] below meth c H locs cells slots Z (F0 m 240 ls []) := by
  obtain ⟨hx, hb, hml, hown, hta, hK, hN, hI, hX, hbl, hbA⟩ := C
  obtain ⟨x, y⟩ := M
  refine lv_aload_n hx hb dL_law_240 rfl (lv_at hl 1 rfl) ?_
  refine lv_aload_n hx hb dL_law_241 rfl (lv_at hl 0 rfl) ?_
  refine lv_iload_n hx hb dL_law_242 rfl (lv_at hl 3 rfl) ?_
  refine lv_iconst (v := nI 1) hx hb dL_law_243 rfl ?_
  refine lv_iadd hx hb dL_law_244 ?_
  refine lw_ld hx hb hX hbl hbA hS (by omega) hL dL_law_245 ?_
  have h := op_deliver hj (xs (i + 1))
  refine am_calli (va_runV (C := RX0) (As := [.int (xs (i + 1))]) (rest := []) ⟨hx, hb, hml, hown, hta⟩ (c_X0_deliver l dC dI ca ad hI (x, y) (xs (i + 1)) _ h) ⟨callB_of 1 hta (am_gdL mc_X0_deliver) rfl rfl rfl (hta _ mn_X0) (hta _ ml_L_31) dc_X0_deliver ⟨Nat.le_of_ble_eq_true rfl, Nat.le_of_ble_eq_true rfl⟩, hta _ mi_X0_deliver, hta _ me_X0_deliver⟩ (am_preV (q := (RX0, TX0, 4)) hK hN hP rfl (by decide) (am_s_outer ca)) rfl rfl hl.1 rfl (lv_room (Nat.le_of_ble_eq_true rfl)) dL_law_246 hcs) hS (fun r1 M1 H locs hP hS h => ?_)
  refine lv_aload_n hx hb dL_law_249 rfl (lv_at hl 2 rfl) ?_
  refine lv_aload_n hx hb dL_law_250 rfl (lv_at hl 0 rfl) ?_
  refine lv_iload_n hx hb dL_law_251 rfl (lv_at hl 3 rfl) ?_
  refine lv_iconst (v := nI 1) hx hb dL_law_252 rfl ?_
  refine lv_iadd hx hb dL_law_253 ?_
  refine lw_ld hx hb hX hbl hbA hS (by omega) hL dL_law_254 ?_
  refine am_calli (va_runV (C := RX5) (As := [.int (xs (i + 1))]) (rest := [.int r1]) ⟨hx, hb, hml, hown, hta⟩ (c_X5_deliver l dC dI ca ad hI M1 (xs (i + 1)) _ h) ⟨callB_of 1 hta (am_gdL mc_X5_deliver) rfl rfl rfl (hta _ mn_X5) (hta _ ml_L_34) dc_X5_deliver ⟨Nat.le_of_ble_eq_true rfl, Nat.le_of_ble_eq_true rfl⟩, hta _ mi_X5_deliver, hta _ me_X5_deliver⟩ (am_preV (q := (RX5, TX5, 21)) hK hN hP rfl (by decide) (am_s_model ca)) rfl rfl hl.1 rfl (lv_room (Nat.le_of_ble_eq_true rfl)) dL_law_255 hcs) hS (fun r2 M2 H locs hP hS h => ?_)
  exact lv_icmp_eq (tgt := 720) hx hb dL_law_258 rfl (fun _ => kk _ _ _ h.2 hP hS) (fun hc => absurd h.1 hc)
set_option maxHeartbeats 4000000 in
set_option maxRecDepth 100000 in
theorem lw_c5 {p : Program} {l : Launch} {e : Env} {s : State} {m : MethodId} {below : List Frame} {meth : Method} {c : Code} {b L : Nat} {xs : Nat → Int32} {dC : Nat → ClassId} {dI : Nat → Nat → Nat} {ca : Nat → ClassId} {ad : Nat → Nat} {H0 H : Heap} {locs : List Loc} {ls : Array Slot} {cells slots i : Nat} {Z : State → Prop} {M : am_M} (C : lw_C p s m c b L xs dC dI ca ad H0) (hcs : cells ≤ 600000 ∧ slots ≤ 7302250) (hL : L ≤ 2048) (hi : i + 4 ≤ L) (hj : JJ M) (hP : va_P (dC, dI) vwCl (am_w ad (am_sh ca) 63 M) H) (hS : va_S (am_A ad 63) H0 H locs) (hl : lv_has ls 4 [(0, .ref b), (1, .ref (ad 0)), (2, .ref (ad 43)), (3, .int (nI i))]) (kk : ∀ (M : am_M) (H : Heap) (locs : List Loc), JJ M → va_P (dC, dI) vwCl (am_w ad (am_sh ca) 63 M) H → va_S (am_A ad 63) H0 H locs → W p l e room_1 s m #[Value.ref b] below meth c H locs cells slots Z (F0 m 720 ls [])) : W p l e room_1 s m #[Value.ref b] below meth c H locs cells slots Z (F0 m 263 ls []) := by
  obtain ⟨hx, hb, hml, hown, hta, hK, hN, hI, hX, hbl, hbA⟩ := C
  obtain ⟨x, y⟩ := M
  refine lv_aload_n hx hb dL_law_263 rfl (lv_at hl 1 rfl) ?_
  refine lv_aload_n hx hb dL_law_264 rfl (lv_at hl 0 rfl) ?_
  refine lv_iload_n hx hb dL_law_265 rfl (lv_at hl 3 rfl) ?_
  refine lv_iconst (v := nI 1) hx hb dL_law_266 rfl ?_
  refine lv_iadd hx hb dL_law_267 ?_
  refine lw_ld hx hb hX hbl hbA hS (by omega) hL dL_law_268 ?_
  have h := op_lose hj (xs (i + 1))
  refine am_calli (va_runV (C := RX0) (As := [.int (xs (i + 1))]) (rest := []) ⟨hx, hb, hml, hown, hta⟩ (c_X0_lose l dC dI ca ad hI (x, y) (xs (i + 1)) _ h) ⟨callB_of 1 hta (am_gdL mc_X0_lose) rfl rfl rfl (hta _ mn_X0) (hta _ ml_L_35) dc_X0_lose ⟨Nat.le_of_ble_eq_true rfl, Nat.le_of_ble_eq_true rfl⟩, hta _ mi_X0_lose, hta _ me_X0_lose⟩ (am_preV (q := (RX0, TX0, 4)) hK hN hP rfl (by decide) (am_s_outer ca)) rfl rfl hl.1 rfl (lv_room (Nat.le_of_ble_eq_true rfl)) dL_law_269 hcs) hS (fun r1 M1 H locs hP hS h => ?_)
  refine lv_aload_n hx hb dL_law_272 rfl (lv_at hl 2 rfl) ?_
  refine lv_aload_n hx hb dL_law_273 rfl (lv_at hl 0 rfl) ?_
  refine lv_iload_n hx hb dL_law_274 rfl (lv_at hl 3 rfl) ?_
  refine lv_iconst (v := nI 1) hx hb dL_law_275 rfl ?_
  refine lv_iadd hx hb dL_law_276 ?_
  refine lw_ld hx hb hX hbl hbA hS (by omega) hL dL_law_277 ?_
  refine am_calli (va_runV (C := RX5) (As := [.int (xs (i + 1))]) (rest := [.int r1]) ⟨hx, hb, hml, hown, hta⟩ (c_X5_lose l dC dI ca ad hI M1 (xs (i + 1)) _ h) ⟨callB_of 1 hta (am_gdL mc_X5_lose) rfl rfl rfl (hta _ mn_X5) (hta _ ml_L_38) dc_X5_lose ⟨Nat.le_of_ble_eq_true rfl, Nat.le_of_ble_eq_true rfl⟩, hta _ mi_X5_lose, hta _ me_X5_lose⟩ (am_preV (q := (RX5, TX5, 21)) hK hN hP rfl (by decide) (am_s_model ca)) rfl rfl hl.1 rfl (lv_room (Nat.le_of_ble_eq_true rfl)) dL_law_278 hcs) hS (fun r2 M2 H locs hP hS h => ?_)
  exact lv_icmp_eq (tgt := 720) hx hb dL_law_281 rfl (fun _ => kk _ _ _ h.2 hP hS) (fun hc => absurd h.1 hc)
set_option maxHeartbeats 4000000 in
set_option maxRecDepth 100000 in
theorem lw_c6 {p : Program} {l : Launch} {e : Env} {s : State} {m : MethodId} {below : List Frame} {meth : Method} {c : Code} {b L : Nat} {xs : Nat → Int32} {dC : Nat → ClassId} {dI : Nat → Nat → Nat} {ca : Nat → ClassId} {ad : Nat → Nat} {H0 H : Heap} {locs : List Loc} {ls : Array Slot} {cells slots i : Nat} {Z : State → Prop} {M : am_M} (C : lw_C p s m c b L xs dC dI ca ad H0) (hcs : cells ≤ 600000 ∧ slots ≤ 7302250) (hL : L ≤ 2048) (hi : i + 4 ≤ L) (hj : JJ M) (hP : va_P (dC, dI) vwCl (am_w ad (am_sh ca) 63 M) H) (hS : va_S (am_A ad 63) H0 H locs) (hl : lv_has ls 4 [(0, .ref b), (1, .ref (ad 0)), (2, .ref (ad 43)), (3, .int (nI i))]) (kk : ∀ (M : am_M) (H : Heap) (locs : List Loc), JJ M → va_P (dC, dI) vwCl (am_w ad (am_sh ca) 63 M) H → va_S (am_A ad 63) H0 H locs → W p l e room_1 s m #[Value.ref b] below meth c H locs cells slots Z (F0 m 720 ls [])) : W p l e room_1 s m #[Value.ref b] below meth c H locs cells slots Z (F0 m 286 ls []) := by
  obtain ⟨hx, hb, hml, hown, hta, hK, hN, hI, hX, hbl, hbA⟩ := C
  obtain ⟨x, y⟩ := M
  by_cases hz : xs (i + 3) = 0
  · refine lv_aload_n hx hb dL_law_286 rfl (lv_at hl 1 rfl) ?_
    refine lv_aload_n hx hb dL_law_287 rfl (lv_at hl 0 rfl) ?_
    refine lv_iload_n hx hb dL_law_288 rfl (lv_at hl 3 rfl) ?_
    refine lv_iconst (v := nI 1) hx hb dL_law_289 rfl ?_
    refine lv_iadd hx hb dL_law_290 ?_
    refine lw_ld hx hb hX hbl hbA hS (by omega) hL dL_law_291 ?_
    refine lv_aload_n hx hb dL_law_292 rfl (lv_at hl 0 rfl) ?_
    refine lv_iload_n hx hb dL_law_293 rfl (lv_at hl 3 rfl) ?_
    refine lv_iconst (v := nI 2) hx hb dL_law_294 rfl ?_
    refine lv_iadd hx hb dL_law_295 ?_
    refine lw_ld hx hb hX hbl hbA hS (by omega) hL dL_law_296 ?_
    refine lv_aload_n hx hb dL_law_297 rfl (lv_at hl 0 rfl) ?_
    refine lv_iload_n hx hb dL_law_298 rfl (lv_at hl 3 rfl) ?_
    refine lv_iconst (v := nI 3) hx hb dL_law_299 rfl ?_
    refine lv_iadd hx hb dL_law_300 ?_
    refine lw_ld hx hb hX hbl hbA hS (by omega) hL dL_law_301 ?_
    refine lv_if_eq (tgt := 309) hx hb dL_law_302 rfl (fun _ => ?_) (fun hc => absurd hz hc)
    refine lv_iconst (v := nI 0) hx hb dL_law_309 rfl ?_
    have h := op_expire hj (xs (i + 1)) (xs (i + 2)) (nI 0)
    refine am_calli (va_runV (C := RX0) (As := [.int (xs (i + 1)), .int (xs (i + 2)), .int (nI 0)]) (rest := []) ⟨hx, hb, hml, hown, hta⟩ (c_X0_expire l dC dI ca ad hI (x, y) (xs (i + 1)) (xs (i + 2)) (nI 0) _ h) ⟨callB_of 3 hta (am_gdL mc_X0_expire) rfl rfl rfl (hta _ mn_X0) (hta _ ml_L_39) dc_X0_expire ⟨Nat.le_of_ble_eq_true rfl, Nat.le_of_ble_eq_true rfl⟩, hta _ mi_X0_expire, hta _ me_X0_expire⟩ (am_preV (q := (RX0, TX0, 4)) hK hN hP rfl (by decide) (am_s_outer ca)) rfl rfl hl.1 rfl (lv_room (Nat.le_of_ble_eq_true rfl)) dL_law_310 hcs) hS (fun r1 M1 H locs hP hS h => ?_)
    refine lv_aload_n hx hb dL_law_313 rfl (lv_at hl 2 rfl) ?_
    refine lv_aload_n hx hb dL_law_314 rfl (lv_at hl 0 rfl) ?_
    refine lv_iload_n hx hb dL_law_315 rfl (lv_at hl 3 rfl) ?_
    refine lv_iconst (v := nI 1) hx hb dL_law_316 rfl ?_
    refine lv_iadd hx hb dL_law_317 ?_
    refine lw_ld hx hb hX hbl hbA hS (by omega) hL dL_law_318 ?_
    refine lv_aload_n hx hb dL_law_319 rfl (lv_at hl 0 rfl) ?_
    refine lv_iload_n hx hb dL_law_320 rfl (lv_at hl 3 rfl) ?_
    refine lv_iconst (v := nI 2) hx hb dL_law_321 rfl ?_
    refine lv_iadd hx hb dL_law_322 ?_
    refine lw_ld hx hb hX hbl hbA hS (by omega) hL dL_law_323 ?_
    refine lv_aload_n hx hb dL_law_324 rfl (lv_at hl 0 rfl) ?_
    refine lv_iload_n hx hb dL_law_325 rfl (lv_at hl 3 rfl) ?_
    refine lv_iconst (v := nI 3) hx hb dL_law_326 rfl ?_
    refine lv_iadd hx hb dL_law_327 ?_
    refine lw_ld hx hb hX hbl hbA hS (by omega) hL dL_law_328 ?_
    refine lv_if_eq (tgt := 336) hx hb dL_law_329 rfl (fun _ => ?_) (fun hc => absurd hz hc)
    refine lv_iconst (v := nI 0) hx hb dL_law_336 rfl ?_
    refine am_calli (va_runV (C := RX5) (As := [.int (xs (i + 1)), .int (xs (i + 2)), .int (nI 0)]) (rest := [.int r1]) ⟨hx, hb, hml, hown, hta⟩ (c_X5_expire l dC dI ca ad hI M1 (xs (i + 1)) (xs (i + 2)) (nI 0) _ h) ⟨callB_of 3 hta (am_gdL mc_X5_expire) rfl rfl rfl (hta _ mn_X5) (hta _ ml_L_43) dc_X5_expire ⟨Nat.le_of_ble_eq_true rfl, Nat.le_of_ble_eq_true rfl⟩, hta _ mi_X5_expire, hta _ me_X5_expire⟩ (am_preV (q := (RX5, TX5, 21)) hK hN hP rfl (by decide) (am_s_model ca)) rfl rfl hl.1 rfl (lv_room (Nat.le_of_ble_eq_true rfl)) dL_law_337 hcs) hS (fun r2 M2 H locs hP hS h => ?_)
    exact lv_icmp_eq (tgt := 720) hx hb dL_law_340 rfl (fun _ => kk _ _ _ h.2 hP hS) (fun hc => absurd h.1 hc)
  · refine lv_aload_n hx hb dL_law_286 rfl (lv_at hl 1 rfl) ?_
    refine lv_aload_n hx hb dL_law_287 rfl (lv_at hl 0 rfl) ?_
    refine lv_iload_n hx hb dL_law_288 rfl (lv_at hl 3 rfl) ?_
    refine lv_iconst (v := nI 1) hx hb dL_law_289 rfl ?_
    refine lv_iadd hx hb dL_law_290 ?_
    refine lw_ld hx hb hX hbl hbA hS (by omega) hL dL_law_291 ?_
    refine lv_aload_n hx hb dL_law_292 rfl (lv_at hl 0 rfl) ?_
    refine lv_iload_n hx hb dL_law_293 rfl (lv_at hl 3 rfl) ?_
    refine lv_iconst (v := nI 2) hx hb dL_law_294 rfl ?_
    refine lv_iadd hx hb dL_law_295 ?_
    refine lw_ld hx hb hX hbl hbA hS (by omega) hL dL_law_296 ?_
    refine lv_aload_n hx hb dL_law_297 rfl (lv_at hl 0 rfl) ?_
    refine lv_iload_n hx hb dL_law_298 rfl (lv_at hl 3 rfl) ?_
    refine lv_iconst (v := nI 3) hx hb dL_law_299 rfl ?_
    refine lv_iadd hx hb dL_law_300 ?_
    refine lw_ld hx hb hX hbl hbA hS (by omega) hL dL_law_301 ?_
    refine lv_if_eq (tgt := 309) hx hb dL_law_302 rfl (fun hc => absurd hc hz) (fun _ => ?_)
    refine lv_iconst (v := nI 1) hx hb dL_law_305 rfl ?_
    refine lv_goto (tgt := 310) hx hb dL_law_306 rfl ?_
    have h := op_expire hj (xs (i + 1)) (xs (i + 2)) (nI 1)
    refine am_calli (va_runV (C := RX0) (As := [.int (xs (i + 1)), .int (xs (i + 2)), .int (nI 1)]) (rest := []) ⟨hx, hb, hml, hown, hta⟩ (c_X0_expire l dC dI ca ad hI (x, y) (xs (i + 1)) (xs (i + 2)) (nI 1) _ h) ⟨callB_of 3 hta (am_gdL mc_X0_expire) rfl rfl rfl (hta _ mn_X0) (hta _ ml_L_39) dc_X0_expire ⟨Nat.le_of_ble_eq_true rfl, Nat.le_of_ble_eq_true rfl⟩, hta _ mi_X0_expire, hta _ me_X0_expire⟩ (am_preV (q := (RX0, TX0, 4)) hK hN hP rfl (by decide) (am_s_outer ca)) rfl rfl hl.1 rfl (lv_room (Nat.le_of_ble_eq_true rfl)) dL_law_310 hcs) hS (fun r1 M1 H locs hP hS h => ?_)
    refine lv_aload_n hx hb dL_law_313 rfl (lv_at hl 2 rfl) ?_
    refine lv_aload_n hx hb dL_law_314 rfl (lv_at hl 0 rfl) ?_
    refine lv_iload_n hx hb dL_law_315 rfl (lv_at hl 3 rfl) ?_
    refine lv_iconst (v := nI 1) hx hb dL_law_316 rfl ?_
    refine lv_iadd hx hb dL_law_317 ?_
    refine lw_ld hx hb hX hbl hbA hS (by omega) hL dL_law_318 ?_
    refine lv_aload_n hx hb dL_law_319 rfl (lv_at hl 0 rfl) ?_
    refine lv_iload_n hx hb dL_law_320 rfl (lv_at hl 3 rfl) ?_
    refine lv_iconst (v := nI 2) hx hb dL_law_321 rfl ?_
    refine lv_iadd hx hb dL_law_322 ?_
    refine lw_ld hx hb hX hbl hbA hS (by omega) hL dL_law_323 ?_
    refine lv_aload_n hx hb dL_law_324 rfl (lv_at hl 0 rfl) ?_
    refine lv_iload_n hx hb dL_law_325 rfl (lv_at hl 3 rfl) ?_
    refine lv_iconst (v := nI 3) hx hb dL_law_326 rfl ?_
    refine lv_iadd hx hb dL_law_327 ?_
    refine lw_ld hx hb hX hbl hbA hS (by omega) hL dL_law_328 ?_
    refine lv_if_eq (tgt := 336) hx hb dL_law_329 rfl (fun hc => absurd hc hz) (fun _ => ?_)
    refine lv_iconst (v := nI 1) hx hb dL_law_332 rfl ?_
    refine lv_goto (tgt := 337) hx hb dL_law_333 rfl ?_
    refine am_calli (va_runV (C := RX5) (As := [.int (xs (i + 1)), .int (xs (i + 2)), .int (nI 1)]) (rest := [.int r1]) ⟨hx, hb, hml, hown, hta⟩ (c_X5_expire l dC dI ca ad hI M1 (xs (i + 1)) (xs (i + 2)) (nI 1) _ h) ⟨callB_of 3 hta (am_gdL mc_X5_expire) rfl rfl rfl (hta _ mn_X5) (hta _ ml_L_43) dc_X5_expire ⟨Nat.le_of_ble_eq_true rfl, Nat.le_of_ble_eq_true rfl⟩, hta _ mi_X5_expire, hta _ me_X5_expire⟩ (am_preV (q := (RX5, TX5, 21)) hK hN hP rfl (by decide) (am_s_model ca)) rfl rfl hl.1 rfl (lv_room (Nat.le_of_ble_eq_true rfl)) dL_law_337 hcs) hS (fun r2 M2 H locs hP hS h => ?_)
    exact lv_icmp_eq (tgt := 720) hx hb dL_law_340 rfl (fun _ => kk _ _ _ h.2 hP hS) (fun hc => absurd h.1 hc)
set_option maxHeartbeats 4000000 in
set_option maxRecDepth 100000 in
theorem lw_c7 {p : Program} {l : Launch} {e : Env} {s : State} {m : MethodId} {below : List Frame} {meth : Method} {c : Code} {b L : Nat} {xs : Nat → Int32} {dC : Nat → ClassId} {dI : Nat → Nat → Nat} {ca : Nat → ClassId} {ad : Nat → Nat} {H0 H : Heap} {locs : List Loc} {ls : Array Slot} {cells slots i : Nat} {Z : State → Prop} {M : am_M} (C : lw_C p s m c b L xs dC dI ca ad H0) (hcs : cells ≤ 600000 ∧ slots ≤ 7302250) (hL : L ≤ 2048) (hi : i + 4 ≤ L) (hj : JJ M) (hP : va_P (dC, dI) vwCl (am_w ad (am_sh ca) 63 M) H) (hS : va_S (am_A ad 63) H0 H locs) (hl : lv_has ls 4 [(0, .ref b), (1, .ref (ad 0)), (2, .ref (ad 43)), (3, .int (nI i))]) (kk : ∀ (M : am_M) (H : Heap) (locs : List Loc), JJ M → va_P (dC, dI) vwCl (am_w ad (am_sh ca) 63 M) H → va_S (am_A ad 63) H0 H locs → W p l e room_1 s m #[Value.ref b] below meth c H locs cells slots Z (F0 m 720 ls [])) : W p l e room_1 s m #[Value.ref b] below meth c H locs cells slots Z (F0 m 345 ls []) := by
  obtain ⟨hx, hb, hml, hown, hta, hK, hN, hI, hX, hbl, hbA⟩ := C
  obtain ⟨x, y⟩ := M
  refine lv_aload_n hx hb dL_law_345 rfl (lv_at hl 1 rfl) ?_
  refine lv_aload_n hx hb dL_law_346 rfl (lv_at hl 0 rfl) ?_
  refine lv_iload_n hx hb dL_law_347 rfl (lv_at hl 3 rfl) ?_
  refine lv_iconst (v := nI 1) hx hb dL_law_348 rfl ?_
  refine lv_iadd hx hb dL_law_349 ?_
  refine lw_ld hx hb hX hbl hbA hS (by omega) hL dL_law_350 ?_
  have h := op_crash hj (xs (i + 1))
  refine am_calli (va_runV (C := RX0) (As := [.int (xs (i + 1))]) (rest := []) ⟨hx, hb, hml, hown, hta⟩ (c_X0_crash l dC dI ca ad hI (x, y) (xs (i + 1)) _ h) ⟨callB_of 1 hta (am_gdL mc_X0_crash) rfl rfl rfl (hta _ mn_X0) (hta _ ml_L_44) dc_X0_crash ⟨Nat.le_of_ble_eq_true rfl, Nat.le_of_ble_eq_true rfl⟩, hta _ mi_X0_crash, hta _ me_X0_crash⟩ (am_preV (q := (RX0, TX0, 4)) hK hN hP rfl (by decide) (am_s_outer ca)) rfl rfl hl.1 rfl (lv_room (Nat.le_of_ble_eq_true rfl)) dL_law_351 hcs) hS (fun r1 M1 H locs hP hS h => ?_)
  refine lv_aload_n hx hb dL_law_354 rfl (lv_at hl 2 rfl) ?_
  refine lv_aload_n hx hb dL_law_355 rfl (lv_at hl 0 rfl) ?_
  refine lv_iload_n hx hb dL_law_356 rfl (lv_at hl 3 rfl) ?_
  refine lv_iconst (v := nI 1) hx hb dL_law_357 rfl ?_
  refine lv_iadd hx hb dL_law_358 ?_
  refine lw_ld hx hb hX hbl hbA hS (by omega) hL dL_law_359 ?_
  refine am_calli (va_runV (C := RX5) (As := [.int (xs (i + 1))]) (rest := [.int r1]) ⟨hx, hb, hml, hown, hta⟩ (c_X5_crash l dC dI ca ad hI M1 (xs (i + 1)) _ h) ⟨callB_of 1 hta (am_gdL mc_X5_crash) rfl rfl rfl (hta _ mn_X5) (hta _ ml_L_47) dc_X5_crash ⟨Nat.le_of_ble_eq_true rfl, Nat.le_of_ble_eq_true rfl⟩, hta _ mi_X5_crash, hta _ me_X5_crash⟩ (am_preV (q := (RX5, TX5, 21)) hK hN hP rfl (by decide) (am_s_model ca)) rfl rfl hl.1 rfl (lv_room (Nat.le_of_ble_eq_true rfl)) dL_law_360 hcs) hS (fun r2 M2 H locs hP hS h => ?_)
  exact lv_icmp_eq (tgt := 720) hx hb dL_law_363 rfl (fun _ => kk _ _ _ h.2 hP hS) (fun hc => absurd h.1 hc)
set_option maxHeartbeats 4000000 in
set_option maxRecDepth 100000 in
theorem lw_c8 {p : Program} {l : Launch} {e : Env} {s : State} {m : MethodId} {below : List Frame} {meth : Method} {c : Code} {b L : Nat} {xs : Nat → Int32} {dC : Nat → ClassId} {dI : Nat → Nat → Nat} {ca : Nat → ClassId} {ad : Nat → Nat} {H0 H : Heap} {locs : List Loc} {ls : Array Slot} {cells slots i : Nat} {Z : State → Prop} {M : am_M} (C : lw_C p s m c b L xs dC dI ca ad H0) (hcs : cells ≤ 600000 ∧ slots ≤ 7302250) (hL : L ≤ 2048) (hi : i + 4 ≤ L) (hj : JJ M) (hP : va_P (dC, dI) vwCl (am_w ad (am_sh ca) 63 M) H) (hS : va_S (am_A ad 63) H0 H locs) (hl : lv_has ls 4 [(0, .ref b), (1, .ref (ad 0)), (2, .ref (ad 43)), (3, .int (nI i))]) (kk : ∀ (M : am_M) (H : Heap) (locs : List Loc), JJ M → va_P (dC, dI) vwCl (am_w ad (am_sh ca) 63 M) H → va_S (am_A ad 63) H0 H locs → W p l e room_1 s m #[Value.ref b] below meth c H locs cells slots Z (F0 m 720 ls [])) : W p l e room_1 s m #[Value.ref b] below meth c H locs cells slots Z (F0 m 368 ls []) := by
  obtain ⟨hx, hb, hml, hown, hta, hK, hN, hI, hX, hbl, hbA⟩ := C
  obtain ⟨x, y⟩ := M
  refine lv_aload_n hx hb dL_law_368 rfl (lv_at hl 1 rfl) ?_
  refine lv_aload_n hx hb dL_law_369 rfl (lv_at hl 0 rfl) ?_
  refine lv_iload_n hx hb dL_law_370 rfl (lv_at hl 3 rfl) ?_
  refine lv_iconst (v := nI 1) hx hb dL_law_371 rfl ?_
  refine lv_iadd hx hb dL_law_372 ?_
  refine lw_ld hx hb hX hbl hbA hS (by omega) hL dL_law_373 ?_
  have h := op_recover hj (xs (i + 1))
  refine am_calli (va_runV (C := RX0) (As := [.int (xs (i + 1))]) (rest := []) ⟨hx, hb, hml, hown, hta⟩ (c_X0_recover l dC dI ca ad hI (x, y) (xs (i + 1)) _ h) ⟨callB_of 1 hta (am_gdL mc_X0_recover) rfl rfl rfl (hta _ mn_X0) (hta _ ml_L_48) dc_X0_recover ⟨Nat.le_of_ble_eq_true rfl, Nat.le_of_ble_eq_true rfl⟩, hta _ mi_X0_recover, hta _ me_X0_recover⟩ (am_preV (q := (RX0, TX0, 4)) hK hN hP rfl (by decide) (am_s_outer ca)) rfl rfl hl.1 rfl (lv_room (Nat.le_of_ble_eq_true rfl)) dL_law_374 hcs) hS (fun r1 M1 H locs hP hS h => ?_)
  refine lv_aload_n hx hb dL_law_377 rfl (lv_at hl 2 rfl) ?_
  refine lv_aload_n hx hb dL_law_378 rfl (lv_at hl 0 rfl) ?_
  refine lv_iload_n hx hb dL_law_379 rfl (lv_at hl 3 rfl) ?_
  refine lv_iconst (v := nI 1) hx hb dL_law_380 rfl ?_
  refine lv_iadd hx hb dL_law_381 ?_
  refine lw_ld hx hb hX hbl hbA hS (by omega) hL dL_law_382 ?_
  refine am_calli (va_runV (C := RX5) (As := [.int (xs (i + 1))]) (rest := [.int r1]) ⟨hx, hb, hml, hown, hta⟩ (c_X5_recover l dC dI ca ad hI M1 (xs (i + 1)) _ h) ⟨callB_of 1 hta (am_gdL mc_X5_recover) rfl rfl rfl (hta _ mn_X5) (hta _ ml_L_51) dc_X5_recover ⟨Nat.le_of_ble_eq_true rfl, Nat.le_of_ble_eq_true rfl⟩, hta _ mi_X5_recover, hta _ me_X5_recover⟩ (am_preV (q := (RX5, TX5, 21)) hK hN hP rfl (by decide) (am_s_model ca)) rfl rfl hl.1 rfl (lv_room (Nat.le_of_ble_eq_true rfl)) dL_law_383 hcs) hS (fun r2 M2 H locs hP hS h => ?_)
  exact lv_icmp_eq (tgt := 720) hx hb dL_law_386 rfl (fun _ => kk _ _ _ h.2 hP hS) (fun hc => absurd h.1 hc)
set_option maxHeartbeats 4000000 in
set_option maxRecDepth 100000 in
theorem lw_c9 {p : Program} {l : Launch} {e : Env} {s : State} {m : MethodId} {below : List Frame} {meth : Method} {c : Code} {b L : Nat} {xs : Nat → Int32} {dC : Nat → ClassId} {dI : Nat → Nat → Nat} {ca : Nat → ClassId} {ad : Nat → Nat} {H0 H : Heap} {locs : List Loc} {ls : Array Slot} {cells slots i : Nat} {Z : State → Prop} {M : am_M} (C : lw_C p s m c b L xs dC dI ca ad H0) (hcs : cells ≤ 600000 ∧ slots ≤ 7302250) (hL : L ≤ 2048) (hi : i + 4 ≤ L) (hj : JJ M) (hP : va_P (dC, dI) vwCl (am_w ad (am_sh ca) 63 M) H) (hS : va_S (am_A ad 63) H0 H locs) (hl : lv_has ls 4 [(0, .ref b), (1, .ref (ad 0)), (2, .ref (ad 43)), (3, .int (nI i))]) (kk : ∀ (M : am_M) (H : Heap) (locs : List Loc), JJ M → va_P (dC, dI) vwCl (am_w ad (am_sh ca) 63 M) H → va_S (am_A ad 63) H0 H locs → W p l e room_1 s m #[Value.ref b] below meth c H locs cells slots Z (F0 m 720 ls [])) : W p l e room_1 s m #[Value.ref b] below meth c H locs cells slots Z (F0 m 391 ls []) := by
  obtain ⟨hx, hb, hml, hown, hta, hK, hN, hI, hX, hbl, hbA⟩ := C
  obtain ⟨x, y⟩ := M
  refine lv_aload_n hx hb dL_law_391 rfl (lv_at hl 1 rfl) ?_
  refine lv_aload_n hx hb dL_law_392 rfl (lv_at hl 0 rfl) ?_
  refine lv_iload_n hx hb dL_law_393 rfl (lv_at hl 3 rfl) ?_
  refine lv_iconst (v := nI 1) hx hb dL_law_394 rfl ?_
  refine lv_iadd hx hb dL_law_395 ?_
  refine lw_ld hx hb hX hbl hbA hS (by omega) hL dL_law_396 ?_
  have h := op_up hj (xs (i + 1))
  refine am_calli (va_runV (C := RX0) (As := [.int (xs (i + 1))]) (rest := []) ⟨hx, hb, hml, hown, hta⟩ (c_X0_up l dC dI ca ad hI (x, y) (xs (i + 1)) _ h) ⟨callB_of 1 hta (am_gdL mc_X0_up) rfl rfl rfl (hta _ mn_X0) (hta _ ml_L_52) dc_X0_up ⟨Nat.le_of_ble_eq_true rfl, Nat.le_of_ble_eq_true rfl⟩, hta _ mi_X0_up, hta _ me_X0_up⟩ (am_preV (q := (RX0, TX0, 4)) hK hN hP rfl (by decide) (am_s_outer ca)) rfl rfl hl.1 rfl (lv_room (Nat.le_of_ble_eq_true rfl)) dL_law_397 hcs) hS (fun r1 M1 H locs hP hS h => ?_)
  refine lv_aload_n hx hb dL_law_400 rfl (lv_at hl 2 rfl) ?_
  refine lv_aload_n hx hb dL_law_401 rfl (lv_at hl 0 rfl) ?_
  refine lv_iload_n hx hb dL_law_402 rfl (lv_at hl 3 rfl) ?_
  refine lv_iconst (v := nI 1) hx hb dL_law_403 rfl ?_
  refine lv_iadd hx hb dL_law_404 ?_
  refine lw_ld hx hb hX hbl hbA hS (by omega) hL dL_law_405 ?_
  refine am_calli (va_runV (C := RX5) (As := [.int (xs (i + 1))]) (rest := [.int r1]) ⟨hx, hb, hml, hown, hta⟩ (c_X5_up l dC dI ca ad hI M1 (xs (i + 1)) _ h) ⟨callB_of 1 hta (am_gdL mc_X5_up) rfl rfl rfl (hta _ mn_X5) (hta _ ml_L_56) dc_X5_up ⟨Nat.le_of_ble_eq_true rfl, Nat.le_of_ble_eq_true rfl⟩, hta _ mi_X5_up, hta _ me_X5_up⟩ (am_preV (q := (RX5, TX5, 21)) hK hN hP rfl (by decide) (am_s_model ca)) rfl rfl hl.1 rfl (lv_room (Nat.le_of_ble_eq_true rfl)) dL_law_406 hcs) hS (fun r2 M2 H locs hP hS h => ?_)
  exact lv_icmp_eq (tgt := 720) hx hb dL_law_409 rfl (fun _ => kk _ _ _ h.2 hP hS) (fun hc => absurd h.1 hc)
set_option maxHeartbeats 4000000 in
set_option maxRecDepth 100000 in
theorem lw_c10 {p : Program} {l : Launch} {e : Env} {s : State} {m : MethodId} {below : List Frame} {meth : Method} {c : Code} {b L : Nat} {xs : Nat → Int32} {dC : Nat → ClassId} {dI : Nat → Nat → Nat} {ca : Nat → ClassId} {ad : Nat → Nat} {H0 H : Heap} {locs : List Loc} {ls : Array Slot} {cells slots i : Nat} {Z : State → Prop} {M : am_M} (C : lw_C p s m c b L xs dC dI ca ad H0) (hcs : cells ≤ 600000 ∧ slots ≤ 7302250) (hL : L ≤ 2048) (hi : i + 4 ≤ L) (hj : JJ M) (hP : va_P (dC, dI) vwCl (am_w ad (am_sh ca) 63 M) H) (hS : va_S (am_A ad 63) H0 H locs) (hl : lv_has ls 4 [(0, .ref b), (1, .ref (ad 0)), (2, .ref (ad 43)), (3, .int (nI i))]) (kk : ∀ (M : am_M) (H : Heap) (locs : List Loc), JJ M → va_P (dC, dI) vwCl (am_w ad (am_sh ca) 63 M) H → va_S (am_A ad 63) H0 H locs → W p l e room_1 s m #[Value.ref b] below meth c H locs cells slots Z (F0 m 720 ls [])) : W p l e room_1 s m #[Value.ref b] below meth c H locs cells slots Z (F0 m 414 ls []) := by
  obtain ⟨hx, hb, hml, hown, hta, hK, hN, hI, hX, hbl, hbA⟩ := C
  obtain ⟨x, y⟩ := M
  refine lv_aload_n hx hb dL_law_414 rfl (lv_at hl 1 rfl) ?_
  refine lv_aload_n hx hb dL_law_415 rfl (lv_at hl 0 rfl) ?_
  refine lv_iload_n hx hb dL_law_416 rfl (lv_at hl 3 rfl) ?_
  refine lv_iconst (v := nI 1) hx hb dL_law_417 rfl ?_
  refine lv_iadd hx hb dL_law_418 ?_
  refine lw_ld hx hb hX hbl hbA hS (by omega) hL dL_law_419 ?_
  have h := op_stage hj (xs (i + 1))
  refine am_calli (va_runV (C := RX0) (As := [.int (xs (i + 1))]) (rest := []) ⟨hx, hb, hml, hown, hta⟩ (c_X0_stage l dC dI ca ad hI (x, y) (xs (i + 1)) _ h) ⟨callB_of 1 hta (am_gdL mc_X0_stage) rfl rfl rfl (hta _ mn_X0) (hta _ ml_L_57) dc_X0_stage ⟨Nat.le_of_ble_eq_true rfl, Nat.le_of_ble_eq_true rfl⟩, hta _ mi_X0_stage, hta _ me_X0_stage⟩ (am_preV (q := (RX0, TX0, 4)) hK hN hP rfl (by decide) (am_s_outer ca)) rfl rfl hl.1 rfl (lv_room (Nat.le_of_ble_eq_true rfl)) dL_law_420 hcs) hS (fun r1 M1 H locs hP hS h => ?_)
  refine lv_aload_n hx hb dL_law_423 rfl (lv_at hl 2 rfl) ?_
  refine lv_aload_n hx hb dL_law_424 rfl (lv_at hl 0 rfl) ?_
  refine lv_iload_n hx hb dL_law_425 rfl (lv_at hl 3 rfl) ?_
  refine lv_iconst (v := nI 1) hx hb dL_law_426 rfl ?_
  refine lv_iadd hx hb dL_law_427 ?_
  refine lw_ld hx hb hX hbl hbA hS (by omega) hL dL_law_428 ?_
  refine am_calli (va_runV (C := RX5) (As := [.int (xs (i + 1))]) (rest := [.int r1]) ⟨hx, hb, hml, hown, hta⟩ (c_X5_stage l dC dI ca ad hI M1 (xs (i + 1)) _ h) ⟨callB_of 1 hta (am_gdL mc_X5_stage) rfl rfl rfl (hta _ mn_X5) (hta _ ml_L_60) dc_X5_stage ⟨Nat.le_of_ble_eq_true rfl, Nat.le_of_ble_eq_true rfl⟩, hta _ mi_X5_stage, hta _ me_X5_stage⟩ (am_preV (q := (RX5, TX5, 21)) hK hN hP rfl (by decide) (am_s_model ca)) rfl rfl hl.1 rfl (lv_room (Nat.le_of_ble_eq_true rfl)) dL_law_429 hcs) hS (fun r2 M2 H locs hP hS h => ?_)
  exact lv_icmp_eq (tgt := 720) hx hb dL_law_432 rfl (fun _ => kk _ _ _ h.2 hP hS) (fun hc => absurd h.1 hc)
set_option maxHeartbeats 4000000 in
set_option maxRecDepth 100000 in
theorem lw_c11 {p : Program} {l : Launch} {e : Env} {s : State} {m : MethodId} {below : List Frame} {meth : Method} {c : Code} {b L : Nat} {xs : Nat → Int32} {dC : Nat → ClassId} {dI : Nat → Nat → Nat} {ca : Nat → ClassId} {ad : Nat → Nat} {H0 H : Heap} {locs : List Loc} {ls : Array Slot} {cells slots i : Nat} {Z : State → Prop} {M : am_M} (C : lw_C p s m c b L xs dC dI ca ad H0) (hcs : cells ≤ 600000 ∧ slots ≤ 7302250) (hL : L ≤ 2048) (hi : i + 4 ≤ L) (hj : JJ M) (hP : va_P (dC, dI) vwCl (am_w ad (am_sh ca) 63 M) H) (hS : va_S (am_A ad 63) H0 H locs) (hl : lv_has ls 4 [(0, .ref b), (1, .ref (ad 0)), (2, .ref (ad 43)), (3, .int (nI i))]) (kk : ∀ (M : am_M) (H : Heap) (locs : List Loc), JJ M → va_P (dC, dI) vwCl (am_w ad (am_sh ca) 63 M) H → va_S (am_A ad 63) H0 H locs → W p l e room_1 s m #[Value.ref b] below meth c H locs cells slots Z (F0 m 720 ls [])) : W p l e room_1 s m #[Value.ref b] below meth c H locs cells slots Z (F0 m 437 ls []) := by
  obtain ⟨hx, hb, hml, hown, hta, hK, hN, hI, hX, hbl, hbA⟩ := C
  obtain ⟨x, y⟩ := M
  refine lv_aload_n hx hb dL_law_437 rfl (lv_at hl 1 rfl) ?_
  refine lv_aload_n hx hb dL_law_438 rfl (lv_at hl 0 rfl) ?_
  refine lv_iload_n hx hb dL_law_439 rfl (lv_at hl 3 rfl) ?_
  refine lv_iconst (v := nI 1) hx hb dL_law_440 rfl ?_
  refine lv_iadd hx hb dL_law_441 ?_
  refine lw_ld hx hb hX hbl hbA hS (by omega) hL dL_law_442 ?_
  refine lv_aload_n hx hb dL_law_443 rfl (lv_at hl 0 rfl) ?_
  refine lv_iload_n hx hb dL_law_444 rfl (lv_at hl 3 rfl) ?_
  refine lv_iconst (v := nI 2) hx hb dL_law_445 rfl ?_
  refine lv_iadd hx hb dL_law_446 ?_
  refine lw_ld hx hb hX hbl hbA hS (by omega) hL dL_law_447 ?_
  have h := op_nodes hj (xs (i + 1)) (xs (i + 2))
  refine am_calli (va_runV (C := RX0) (As := [.int (xs (i + 1)), .int (xs (i + 2))]) (rest := []) ⟨hx, hb, hml, hown, hta⟩ (c_X0_nodes l dC dI ca ad hI (x, y) (xs (i + 1)) (xs (i + 2)) _ h) ⟨callB_of 2 hta (am_gdL mc_X0_nodes) rfl rfl rfl (hta _ mn_X0) (hta _ ml_L_61) dc_X0_nodes ⟨Nat.le_of_ble_eq_true rfl, Nat.le_of_ble_eq_true rfl⟩, hta _ mi_X0_nodes, hta _ me_X0_nodes⟩ (am_preV (q := (RX0, TX0, 4)) hK hN hP rfl (by decide) (am_s_outer ca)) rfl rfl hl.1 rfl (lv_room (Nat.le_of_ble_eq_true rfl)) dL_law_448 hcs) hS (fun r1 M1 H locs hP hS h => ?_)
  refine lv_aload_n hx hb dL_law_451 rfl (lv_at hl 2 rfl) ?_
  refine lv_aload_n hx hb dL_law_452 rfl (lv_at hl 0 rfl) ?_
  refine lv_iload_n hx hb dL_law_453 rfl (lv_at hl 3 rfl) ?_
  refine lv_iconst (v := nI 1) hx hb dL_law_454 rfl ?_
  refine lv_iadd hx hb dL_law_455 ?_
  refine lw_ld hx hb hX hbl hbA hS (by omega) hL dL_law_456 ?_
  refine lv_aload_n hx hb dL_law_457 rfl (lv_at hl 0 rfl) ?_
  refine lv_iload_n hx hb dL_law_458 rfl (lv_at hl 3 rfl) ?_
  refine lv_iconst (v := nI 2) hx hb dL_law_459 rfl ?_
  refine lv_iadd hx hb dL_law_460 ?_
  refine lw_ld hx hb hX hbl hbA hS (by omega) hL dL_law_461 ?_
  refine am_calli (va_runV (C := RX5) (As := [.int (xs (i + 1)), .int (xs (i + 2))]) (rest := [.int r1]) ⟨hx, hb, hml, hown, hta⟩ (c_X5_nodes l dC dI ca ad hI M1 (xs (i + 1)) (xs (i + 2)) _ h) ⟨callB_of 2 hta (am_gdL mc_X5_nodes) rfl rfl rfl (hta _ mn_X5) (hta _ ml_L_65) dc_X5_nodes ⟨Nat.le_of_ble_eq_true rfl, Nat.le_of_ble_eq_true rfl⟩, hta _ mi_X5_nodes, hta _ me_X5_nodes⟩ (am_preV (q := (RX5, TX5, 21)) hK hN hP rfl (by decide) (am_s_model ca)) rfl rfl hl.1 rfl (lv_room (Nat.le_of_ble_eq_true rfl)) dL_law_462 hcs) hS (fun r2 M2 H locs hP hS h => ?_)
  exact lv_icmp_eq (tgt := 720) hx hb dL_law_465 rfl (fun _ => kk _ _ _ h.2 hP hS) (fun hc => absurd h.1 hc)
set_option maxHeartbeats 4000000 in
set_option maxRecDepth 100000 in
theorem lw_c12 {p : Program} {l : Launch} {e : Env} {s : State} {m : MethodId} {below : List Frame} {meth : Method} {c : Code} {b L : Nat} {xs : Nat → Int32} {dC : Nat → ClassId} {dI : Nat → Nat → Nat} {ca : Nat → ClassId} {ad : Nat → Nat} {H0 H : Heap} {locs : List Loc} {ls : Array Slot} {cells slots i : Nat} {Z : State → Prop} {M : am_M} (C : lw_C p s m c b L xs dC dI ca ad H0) (hcs : cells ≤ 600000 ∧ slots ≤ 7302250) (hL : L ≤ 2048) (hi : i + 4 ≤ L) (hj : JJ M) (hP : va_P (dC, dI) vwCl (am_w ad (am_sh ca) 63 M) H) (hS : va_S (am_A ad 63) H0 H locs) (hl : lv_has ls 4 [(0, .ref b), (1, .ref (ad 0)), (2, .ref (ad 43)), (3, .int (nI i))]) (kk : ∀ (M : am_M) (H : Heap) (locs : List Loc), JJ M → va_P (dC, dI) vwCl (am_w ad (am_sh ca) 63 M) H → va_S (am_A ad 63) H0 H locs → W p l e room_1 s m #[Value.ref b] below meth c H locs cells slots Z (F0 m 720 ls [])) : W p l e room_1 s m #[Value.ref b] below meth c H locs cells slots Z (F0 m 470 ls []) := by
  obtain ⟨hx, hb, hml, hown, hta, hK, hN, hI, hX, hbl, hbA⟩ := C
  obtain ⟨x, y⟩ := M
  refine lv_aload_n hx hb dL_law_470 rfl (lv_at hl 1 rfl) ?_
  refine lv_aload_n hx hb dL_law_471 rfl (lv_at hl 0 rfl) ?_
  refine lv_iload_n hx hb dL_law_472 rfl (lv_at hl 3 rfl) ?_
  refine lv_iconst (v := nI 1) hx hb dL_law_473 rfl ?_
  refine lv_iadd hx hb dL_law_474 ?_
  refine lw_ld hx hb hX hbl hbA hS (by omega) hL dL_law_475 ?_
  refine lv_aload_n hx hb dL_law_476 rfl (lv_at hl 0 rfl) ?_
  refine lv_iload_n hx hb dL_law_477 rfl (lv_at hl 3 rfl) ?_
  refine lv_iconst (v := nI 2) hx hb dL_law_478 rfl ?_
  refine lv_iadd hx hb dL_law_479 ?_
  refine lw_ld hx hb hX hbl hbA hS (by omega) hL dL_law_480 ?_
  have h := op_state hj (xs (i + 1)) (xs (i + 2))
  refine am_calli (va_runV (C := RX0) (As := [.int (xs (i + 1)), .int (xs (i + 2))]) (rest := []) ⟨hx, hb, hml, hown, hta⟩ (c_X0_state l dC dI ca ad hI (x, y) (xs (i + 1)) (xs (i + 2)) _ h) ⟨callB_of 2 hta (am_gdL mc_X0_state) rfl rfl rfl (hta _ mn_X0) (hta _ ml_L_66) dc_X0_state ⟨Nat.le_of_ble_eq_true rfl, Nat.le_of_ble_eq_true rfl⟩, hta _ mi_X0_state, hta _ me_X0_state⟩ (am_preV (q := (RX0, TX0, 4)) hK hN hP rfl (by decide) (am_s_outer ca)) rfl rfl hl.1 rfl (lv_room (Nat.le_of_ble_eq_true rfl)) dL_law_481 hcs) hS (fun r1 M1 H locs hP hS h => ?_)
  refine lv_aload_n hx hb dL_law_484 rfl (lv_at hl 2 rfl) ?_
  refine lv_aload_n hx hb dL_law_485 rfl (lv_at hl 0 rfl) ?_
  refine lv_iload_n hx hb dL_law_486 rfl (lv_at hl 3 rfl) ?_
  refine lv_iconst (v := nI 1) hx hb dL_law_487 rfl ?_
  refine lv_iadd hx hb dL_law_488 ?_
  refine lw_ld hx hb hX hbl hbA hS (by omega) hL dL_law_489 ?_
  refine lv_aload_n hx hb dL_law_490 rfl (lv_at hl 0 rfl) ?_
  refine lv_iload_n hx hb dL_law_491 rfl (lv_at hl 3 rfl) ?_
  refine lv_iconst (v := nI 2) hx hb dL_law_492 rfl ?_
  refine lv_iadd hx hb dL_law_493 ?_
  refine lw_ld hx hb hX hbl hbA hS (by omega) hL dL_law_494 ?_
  refine am_calli (va_runV (C := RX5) (As := [.int (xs (i + 1)), .int (xs (i + 2))]) (rest := [.int r1]) ⟨hx, hb, hml, hown, hta⟩ (c_X5_state l dC dI ca ad hI M1 (xs (i + 1)) (xs (i + 2)) _ h) ⟨callB_of 2 hta (am_gdL mc_X5_state) rfl rfl rfl (hta _ mn_X5) (hta _ ml_L_69) dc_X5_state ⟨Nat.le_of_ble_eq_true rfl, Nat.le_of_ble_eq_true rfl⟩, hta _ mi_X5_state, hta _ me_X5_state⟩ (am_preV (q := (RX5, TX5, 21)) hK hN hP rfl (by decide) (am_s_model ca)) rfl rfl hl.1 rfl (lv_room (Nat.le_of_ble_eq_true rfl)) dL_law_495 hcs) hS (fun r2 M2 H locs hP hS h => ?_)
  exact lv_icmp_eq (tgt := 720) hx hb dL_law_498 rfl (fun _ => kk _ _ _ h.2 hP hS) (fun hc => absurd h.1 hc)
set_option maxHeartbeats 4000000 in
set_option maxRecDepth 100000 in
theorem lw_c13 {p : Program} {l : Launch} {e : Env} {s : State} {m : MethodId} {below : List Frame} {meth : Method} {c : Code} {b L : Nat} {xs : Nat → Int32} {dC : Nat → ClassId} {dI : Nat → Nat → Nat} {ca : Nat → ClassId} {ad : Nat → Nat} {H0 H : Heap} {locs : List Loc} {ls : Array Slot} {cells slots i : Nat} {Z : State → Prop} {M : am_M} (C : lw_C p s m c b L xs dC dI ca ad H0) (hcs : cells ≤ 600000 ∧ slots ≤ 7302250) (hL : L ≤ 2048) (hi : i + 4 ≤ L) (hj : JJ M) (hP : va_P (dC, dI) vwCl (am_w ad (am_sh ca) 63 M) H) (hS : va_S (am_A ad 63) H0 H locs) (hl : lv_has ls 4 [(0, .ref b), (1, .ref (ad 0)), (2, .ref (ad 43)), (3, .int (nI i))]) (kk : ∀ (M : am_M) (H : Heap) (locs : List Loc), JJ M → va_P (dC, dI) vwCl (am_w ad (am_sh ca) 63 M) H → va_S (am_A ad 63) H0 H locs → W p l e room_1 s m #[Value.ref b] below meth c H locs cells slots Z (F0 m 720 ls [])) : W p l e room_1 s m #[Value.ref b] below meth c H locs cells slots Z (F0 m 503 ls []) := by
  obtain ⟨hx, hb, hml, hown, hta, hK, hN, hI, hX, hbl, hbA⟩ := C
  obtain ⟨x, y⟩ := M
  refine lv_aload_n hx hb dL_law_503 rfl (lv_at hl 1 rfl) ?_
  refine lv_aload_n hx hb dL_law_504 rfl (lv_at hl 0 rfl) ?_
  refine lv_iload_n hx hb dL_law_505 rfl (lv_at hl 3 rfl) ?_
  refine lv_iconst (v := nI 1) hx hb dL_law_506 rfl ?_
  refine lv_iadd hx hb dL_law_507 ?_
  refine lw_ld hx hb hX hbl hbA hS (by omega) hL dL_law_508 ?_
  refine lv_aload_n hx hb dL_law_509 rfl (lv_at hl 0 rfl) ?_
  refine lv_iload_n hx hb dL_law_510 rfl (lv_at hl 3 rfl) ?_
  refine lv_iconst (v := nI 2) hx hb dL_law_511 rfl ?_
  refine lv_iadd hx hb dL_law_512 ?_
  refine lw_ld hx hb hX hbl hbA hS (by omega) hL dL_law_513 ?_
  have h := op_holder hj (xs (i + 1)) (xs (i + 2))
  refine am_calli (va_runV (C := RX0) (As := [.int (xs (i + 1)), .int (xs (i + 2))]) (rest := []) ⟨hx, hb, hml, hown, hta⟩ (c_X0_holder l dC dI ca ad hI (x, y) (xs (i + 1)) (xs (i + 2)) _ h) ⟨callB_of 2 hta (am_gdL mc_X0_holder) rfl rfl rfl (hta _ mn_X0) (hta _ ml_L_70) dc_X0_holder ⟨Nat.le_of_ble_eq_true rfl, Nat.le_of_ble_eq_true rfl⟩, hta _ mi_X0_holder, hta _ me_X0_holder⟩ (am_preV (q := (RX0, TX0, 4)) hK hN hP rfl (by decide) (am_s_outer ca)) rfl rfl hl.1 rfl (lv_room (Nat.le_of_ble_eq_true rfl)) dL_law_514 hcs) hS (fun r1 M1 H locs hP hS h => ?_)
  refine lv_aload_n hx hb dL_law_517 rfl (lv_at hl 2 rfl) ?_
  refine lv_aload_n hx hb dL_law_518 rfl (lv_at hl 0 rfl) ?_
  refine lv_iload_n hx hb dL_law_519 rfl (lv_at hl 3 rfl) ?_
  refine lv_iconst (v := nI 1) hx hb dL_law_520 rfl ?_
  refine lv_iadd hx hb dL_law_521 ?_
  refine lw_ld hx hb hX hbl hbA hS (by omega) hL dL_law_522 ?_
  refine lv_aload_n hx hb dL_law_523 rfl (lv_at hl 0 rfl) ?_
  refine lv_iload_n hx hb dL_law_524 rfl (lv_at hl 3 rfl) ?_
  refine lv_iconst (v := nI 2) hx hb dL_law_525 rfl ?_
  refine lv_iadd hx hb dL_law_526 ?_
  refine lw_ld hx hb hX hbl hbA hS (by omega) hL dL_law_527 ?_
  refine am_calli (va_runV (C := RX5) (As := [.int (xs (i + 1)), .int (xs (i + 2))]) (rest := [.int r1]) ⟨hx, hb, hml, hown, hta⟩ (c_X5_holder l dC dI ca ad hI M1 (xs (i + 1)) (xs (i + 2)) _ h) ⟨callB_of 2 hta (am_gdL mc_X5_holder) rfl rfl rfl (hta _ mn_X5) (hta _ ml_L_73) dc_X5_holder ⟨Nat.le_of_ble_eq_true rfl, Nat.le_of_ble_eq_true rfl⟩, hta _ mi_X5_holder, hta _ me_X5_holder⟩ (am_preV (q := (RX5, TX5, 21)) hK hN hP rfl (by decide) (am_s_model ca)) rfl rfl hl.1 rfl (lv_room (Nat.le_of_ble_eq_true rfl)) dL_law_528 hcs) hS (fun r2 M2 H locs hP hS h => ?_)
  exact lv_icmp_eq (tgt := 720) hx hb dL_law_531 rfl (fun _ => kk _ _ _ h.2 hP hS) (fun hc => absurd h.1 hc)
set_option maxHeartbeats 4000000 in
set_option maxRecDepth 100000 in
theorem lw_c14 {p : Program} {l : Launch} {e : Env} {s : State} {m : MethodId} {below : List Frame} {meth : Method} {c : Code} {b L : Nat} {xs : Nat → Int32} {dC : Nat → ClassId} {dI : Nat → Nat → Nat} {ca : Nat → ClassId} {ad : Nat → Nat} {H0 H : Heap} {locs : List Loc} {ls : Array Slot} {cells slots i : Nat} {Z : State → Prop} {M : am_M} (C : lw_C p s m c b L xs dC dI ca ad H0) (hcs : cells ≤ 600000 ∧ slots ≤ 7302250) (hL : L ≤ 2048) (hi : i + 4 ≤ L) (hj : JJ M) (hP : va_P (dC, dI) vwCl (am_w ad (am_sh ca) 63 M) H) (hS : va_S (am_A ad 63) H0 H locs) (hl : lv_has ls 4 [(0, .ref b), (1, .ref (ad 0)), (2, .ref (ad 43)), (3, .int (nI i))]) (kk : ∀ (M : am_M) (H : Heap) (locs : List Loc), JJ M → va_P (dC, dI) vwCl (am_w ad (am_sh ca) 63 M) H → va_S (am_A ad 63) H0 H locs → W p l e room_1 s m #[Value.ref b] below meth c H locs cells slots Z (F0 m 720 ls [])) : W p l e room_1 s m #[Value.ref b] below meth c H locs cells slots Z (F0 m 536 ls []) := by
  obtain ⟨hx, hb, hml, hown, hta, hK, hN, hI, hX, hbl, hbA⟩ := C
  obtain ⟨x, y⟩ := M
  by_cases hz : xs (i + 2) = 0
  · refine lv_aload_n hx hb dL_law_536 rfl (lv_at hl 1 rfl) ?_
    refine lv_aload_n hx hb dL_law_537 rfl (lv_at hl 0 rfl) ?_
    refine lv_iload_n hx hb dL_law_538 rfl (lv_at hl 3 rfl) ?_
    refine lv_iconst (v := nI 1) hx hb dL_law_539 rfl ?_
    refine lv_iadd hx hb dL_law_540 ?_
    refine lw_ld hx hb hX hbl hbA hS (by omega) hL dL_law_541 ?_
    refine lv_aload_n hx hb dL_law_542 rfl (lv_at hl 0 rfl) ?_
    refine lv_iload_n hx hb dL_law_543 rfl (lv_at hl 3 rfl) ?_
    refine lv_iconst (v := nI 2) hx hb dL_law_544 rfl ?_
    refine lv_iadd hx hb dL_law_545 ?_
    refine lw_ld hx hb hX hbl hbA hS (by omega) hL dL_law_546 ?_
    refine lv_if_eq (tgt := 554) hx hb dL_law_547 rfl (fun _ => ?_) (fun hc => absurd hz hc)
    refine lv_iconst (v := nI 0) hx hb dL_law_554 rfl ?_
    have h := op_records hj (xs (i + 1)) (nI 0)
    refine am_calli (va_runV (C := RX0) (As := [.int (xs (i + 1)), .int (nI 0)]) (rest := []) ⟨hx, hb, hml, hown, hta⟩ (c_X0_records l dC dI ca ad hI (x, y) (xs (i + 1)) (nI 0) _ h) ⟨callB_of 2 hta (am_gdL mc_X0_records) rfl rfl rfl (hta _ mn_X0) (hta _ ml_L_74) dc_X0_records ⟨Nat.le_of_ble_eq_true rfl, Nat.le_of_ble_eq_true rfl⟩, hta _ mi_X0_records, hta _ me_X0_records⟩ (am_preV (q := (RX0, TX0, 4)) hK hN hP rfl (by decide) (am_s_outer ca)) rfl rfl hl.1 rfl (lv_room (Nat.le_of_ble_eq_true rfl)) dL_law_555 hcs) hS (fun r1 M1 H locs hP hS h => ?_)
    refine lv_aload_n hx hb dL_law_558 rfl (lv_at hl 2 rfl) ?_
    refine lv_aload_n hx hb dL_law_559 rfl (lv_at hl 0 rfl) ?_
    refine lv_iload_n hx hb dL_law_560 rfl (lv_at hl 3 rfl) ?_
    refine lv_iconst (v := nI 1) hx hb dL_law_561 rfl ?_
    refine lv_iadd hx hb dL_law_562 ?_
    refine lw_ld hx hb hX hbl hbA hS (by omega) hL dL_law_563 ?_
    refine lv_aload_n hx hb dL_law_564 rfl (lv_at hl 0 rfl) ?_
    refine lv_iload_n hx hb dL_law_565 rfl (lv_at hl 3 rfl) ?_
    refine lv_iconst (v := nI 2) hx hb dL_law_566 rfl ?_
    refine lv_iadd hx hb dL_law_567 ?_
    refine lw_ld hx hb hX hbl hbA hS (by omega) hL dL_law_568 ?_
    refine lv_if_eq (tgt := 576) hx hb dL_law_569 rfl (fun _ => ?_) (fun hc => absurd hz hc)
    refine lv_iconst (v := nI 0) hx hb dL_law_576 rfl ?_
    refine am_calli (va_runV (C := RX5) (As := [.int (xs (i + 1)), .int (nI 0)]) (rest := [.int r1]) ⟨hx, hb, hml, hown, hta⟩ (c_X5_records l dC dI ca ad hI M1 (xs (i + 1)) (nI 0) _ h) ⟨callB_of 2 hta (am_gdL mc_X5_records) rfl rfl rfl (hta _ mn_X5) (hta _ ml_L_78) dc_X5_records ⟨Nat.le_of_ble_eq_true rfl, Nat.le_of_ble_eq_true rfl⟩, hta _ mi_X5_records, hta _ me_X5_records⟩ (am_preV (q := (RX5, TX5, 21)) hK hN hP rfl (by decide) (am_s_model ca)) rfl rfl hl.1 rfl (lv_room (Nat.le_of_ble_eq_true rfl)) dL_law_577 hcs) hS (fun r2 M2 H locs hP hS h => ?_)
    exact lv_icmp_eq (tgt := 720) hx hb dL_law_580 rfl (fun _ => kk _ _ _ h.2 hP hS) (fun hc => absurd h.1 hc)
  · refine lv_aload_n hx hb dL_law_536 rfl (lv_at hl 1 rfl) ?_
    refine lv_aload_n hx hb dL_law_537 rfl (lv_at hl 0 rfl) ?_
    refine lv_iload_n hx hb dL_law_538 rfl (lv_at hl 3 rfl) ?_
    refine lv_iconst (v := nI 1) hx hb dL_law_539 rfl ?_
    refine lv_iadd hx hb dL_law_540 ?_
    refine lw_ld hx hb hX hbl hbA hS (by omega) hL dL_law_541 ?_
    refine lv_aload_n hx hb dL_law_542 rfl (lv_at hl 0 rfl) ?_
    refine lv_iload_n hx hb dL_law_543 rfl (lv_at hl 3 rfl) ?_
    refine lv_iconst (v := nI 2) hx hb dL_law_544 rfl ?_
    refine lv_iadd hx hb dL_law_545 ?_
    refine lw_ld hx hb hX hbl hbA hS (by omega) hL dL_law_546 ?_
    refine lv_if_eq (tgt := 554) hx hb dL_law_547 rfl (fun hc => absurd hc hz) (fun _ => ?_)
    refine lv_iconst (v := nI 1) hx hb dL_law_550 rfl ?_
    refine lv_goto (tgt := 555) hx hb dL_law_551 rfl ?_
    have h := op_records hj (xs (i + 1)) (nI 1)
    refine am_calli (va_runV (C := RX0) (As := [.int (xs (i + 1)), .int (nI 1)]) (rest := []) ⟨hx, hb, hml, hown, hta⟩ (c_X0_records l dC dI ca ad hI (x, y) (xs (i + 1)) (nI 1) _ h) ⟨callB_of 2 hta (am_gdL mc_X0_records) rfl rfl rfl (hta _ mn_X0) (hta _ ml_L_74) dc_X0_records ⟨Nat.le_of_ble_eq_true rfl, Nat.le_of_ble_eq_true rfl⟩, hta _ mi_X0_records, hta _ me_X0_records⟩ (am_preV (q := (RX0, TX0, 4)) hK hN hP rfl (by decide) (am_s_outer ca)) rfl rfl hl.1 rfl (lv_room (Nat.le_of_ble_eq_true rfl)) dL_law_555 hcs) hS (fun r1 M1 H locs hP hS h => ?_)
    refine lv_aload_n hx hb dL_law_558 rfl (lv_at hl 2 rfl) ?_
    refine lv_aload_n hx hb dL_law_559 rfl (lv_at hl 0 rfl) ?_
    refine lv_iload_n hx hb dL_law_560 rfl (lv_at hl 3 rfl) ?_
    refine lv_iconst (v := nI 1) hx hb dL_law_561 rfl ?_
    refine lv_iadd hx hb dL_law_562 ?_
    refine lw_ld hx hb hX hbl hbA hS (by omega) hL dL_law_563 ?_
    refine lv_aload_n hx hb dL_law_564 rfl (lv_at hl 0 rfl) ?_
    refine lv_iload_n hx hb dL_law_565 rfl (lv_at hl 3 rfl) ?_
    refine lv_iconst (v := nI 2) hx hb dL_law_566 rfl ?_
    refine lv_iadd hx hb dL_law_567 ?_
    refine lw_ld hx hb hX hbl hbA hS (by omega) hL dL_law_568 ?_
    refine lv_if_eq (tgt := 576) hx hb dL_law_569 rfl (fun hc => absurd hc hz) (fun _ => ?_)
    refine lv_iconst (v := nI 1) hx hb dL_law_572 rfl ?_
    refine lv_goto (tgt := 577) hx hb dL_law_573 rfl ?_
    refine am_calli (va_runV (C := RX5) (As := [.int (xs (i + 1)), .int (nI 1)]) (rest := [.int r1]) ⟨hx, hb, hml, hown, hta⟩ (c_X5_records l dC dI ca ad hI M1 (xs (i + 1)) (nI 1) _ h) ⟨callB_of 2 hta (am_gdL mc_X5_records) rfl rfl rfl (hta _ mn_X5) (hta _ ml_L_78) dc_X5_records ⟨Nat.le_of_ble_eq_true rfl, Nat.le_of_ble_eq_true rfl⟩, hta _ mi_X5_records, hta _ me_X5_records⟩ (am_preV (q := (RX5, TX5, 21)) hK hN hP rfl (by decide) (am_s_model ca)) rfl rfl hl.1 rfl (lv_room (Nat.le_of_ble_eq_true rfl)) dL_law_577 hcs) hS (fun r2 M2 H locs hP hS h => ?_)
    exact lv_icmp_eq (tgt := 720) hx hb dL_law_580 rfl (fun _ => kk _ _ _ h.2 hP hS) (fun hc => absurd h.1 hc)
set_option maxHeartbeats 4000000 in
set_option maxRecDepth 100000 in
theorem lw_c15 {p : Program} {l : Launch} {e : Env} {s : State} {m : MethodId} {below : List Frame} {meth : Method} {c : Code} {b L : Nat} {xs : Nat → Int32} {dC : Nat → ClassId} {dI : Nat → Nat → Nat} {ca : Nat → ClassId} {ad : Nat → Nat} {H0 H : Heap} {locs : List Loc} {ls : Array Slot} {cells slots i : Nat} {Z : State → Prop} {M : am_M} (C : lw_C p s m c b L xs dC dI ca ad H0) (hcs : cells ≤ 600000 ∧ slots ≤ 7302250) (hL : L ≤ 2048) (hi : i + 4 ≤ L) (hj : JJ M) (hP : va_P (dC, dI) vwCl (am_w ad (am_sh ca) 63 M) H) (hS : va_S (am_A ad 63) H0 H locs) (hl : lv_has ls 4 [(0, .ref b), (1, .ref (ad 0)), (2, .ref (ad 43)), (3, .int (nI i))]) (kk : ∀ (M : am_M) (H : Heap) (locs : List Loc), JJ M → va_P (dC, dI) vwCl (am_w ad (am_sh ca) 63 M) H → va_S (am_A ad 63) H0 H locs → W p l e room_1 s m #[Value.ref b] below meth c H locs cells slots Z (F0 m 720 ls [])) : W p l e room_1 s m #[Value.ref b] below meth c H locs cells slots Z (F0 m 585 ls []) := by
  obtain ⟨hx, hb, hml, hown, hta, hK, hN, hI, hX, hbl, hbA⟩ := C
  obtain ⟨x, y⟩ := M
  refine lv_aload_n hx hb dL_law_585 rfl (lv_at hl 1 rfl) ?_
  refine lv_aload_n hx hb dL_law_586 rfl (lv_at hl 0 rfl) ?_
  refine lv_iload_n hx hb dL_law_587 rfl (lv_at hl 3 rfl) ?_
  refine lv_iconst (v := nI 1) hx hb dL_law_588 rfl ?_
  refine lv_iadd hx hb dL_law_589 ?_
  refine lw_ld hx hb hX hbl hbA hS (by omega) hL dL_law_590 ?_
  refine lv_aload_n hx hb dL_law_591 rfl (lv_at hl 0 rfl) ?_
  refine lv_iload_n hx hb dL_law_592 rfl (lv_at hl 3 rfl) ?_
  refine lv_iconst (v := nI 2) hx hb dL_law_593 rfl ?_
  refine lv_iadd hx hb dL_law_594 ?_
  refine lw_ld hx hb hX hbl hbA hS (by omega) hL dL_law_595 ?_
  have h := op_entry hj (xs (i + 1)) (xs (i + 2))
  refine am_calli (va_runV (C := RX0) (As := [.int (xs (i + 1)), .int (xs (i + 2))]) (rest := []) ⟨hx, hb, hml, hown, hta⟩ (c_X0_entry l dC dI ca ad hI (x, y) (xs (i + 1)) (xs (i + 2)) _ h) ⟨callB_of 2 hta (am_gdL mc_X0_entry) rfl rfl rfl (hta _ mn_X0) (hta _ ml_L_79) dc_X0_entry ⟨Nat.le_of_ble_eq_true rfl, Nat.le_of_ble_eq_true rfl⟩, hta _ mi_X0_entry, hta _ me_X0_entry⟩ (am_preV (q := (RX0, TX0, 4)) hK hN hP rfl (by decide) (am_s_outer ca)) rfl rfl hl.1 rfl (lv_room (Nat.le_of_ble_eq_true rfl)) dL_law_596 hcs) hS (fun r1 M1 H locs hP hS h => ?_)
  refine lv_aload_n hx hb dL_law_599 rfl (lv_at hl 2 rfl) ?_
  refine lv_aload_n hx hb dL_law_600 rfl (lv_at hl 0 rfl) ?_
  refine lv_iload_n hx hb dL_law_601 rfl (lv_at hl 3 rfl) ?_
  refine lv_iconst (v := nI 1) hx hb dL_law_602 rfl ?_
  refine lv_iadd hx hb dL_law_603 ?_
  refine lw_ld hx hb hX hbl hbA hS (by omega) hL dL_law_604 ?_
  refine lv_aload_n hx hb dL_law_605 rfl (lv_at hl 0 rfl) ?_
  refine lv_iload_n hx hb dL_law_606 rfl (lv_at hl 3 rfl) ?_
  refine lv_iconst (v := nI 2) hx hb dL_law_607 rfl ?_
  refine lv_iadd hx hb dL_law_608 ?_
  refine lw_ld hx hb hX hbl hbA hS (by omega) hL dL_law_609 ?_
  refine am_calli (va_runV (C := RX5) (As := [.int (xs (i + 1)), .int (xs (i + 2))]) (rest := [.int r1]) ⟨hx, hb, hml, hown, hta⟩ (c_X5_entry l dC dI ca ad hI M1 (xs (i + 1)) (xs (i + 2)) _ h) ⟨callB_of 2 hta (am_gdL mc_X5_entry) rfl rfl rfl (hta _ mn_X5) (hta _ ml_L_82) dc_X5_entry ⟨Nat.le_of_ble_eq_true rfl, Nat.le_of_ble_eq_true rfl⟩, hta _ mi_X5_entry, hta _ me_X5_entry⟩ (am_preV (q := (RX5, TX5, 21)) hK hN hP rfl (by decide) (am_s_model ca)) rfl rfl hl.1 rfl (lv_room (Nat.le_of_ble_eq_true rfl)) dL_law_610 hcs) hS (fun r2 M2 H locs hP hS h => ?_)
  exact lv_icmp_eq (tgt := 720) hx hb dL_law_613 rfl (fun _ => kk _ _ _ h.2 hP hS) (fun hc => absurd h.1 hc)
set_option maxHeartbeats 4000000 in
set_option maxRecDepth 100000 in
theorem lw_c16 {p : Program} {l : Launch} {e : Env} {s : State} {m : MethodId} {below : List Frame} {meth : Method} {c : Code} {b L : Nat} {xs : Nat → Int32} {dC : Nat → ClassId} {dI : Nat → Nat → Nat} {ca : Nat → ClassId} {ad : Nat → Nat} {H0 H : Heap} {locs : List Loc} {ls : Array Slot} {cells slots i : Nat} {Z : State → Prop} {M : am_M} (C : lw_C p s m c b L xs dC dI ca ad H0) (hcs : cells ≤ 600000 ∧ slots ≤ 7302250) (hL : L ≤ 2048) (hi : i + 4 ≤ L) (hj : JJ M) (hP : va_P (dC, dI) vwCl (am_w ad (am_sh ca) 63 M) H) (hS : va_S (am_A ad 63) H0 H locs) (hl : lv_has ls 4 [(0, .ref b), (1, .ref (ad 0)), (2, .ref (ad 43)), (3, .int (nI i))]) (kk : ∀ (M : am_M) (H : Heap) (locs : List Loc), JJ M → va_P (dC, dI) vwCl (am_w ad (am_sh ca) 63 M) H → va_S (am_A ad 63) H0 H locs → W p l e room_1 s m #[Value.ref b] below meth c H locs cells slots Z (F0 m 720 ls [])) : W p l e room_1 s m #[Value.ref b] below meth c H locs cells slots Z (F0 m 618 ls []) := by
  obtain ⟨hx, hb, hml, hown, hta, hK, hN, hI, hX, hbl, hbA⟩ := C
  obtain ⟨x, y⟩ := M
  refine lv_aload_n hx hb dL_law_618 rfl (lv_at hl 1 rfl) ?_
  refine lv_aload_n hx hb dL_law_619 rfl (lv_at hl 0 rfl) ?_
  refine lv_iload_n hx hb dL_law_620 rfl (lv_at hl 3 rfl) ?_
  refine lv_iconst (v := nI 1) hx hb dL_law_621 rfl ?_
  refine lv_iadd hx hb dL_law_622 ?_
  refine lw_ld hx hb hX hbl hbA hS (by omega) hL dL_law_623 ?_
  refine lv_aload_n hx hb dL_law_624 rfl (lv_at hl 0 rfl) ?_
  refine lv_iload_n hx hb dL_law_625 rfl (lv_at hl 3 rfl) ?_
  refine lv_iconst (v := nI 2) hx hb dL_law_626 rfl ?_
  refine lv_iadd hx hb dL_law_627 ?_
  refine lw_ld hx hb hX hbl hbA hS (by omega) hL dL_law_628 ?_
  have h := op_content hj (xs (i + 1)) (xs (i + 2))
  refine am_calli (va_runV (C := RX0) (As := [.int (xs (i + 1)), .int (xs (i + 2))]) (rest := []) ⟨hx, hb, hml, hown, hta⟩ (c_X0_content l dC dI ca ad hI (x, y) (xs (i + 1)) (xs (i + 2)) _ h) ⟨callB_of 2 hta (am_gdL mc_X0_content) rfl rfl rfl (hta _ mn_X0) (hta _ ml_L_83) dc_X0_content ⟨Nat.le_of_ble_eq_true rfl, Nat.le_of_ble_eq_true rfl⟩, hta _ mi_X0_content, hta _ me_X0_content⟩ (am_preV (q := (RX0, TX0, 4)) hK hN hP rfl (by decide) (am_s_outer ca)) rfl rfl hl.1 rfl (lv_room (Nat.le_of_ble_eq_true rfl)) dL_law_629 hcs) hS (fun r1 M1 H locs hP hS h => ?_)
  refine lv_aload_n hx hb dL_law_632 rfl (lv_at hl 2 rfl) ?_
  refine lv_aload_n hx hb dL_law_633 rfl (lv_at hl 0 rfl) ?_
  refine lv_iload_n hx hb dL_law_634 rfl (lv_at hl 3 rfl) ?_
  refine lv_iconst (v := nI 1) hx hb dL_law_635 rfl ?_
  refine lv_iadd hx hb dL_law_636 ?_
  refine lw_ld hx hb hX hbl hbA hS (by omega) hL dL_law_637 ?_
  refine lv_aload_n hx hb dL_law_638 rfl (lv_at hl 0 rfl) ?_
  refine lv_iload_n hx hb dL_law_639 rfl (lv_at hl 3 rfl) ?_
  refine lv_iconst (v := nI 2) hx hb dL_law_640 rfl ?_
  refine lv_iadd hx hb dL_law_641 ?_
  refine lw_ld hx hb hX hbl hbA hS (by omega) hL dL_law_642 ?_
  refine am_calli (va_runV (C := RX5) (As := [.int (xs (i + 1)), .int (xs (i + 2))]) (rest := [.int r1]) ⟨hx, hb, hml, hown, hta⟩ (c_X5_content l dC dI ca ad hI M1 (xs (i + 1)) (xs (i + 2)) _ h) ⟨callB_of 2 hta (am_gdL mc_X5_content) rfl rfl rfl (hta _ mn_X5) (hta _ ml_L_86) dc_X5_content ⟨Nat.le_of_ble_eq_true rfl, Nat.le_of_ble_eq_true rfl⟩, hta _ mi_X5_content, hta _ me_X5_content⟩ (am_preV (q := (RX5, TX5, 21)) hK hN hP rfl (by decide) (am_s_model ca)) rfl rfl hl.1 rfl (lv_room (Nat.le_of_ble_eq_true rfl)) dL_law_643 hcs) hS (fun r2 M2 H locs hP hS h => ?_)
  exact lv_icmp_eq (tgt := 720) hx hb dL_law_646 rfl (fun _ => kk _ _ _ h.2 hP hS) (fun hc => absurd h.1 hc)
set_option maxHeartbeats 4000000 in
set_option maxRecDepth 100000 in
theorem lw_c17 {p : Program} {l : Launch} {e : Env} {s : State} {m : MethodId} {below : List Frame} {meth : Method} {c : Code} {b L : Nat} {xs : Nat → Int32} {dC : Nat → ClassId} {dI : Nat → Nat → Nat} {ca : Nat → ClassId} {ad : Nat → Nat} {H0 H : Heap} {locs : List Loc} {ls : Array Slot} {cells slots i : Nat} {Z : State → Prop} {M : am_M} (C : lw_C p s m c b L xs dC dI ca ad H0) (hcs : cells ≤ 600000 ∧ slots ≤ 7302250) (hL : L ≤ 2048) (hi : i + 4 ≤ L) (hj : JJ M) (hP : va_P (dC, dI) vwCl (am_w ad (am_sh ca) 63 M) H) (hS : va_S (am_A ad 63) H0 H locs) (hl : lv_has ls 4 [(0, .ref b), (1, .ref (ad 0)), (2, .ref (ad 43)), (3, .int (nI i))]) (kk : ∀ (M : am_M) (H : Heap) (locs : List Loc), JJ M → va_P (dC, dI) vwCl (am_w ad (am_sh ca) 63 M) H → va_S (am_A ad 63) H0 H locs → W p l e room_1 s m #[Value.ref b] below meth c H locs cells slots Z (F0 m 720 ls [])) : W p l e room_1 s m #[Value.ref b] below meth c H locs cells slots Z (F0 m 651 ls []) := by
  obtain ⟨hx, hb, hml, hown, hta, hK, hN, hI, hX, hbl, hbA⟩ := C
  obtain ⟨x, y⟩ := M
  refine lv_aload_n hx hb dL_law_651 rfl (lv_at hl 1 rfl) ?_
  have h := op_messages hj
  refine am_calli (va_runV (C := RX0) (As := []) (rest := []) ⟨hx, hb, hml, hown, hta⟩ (c_X0_messages l dC dI ca ad hI (x, y) _ h) ⟨callB_of 0 hta (am_gdL mc_X0_messages) rfl rfl rfl (hta _ mn_X0) (hta _ ml_L_87) dc_X0_messages ⟨Nat.le_of_ble_eq_true rfl, Nat.le_of_ble_eq_true rfl⟩, hta _ mi_X0_messages, hta _ me_X0_messages⟩ (am_preV (q := (RX0, TX0, 4)) hK hN hP rfl (by decide) (am_s_outer ca)) rfl rfl hl.1 rfl (lv_room (Nat.le_of_ble_eq_true rfl)) dL_law_652 hcs) hS (fun r1 M1 H locs hP hS h => ?_)
  refine lv_aload_n hx hb dL_law_655 rfl (lv_at hl 2 rfl) ?_
  refine am_calli (va_runV (C := RX5) (As := []) (rest := [.int r1]) ⟨hx, hb, hml, hown, hta⟩ (c_X5_messages l dC dI ca ad hI M1 _ h) ⟨callB_of 0 hta (am_gdL mc_X5_messages) rfl rfl rfl (hta _ mn_X5) (hta _ ml_L_91) dc_X5_messages ⟨Nat.le_of_ble_eq_true rfl, Nat.le_of_ble_eq_true rfl⟩, hta _ mi_X5_messages, hta _ me_X5_messages⟩ (am_preV (q := (RX5, TX5, 21)) hK hN hP rfl (by decide) (am_s_model ca)) rfl rfl hl.1 rfl (lv_room (Nat.le_of_ble_eq_true rfl)) dL_law_656 hcs) hS (fun r2 M2 H locs hP hS h => ?_)
  exact lv_icmp_eq (tgt := 720) hx hb dL_law_659 rfl (fun _ => kk _ _ _ h.2 hP hS) (fun hc => absurd h.1 hc)
set_option maxHeartbeats 4000000 in
set_option maxRecDepth 100000 in
theorem lw_c18 {p : Program} {l : Launch} {e : Env} {s : State} {m : MethodId} {below : List Frame} {meth : Method} {c : Code} {b L : Nat} {xs : Nat → Int32} {dC : Nat → ClassId} {dI : Nat → Nat → Nat} {ca : Nat → ClassId} {ad : Nat → Nat} {H0 H : Heap} {locs : List Loc} {ls : Array Slot} {cells slots i : Nat} {Z : State → Prop} {M : am_M} (C : lw_C p s m c b L xs dC dI ca ad H0) (hcs : cells ≤ 600000 ∧ slots ≤ 7302250) (hL : L ≤ 2048) (hi : i + 4 ≤ L) (hj : JJ M) (hP : va_P (dC, dI) vwCl (am_w ad (am_sh ca) 63 M) H) (hS : va_S (am_A ad 63) H0 H locs) (hl : lv_has ls 4 [(0, .ref b), (1, .ref (ad 0)), (2, .ref (ad 43)), (3, .int (nI i))]) (kk : ∀ (M : am_M) (H : Heap) (locs : List Loc), JJ M → va_P (dC, dI) vwCl (am_w ad (am_sh ca) 63 M) H → va_S (am_A ad 63) H0 H locs → W p l e room_1 s m #[Value.ref b] below meth c H locs cells slots Z (F0 m 720 ls [])) : W p l e room_1 s m #[Value.ref b] below meth c H locs cells slots Z (F0 m 664 ls []) := by
  obtain ⟨hx, hb, hml, hown, hta, hK, hN, hI, hX, hbl, hbA⟩ := C
  obtain ⟨x, y⟩ := M
  refine lv_aload_n hx hb dL_law_664 rfl (lv_at hl 1 rfl) ?_
  refine lv_aload_n hx hb dL_law_665 rfl (lv_at hl 0 rfl) ?_
  refine lv_iload_n hx hb dL_law_666 rfl (lv_at hl 3 rfl) ?_
  refine lv_iconst (v := nI 1) hx hb dL_law_667 rfl ?_
  refine lv_iadd hx hb dL_law_668 ?_
  refine lw_ld hx hb hX hbl hbA hS (by omega) hL dL_law_669 ?_
  refine lv_aload_n hx hb dL_law_670 rfl (lv_at hl 0 rfl) ?_
  refine lv_iload_n hx hb dL_law_671 rfl (lv_at hl 3 rfl) ?_
  refine lv_iconst (v := nI 2) hx hb dL_law_672 rfl ?_
  refine lv_iadd hx hb dL_law_673 ?_
  refine lw_ld hx hb hX hbl hbA hS (by omega) hL dL_law_674 ?_
  have h := op_message hj (xs (i + 1)) (xs (i + 2))
  refine am_calli (va_runV (C := RX0) (As := [.int (xs (i + 1)), .int (xs (i + 2))]) (rest := []) ⟨hx, hb, hml, hown, hta⟩ (c_X0_message l dC dI ca ad hI (x, y) (xs (i + 1)) (xs (i + 2)) _ h) ⟨callB_of 2 hta (am_gdL mc_X0_message) rfl rfl rfl (hta _ mn_X0) (hta _ ml_L_92) dc_X0_message ⟨Nat.le_of_ble_eq_true rfl, Nat.le_of_ble_eq_true rfl⟩, hta _ mi_X0_message, hta _ me_X0_message⟩ (am_preV (q := (RX0, TX0, 4)) hK hN hP rfl (by decide) (am_s_outer ca)) rfl rfl hl.1 rfl (lv_room (Nat.le_of_ble_eq_true rfl)) dL_law_675 hcs) hS (fun r1 M1 H locs hP hS h => ?_)
  refine lv_aload_n hx hb dL_law_678 rfl (lv_at hl 2 rfl) ?_
  refine lv_aload_n hx hb dL_law_679 rfl (lv_at hl 0 rfl) ?_
  refine lv_iload_n hx hb dL_law_680 rfl (lv_at hl 3 rfl) ?_
  refine lv_iconst (v := nI 1) hx hb dL_law_681 rfl ?_
  refine lv_iadd hx hb dL_law_682 ?_
  refine lw_ld hx hb hX hbl hbA hS (by omega) hL dL_law_683 ?_
  refine lv_aload_n hx hb dL_law_684 rfl (lv_at hl 0 rfl) ?_
  refine lv_iload_n hx hb dL_law_685 rfl (lv_at hl 3 rfl) ?_
  refine lv_iconst (v := nI 2) hx hb dL_law_686 rfl ?_
  refine lv_iadd hx hb dL_law_687 ?_
  refine lw_ld hx hb hX hbl hbA hS (by omega) hL dL_law_688 ?_
  refine am_calli (va_runV (C := RX5) (As := [.int (xs (i + 1)), .int (xs (i + 2))]) (rest := [.int r1]) ⟨hx, hb, hml, hown, hta⟩ (c_X5_message l dC dI ca ad hI M1 (xs (i + 1)) (xs (i + 2)) _ h) ⟨callB_of 2 hta (am_gdL mc_X5_message) rfl rfl rfl (hta _ mn_X5) (hta _ ml_L_95) dc_X5_message ⟨Nat.le_of_ble_eq_true rfl, Nat.le_of_ble_eq_true rfl⟩, hta _ mi_X5_message, hta _ me_X5_message⟩ (am_preV (q := (RX5, TX5, 21)) hK hN hP rfl (by decide) (am_s_model ca)) rfl rfl hl.1 rfl (lv_room (Nat.le_of_ble_eq_true rfl)) dL_law_689 hcs) hS (fun r2 M2 H locs hP hS h => ?_)
  exact lv_icmp_eq (tgt := 720) hx hb dL_law_692 rfl (fun _ => kk _ _ _ h.2 hP hS) (fun hc => absurd h.1 hc)
set_option maxHeartbeats 4000000 in
set_option maxRecDepth 100000 in
theorem lw_c19 {p : Program} {l : Launch} {e : Env} {s : State} {m : MethodId} {below : List Frame} {meth : Method} {c : Code} {b L : Nat} {xs : Nat → Int32} {dC : Nat → ClassId} {dI : Nat → Nat → Nat} {ca : Nat → ClassId} {ad : Nat → Nat} {H0 H : Heap} {locs : List Loc} {ls : Array Slot} {cells slots i : Nat} {Z : State → Prop} {M : am_M} (C : lw_C p s m c b L xs dC dI ca ad H0) (hcs : cells ≤ 600000 ∧ slots ≤ 7302250) (hL : L ≤ 2048) (hi : i + 4 ≤ L) (hj : JJ M) (hP : va_P (dC, dI) vwCl (am_w ad (am_sh ca) 63 M) H) (hS : va_S (am_A ad 63) H0 H locs) (hl : lv_has ls 4 [(0, .ref b), (1, .ref (ad 0)), (2, .ref (ad 43)), (3, .int (nI i))]) (kk : ∀ (M : am_M) (H : Heap) (locs : List Loc), JJ M → va_P (dC, dI) vwCl (am_w ad (am_sh ca) 63 M) H → va_S (am_A ad 63) H0 H locs → W p l e room_1 s m #[Value.ref b] below meth c H locs cells slots Z (F0 m 720 ls [])) : W p l e room_1 s m #[Value.ref b] below meth c H locs cells slots Z (F0 m 697 ls []) := by
  obtain ⟨hx, hb, hml, hown, hta, hK, hN, hI, hX, hbl, hbA⟩ := C
  obtain ⟨x, y⟩ := M
  refine lv_aload_n hx hb dL_law_697 rfl (lv_at hl 1 rfl) ?_
  refine lv_aload_n hx hb dL_law_698 rfl (lv_at hl 0 rfl) ?_
  refine lv_iload_n hx hb dL_law_699 rfl (lv_at hl 3 rfl) ?_
  refine lv_iconst (v := nI 1) hx hb dL_law_700 rfl ?_
  refine lv_iadd hx hb dL_law_701 ?_
  refine lw_ld hx hb hX hbl hbA hS (by omega) hL dL_law_702 ?_
  have h := op_forced hj (xs (i + 1))
  refine am_calli (va_runV (C := RX0) (As := [.int (xs (i + 1))]) (rest := []) ⟨hx, hb, hml, hown, hta⟩ (c_X0_forced l dC dI ca ad hI (x, y) (xs (i + 1)) _ h) ⟨callB_of 1 hta (am_gdL mc_X0_forced) rfl rfl rfl (hta _ mn_X0) (hta _ ml_L_96) dc_X0_forced ⟨Nat.le_of_ble_eq_true rfl, Nat.le_of_ble_eq_true rfl⟩, hta _ mi_X0_forced, hta _ me_X0_forced⟩ (am_preV (q := (RX0, TX0, 4)) hK hN hP rfl (by decide) (am_s_outer ca)) rfl rfl hl.1 rfl (lv_room (Nat.le_of_ble_eq_true rfl)) dL_law_703 hcs) hS (fun r1 M1 H locs hP hS h => ?_)
  refine lv_aload_n hx hb dL_law_706 rfl (lv_at hl 2 rfl) ?_
  refine lv_aload_n hx hb dL_law_707 rfl (lv_at hl 0 rfl) ?_
  refine lv_iload_n hx hb dL_law_708 rfl (lv_at hl 3 rfl) ?_
  refine lv_iconst (v := nI 1) hx hb dL_law_709 rfl ?_
  refine lv_iadd hx hb dL_law_710 ?_
  refine lw_ld hx hb hX hbl hbA hS (by omega) hL dL_law_711 ?_
  refine am_calli (va_runV (C := RX5) (As := [.int (xs (i + 1))]) (rest := [.int r1]) ⟨hx, hb, hml, hown, hta⟩ (c_X5_forced l dC dI ca ad hI M1 (xs (i + 1)) _ h) ⟨callB_of 1 hta (am_gdL mc_X5_forced) rfl rfl rfl (hta _ mn_X5) (hta _ ml_L_99) dc_X5_forced ⟨Nat.le_of_ble_eq_true rfl, Nat.le_of_ble_eq_true rfl⟩, hta _ mi_X5_forced, hta _ me_X5_forced⟩ (am_preV (q := (RX5, TX5, 21)) hK hN hP rfl (by decide) (am_s_model ca)) rfl rfl hl.1 rfl (lv_room (Nat.le_of_ble_eq_true rfl)) dL_law_712 hcs) hS (fun r2 M2 H locs hP hS h => ?_)
  exact lv_icmp_eq (tgt := 720) hx hb dL_law_715 rfl (fun _ => kk _ _ _ h.2 hP hS) (fun hc => absurd h.1 hc)
