/-! the law's loop -/
theorem lw_cmp {L i : Nat} (hL : L ≤ 2048) (hi : i ≤ 4096) : (nI L - nI 4 < nI i) ↔ L < i + 4 := by
  rw [Int32.lt_iff_toInt_lt, pk_sub_toInt (by omega) (by omega), nI_toInt (by omega)]
  omega
set_option maxHeartbeats 4000000 in
set_option maxRecDepth 100000 in
theorem lw_sw {p : Program} {l : Launch} {e : Env} {s : State} {m : MethodId} {below : List Frame} {meth : Method} {c : Code} {b L : Nat} {xs : Nat → Int32} {dC : Nat → ClassId} {dI : Nat → Nat → Nat} {ca : Nat → ClassId} {ad : Nat → Nat} {H0 : Heap} {cells slots : Nat} {Z : State → Prop} {H : Heap} {locs : List Loc} {ls : Array Slot} {i : Nat} {M : am_M} (C : lw_C p s m c b L xs dC dI ca ad H0) (hcs : cells ≤ 600000 ∧ slots ≤ 7302250) (hL : L ≤ 2048) (hi : i + 4 ≤ L) (hj : JJ M) (hP : va_P (dC, dI) vwCl (am_w ad (am_sh ca) 63 M) H) (hS : va_S (am_A ad 63) H0 H locs) (hl : lv_has ls 4 [(0, .ref b), (1, .ref (ad 0)), (2, .ref (ad 43)), (3, .int (nI i))]) (z : Int32) (kk : ∀ (M : am_M) (H : Heap) (locs : List Loc), JJ M → va_P (dC, dI) vwCl (am_w ad (am_sh ca) 63 M) H → va_S (am_A ad 63) H0 H locs → W p l e room_1 s m #[Value.ref b] below meth c H locs cells slots Z (F0 m 720 ls [])) : W p l e room_1 s m #[Value.ref b] below meth c H locs cells slots Z (F0 m 32 ls [.int z]) := by
  have hx := C.1
  have hb := C.2.1
  by_cases hc : z = nI 0
  · exact lv_tableIn (tgt := 128) (off := 96) hx hb dL_law_32 (by rw [hc]; decide) (by rw [hc]; decide) (by rw [hc]; rfl) rfl (lw_c0 C hcs hL hi hj hP hS hl kk)
  have hc0 := lv_neT (a := 0) hc rfl
  clear hc
  by_cases hc : z = nI 1
  · exact lv_tableIn (tgt := 151) (off := 119) hx hb dL_law_32 (by rw [hc]; decide) (by rw [hc]; decide) (by rw [hc]; rfl) rfl (lw_c1 C hcs hL hi hj hP hS hl kk)
  have hc1 := lv_neT (a := 1) hc rfl
  clear hc
  by_cases hc : z = nI 2
  · exact lv_tableIn (tgt := 194) (off := 162) hx hb dL_law_32 (by rw [hc]; decide) (by rw [hc]; decide) (by rw [hc]; rfl) rfl (lw_c2 C hcs hL hi hj hP hS hl kk)
  have hc2 := lv_neT (a := 2) hc rfl
  clear hc
  by_cases hc : z = nI 3
  · exact lv_tableIn (tgt := 217) (off := 185) hx hb dL_law_32 (by rw [hc]; decide) (by rw [hc]; decide) (by rw [hc]; rfl) rfl (lw_c3 C hcs hL hi hj hP hS hl kk)
  have hc3 := lv_neT (a := 3) hc rfl
  clear hc
  by_cases hc : z = nI 4
  · exact lv_tableIn (tgt := 240) (off := 208) hx hb dL_law_32 (by rw [hc]; decide) (by rw [hc]; decide) (by rw [hc]; rfl) rfl (lw_c4 C hcs hL hi hj hP hS hl kk)
  have hc4 := lv_neT (a := 4) hc rfl
  clear hc
  by_cases hc : z = nI 5
  · exact lv_tableIn (tgt := 263) (off := 231) hx hb dL_law_32 (by rw [hc]; decide) (by rw [hc]; decide) (by rw [hc]; rfl) rfl (lw_c5 C hcs hL hi hj hP hS hl kk)
  have hc5 := lv_neT (a := 5) hc rfl
  clear hc
  by_cases hc : z = nI 6
  · exact lv_tableIn (tgt := 286) (off := 254) hx hb dL_law_32 (by rw [hc]; decide) (by rw [hc]; decide) (by rw [hc]; rfl) rfl (lw_c6 C hcs hL hi hj hP hS hl kk)
  have hc6 := lv_neT (a := 6) hc rfl
  clear hc
  by_cases hc : z = nI 7
  · exact lv_tableIn (tgt := 345) (off := 313) hx hb dL_law_32 (by rw [hc]; decide) (by rw [hc]; decide) (by rw [hc]; rfl) rfl (lw_c7 C hcs hL hi hj hP hS hl kk)
  have hc7 := lv_neT (a := 7) hc rfl
  clear hc
  by_cases hc : z = nI 8
  · exact lv_tableIn (tgt := 368) (off := 336) hx hb dL_law_32 (by rw [hc]; decide) (by rw [hc]; decide) (by rw [hc]; rfl) rfl (lw_c8 C hcs hL hi hj hP hS hl kk)
  have hc8 := lv_neT (a := 8) hc rfl
  clear hc
  by_cases hc : z = nI 9
  · exact lv_tableIn (tgt := 391) (off := 359) hx hb dL_law_32 (by rw [hc]; decide) (by rw [hc]; decide) (by rw [hc]; rfl) rfl (lw_c9 C hcs hL hi hj hP hS hl kk)
  have hc9 := lv_neT (a := 9) hc rfl
  clear hc
  by_cases hc : z = nI 10
  · exact lv_tableIn (tgt := 414) (off := 382) hx hb dL_law_32 (by rw [hc]; decide) (by rw [hc]; decide) (by rw [hc]; rfl) rfl (lw_c10 C hcs hL hi hj hP hS hl kk)
  have hc10 := lv_neT (a := 10) hc rfl
  clear hc
  by_cases hc : z = nI 11
  · exact lv_tableIn (tgt := 437) (off := 405) hx hb dL_law_32 (by rw [hc]; decide) (by rw [hc]; decide) (by rw [hc]; rfl) rfl (lw_c11 C hcs hL hi hj hP hS hl kk)
  have hc11 := lv_neT (a := 11) hc rfl
  clear hc
  by_cases hc : z = nI 12
  · exact lv_tableIn (tgt := 470) (off := 438) hx hb dL_law_32 (by rw [hc]; decide) (by rw [hc]; decide) (by rw [hc]; rfl) rfl (lw_c12 C hcs hL hi hj hP hS hl kk)
  have hc12 := lv_neT (a := 12) hc rfl
  clear hc
  by_cases hc : z = nI 13
  · exact lv_tableIn (tgt := 503) (off := 471) hx hb dL_law_32 (by rw [hc]; decide) (by rw [hc]; decide) (by rw [hc]; rfl) rfl (lw_c13 C hcs hL hi hj hP hS hl kk)
  have hc13 := lv_neT (a := 13) hc rfl
  clear hc
  by_cases hc : z = nI 14
  · exact lv_tableIn (tgt := 536) (off := 504) hx hb dL_law_32 (by rw [hc]; decide) (by rw [hc]; decide) (by rw [hc]; rfl) rfl (lw_c14 C hcs hL hi hj hP hS hl kk)
  have hc14 := lv_neT (a := 14) hc rfl
  clear hc
  by_cases hc : z = nI 15
  · exact lv_tableIn (tgt := 585) (off := 553) hx hb dL_law_32 (by rw [hc]; decide) (by rw [hc]; decide) (by rw [hc]; rfl) rfl (lw_c15 C hcs hL hi hj hP hS hl kk)
  have hc15 := lv_neT (a := 15) hc rfl
  clear hc
  by_cases hc : z = nI 16
  · exact lv_tableIn (tgt := 618) (off := 586) hx hb dL_law_32 (by rw [hc]; decide) (by rw [hc]; decide) (by rw [hc]; rfl) rfl (lw_c16 C hcs hL hi hj hP hS hl kk)
  have hc16 := lv_neT (a := 16) hc rfl
  clear hc
  by_cases hc : z = nI 17
  · exact lv_tableIn (tgt := 651) (off := 619) hx hb dL_law_32 (by rw [hc]; decide) (by rw [hc]; decide) (by rw [hc]; rfl) rfl (lw_c17 C hcs hL hi hj hP hS hl kk)
  have hc17 := lv_neT (a := 17) hc rfl
  clear hc
  by_cases hc : z = nI 18
  · exact lv_tableIn (tgt := 664) (off := 632) hx hb dL_law_32 (by rw [hc]; decide) (by rw [hc]; decide) (by rw [hc]; rfl) rfl (lw_c18 C hcs hL hi hj hP hS hl kk)
  have hc18 := lv_neT (a := 18) hc rfl
  clear hc
  by_cases hc : z = nI 19
  · exact lv_tableIn (tgt := 697) (off := 665) hx hb dL_law_32 (by rw [hc]; decide) (by rw [hc]; decide) (by rw [hc]; rfl) rfl (lw_c19 C hcs hL hi hj hP hS hl kk)
  have hc19 := lv_neT (a := 19) hc rfl
  clear hc
  exact lv_tableOut (tgt := 720) hx hb dL_law_32 (by omega) rfl (kk _ _ _ hj hP hS)
set_option maxRecDepth 100000 in
theorem lw_loop {p : Program} {l : Launch} {e : Env} {s : State} {m : MethodId} {below : List Frame} {meth : Method} {c : Code} {b L : Nat} {xs : Nat → Int32} {dC : Nat → ClassId} {dI : Nat → Nat → Nat} {ca : Nat → ClassId} {ad : Nat → Nat} {H0 : Heap} {cells slots : Nat} {Z : State → Prop} (C : lw_C p s m c b L xs dC dI ca ad H0) (hcs : cells ≤ 600000 ∧ slots ≤ 7302250) (hL : L ≤ 2048) (kk : ∀ (H : Heap) (locs : List Loc) (ls : Array Slot), va_S (am_A ad 63) H0 H locs → W p l e room_1 s m #[Value.ref b] below meth c H locs cells slots Z (F0 m 726 ls [])) : ∀ (f i : Nat), L ≤ i + f → i ≤ 2052 → ∀ (M : am_M) (H : Heap) (locs : List Loc) (ls : Array Slot), JJ M → va_P (dC, dI) vwCl (am_w ad (am_sh ca) 63 M) H → va_S (am_A ad 63) H0 H locs → lv_has ls 4 [(0, .ref b), (1, .ref (ad 0)), (2, .ref (ad 43)), (3, .int (nI i))] → W p l e room_1 s m #[Value.ref b] below meth c H locs cells slots Z (F0 m 18 ls []) := by
  have hx := C.1
  have hb := C.2.1
  obtain ⟨-, -, -, -, -, -, -, -, hX, hbl, hbA⟩ := id C
  intro f
  induction f with
  | zero =>
    intro i h1 h2 M H locs ls hj hP hS hl
    refine lv_iload_n hx hb dL_law_18 rfl (lv_at hl 3 rfl) ?_
    refine lv_aload_n hx hb dL_law_19 rfl (lv_at hl 0 rfl) ?_
    refine va_slen hx hb hX hbl hbA hS dL_law_20 ?_
    refine lv_iconst (v := nI 4) hx hb dL_law_21 rfl ?_
    refine lv_isub hx hb dL_law_22 ?_
    exact lv_icmp_gt (tgt := 726) hx hb dL_law_23 rfl (fun _ => kk _ _ _ hS) (fun hc => absurd ((lw_cmp hL (by omega)).mpr (by omega)) hc)
  | succ f ih =>
    intro i h1 h2 M H locs ls hj hP hS hl
    refine lv_iload_n hx hb dL_law_18 rfl (lv_at hl 3 rfl) ?_
    refine lv_aload_n hx hb dL_law_19 rfl (lv_at hl 0 rfl) ?_
    refine va_slen hx hb hX hbl hbA hS dL_law_20 ?_
    refine lv_iconst (v := nI 4) hx hb dL_law_21 rfl ?_
    refine lv_isub hx hb dL_law_22 ?_
    refine lv_icmp_gt (tgt := 726) hx hb dL_law_23 rfl (fun _ => kk _ _ _ hS) (fun hc => ?_)
    have hi : i + 4 ≤ L := by
      have : ¬ L < i + 4 := fun z => hc ((lw_cmp hL (by omega)).mpr z)
      omega
    refine lv_aload_n hx hb dL_law_26 rfl (lv_at hl 0 rfl) ?_
    refine lv_iload_n hx hb dL_law_27 rfl (lv_at hl 3 rfl) ?_
    refine lw_ld0 hx hb hX hbl hbA hS (by omega) hL dL_law_28 ?_
    refine lv_bipush (v := nI 31) hx hb dL_law_29 rfl ?_
    refine lv_iand hx hb dL_law_31 ?_
    refine lw_sw C hcs hL hi hj hP hS hl _ (fun M H locs hj hP hS => ?_)
    refine lv_iinc (k := 3) (v := nI (i + 4)) hx hb dL_law_720 hl rfl (nI_add i 4) (by decide) rfl (fun ls hl => ?_)
    refine lv_goto (tgt := 18) hx hb dL_law_723 rfl ?_
    exact ih (i + 4) (by omega) (by omega) M H locs ls hj hP hS (lv_sub hl [1, 2, 3, 0] rfl)
