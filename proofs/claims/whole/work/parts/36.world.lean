/-! the world as it is made, and the memory that it holds -/
abbrev am_cC (ca : Nat → ClassId) (q0 : Nat) (u : Nat → Nat) : va_W := [(q0, .inr (0, [.ref (u 1), .ref (u 2), .ref (u 3), .int (nI 0)])), (u 1, .inl (ca 2, 4, .inr (.inr (.inr (.inr (va_up (va_up (va_up (va_up (fun _ => none) (nI 0).toNatClampNeg (some (u 9))) (nI 1).toNatClampNeg (some (u 15))) (nI 2).toNatClampNeg (some (u 21))) (nI 3).toNatClampNeg (some (u 27)))))))), (u 9, .inr (3, [.int (nI 1), .ref ((u 10)), .ref ((u 11)), .ref ((u 12))])), (u 10, .inl (ca 0, 10, .inl (fun _ => 0))), (u 11, .inl (ca 0, 10, .inl (fun _ => 0))), (u 12, .inr (1, [.ref (((u 13))), .ref (((u 14))), .int 0, .int 0, .int 0])), (u 13, .inl (ca 0, 60, .inl (fun _ => 0))), (u 14, .inl (ca 0, 60, .inl (fun _ => 0))), (u 15, .inr (3, [.int (nI 1), .ref ((u 16)), .ref ((u 17)), .ref ((u 18))])), (u 16, .inl (ca 0, 10, .inl (fun _ => 0))), (u 17, .inl (ca 0, 10, .inl (fun _ => 0))), (u 18, .inr (1, [.ref (((u 19))), .ref (((u 20))), .int 0, .int 0, .int 0])), (u 19, .inl (ca 0, 60, .inl (fun _ => 0))), (u 20, .inl (ca 0, 60, .inl (fun _ => 0))), (u 21, .inr (3, [.int (nI 1), .ref ((u 22)), .ref ((u 23)), .ref ((u 24))])), (u 22, .inl (ca 0, 10, .inl (fun _ => 0))), (u 23, .inl (ca 0, 10, .inl (fun _ => 0))), (u 24, .inr (1, [.ref (((u 25))), .ref (((u 26))), .int 0, .int 0, .int 0])), (u 25, .inl (ca 0, 60, .inl (fun _ => 0))), (u 26, .inl (ca 0, 60, .inl (fun _ => 0))), (u 27, .inr (3, [.int (nI 1), .ref ((u 28)), .ref ((u 29)), .ref ((u 30))])), (u 28, .inl (ca 0, 10, .inl (fun _ => 0))), (u 29, .inl (ca 0, 10, .inl (fun _ => 0))), (u 30, .inr (1, [.ref (((u 31))), .ref (((u 32))), .int 0, .int 0, .int 0])), (u 31, .inl (ca 0, 60, .inl (fun _ => 0))), (u 32, .inl (ca 0, 60, .inl (fun _ => 0))), (u 2, .inl (ca 3, 10, .inr (.inr (.inr (.inr (va_up (va_up (va_up (va_up (va_up (va_up (va_up (va_up (va_up (va_up (fun _ => none) (nI 0).toNatClampNeg (some (u 33))) (nI 1).toNatClampNeg (some (u 34))) (nI 2).toNatClampNeg (some (u 35))) (nI 3).toNatClampNeg (some (u 36))) (nI 4).toNatClampNeg (some (u 37))) (nI 5).toNatClampNeg (some (u 38))) (nI 6).toNatClampNeg (some (u 39))) (nI 7).toNatClampNeg (some (u 40))) (nI 8).toNatClampNeg (some (u 41))) (nI 9).toNatClampNeg (some (u 42)))))))), (u 33, .inr (4, [.int 0, .int 0, .int 0, .int 0, .int 0, .int 0])), (u 34, .inr (4, [.int 0, .int 0, .int 0, .int 0, .int 0, .int 0])), (u 35, .inr (4, [.int 0, .int 0, .int 0, .int 0, .int 0, .int 0])), (u 36, .inr (4, [.int 0, .int 0, .int 0, .int 0, .int 0, .int 0])), (u 37, .inr (4, [.int 0, .int 0, .int 0, .int 0, .int 0, .int 0])), (u 38, .inr (4, [.int 0, .int 0, .int 0, .int 0, .int 0, .int 0])), (u 39, .inr (4, [.int 0, .int 0, .int 0, .int 0, .int 0, .int 0])), (u 40, .inr (4, [.int 0, .int 0, .int 0, .int 0, .int 0, .int 0])), (u 41, .inr (4, [.int 0, .int 0, .int 0, .int 0, .int 0, .int 0])), (u 42, .inr (4, [.int 0, .int 0, .int 0, .int 0, .int 0, .int 0])), (u 3, .inr (2, [.ref ((u 4)), .int 0])), (u 4, .inl (ca 4, 4, .inr (.inr (.inr (.inr (fun i => if i < 4 then some (((u 4)) + 1 + i) else none)))))), (((u 4)) + 1 + 0, .inl (ca 0, 40, .inl (fun _ => 0))), (((u 4)) + 1 + 1, .inl (ca 0, 40, .inl (fun _ => 0))), (((u 4)) + 1 + 2, .inl (ca 0, 40, .inl (fun _ => 0))), (((u 4)) + 1 + 3, .inl (ca 0, 40, .inl (fun _ => 0)))]
abbrev am_cM (ca : Nat → ClassId) (qm : Nat) (v : Nat → Nat) : va_W := [(qm, .inr (5, [.ref (v 44), .ref (v 45), .int 0, .ref (v 46), .ref (v 47), .ref (v 48), .ref (v 49), .ref (v 50), .ref (v 51), .ref (v 52), .ref (v 53), .ref (v 54), .ref (v 55), .ref (v 56), .ref (v 57), .ref (v 58), .int 0, .ref (v 59), .ref (v 60), .ref (v 61), .ref (v 62)])), (v 44, .inl (ca 1, 4, .inl (fun _ => 0))), (v 45, .inl (ca 0, 4, .inl (fun _ => 0))), (v 46, .inl (ca 0, 10, .inl (fun _ => 0))), (v 47, .inl (ca 0, 10, .inl (fun _ => 0))), (v 48, .inl (ca 1, 40, .inl (fun _ => 0))), (v 49, .inl (ca 1, 40, .inl (fun _ => 0))), (v 50, .inl (ca 1, 40, .inl (fun _ => 0))), (v 51, .inl (ca 1, 40, .inl (fun _ => 0))), (v 52, .inl (ca 0, 40, .inl (fun _ => 0))), (v 53, .inl (ca 0, 32, .inl (fun _ => 0))), (v 54, .inl (ca 0, 4, .inl (fun _ => 0))), (v 55, .inl (ca 0, 256, .inl (fun _ => 0))), (v 56, .inl (ca 0, 256, .inl (fun _ => 0))), (v 57, .inl (ca 0, 256, .inl (fun _ => 0))), (v 58, .inl (ca 1, 256, .inl (fun _ => 0))), (v 59, .inl (ca 0, 40, .inl (fun _ => 0))), (v 60, .inl (ca 0, 40, .inl (fun _ => 0))), (v 61, .inl (ca 0, 40, .inl (fun _ => 0))), (v 62, .inl (ca 0, 40, .inl (fun _ => 0)))]
def am_ad (q0 qm : Nat) (u v : Nat → Nat) (i : Nat) : Nat := if i = 0 then q0 else if i = 43 then qm else if 5 ≤ i ∧ i < 9 then u 4 + 1 + (i - 5) else if i < 43 then u i else v i
def am_M0 : am_M := (fun a _ c => if a = 3 ∧ c = 0 then 1 else 0, fun _ _ _ => 0)
theorem am_cellq {cA : ClassId} {n : Nat} {f g : Nat → Option Nat} (h : ∀ j, j < n → f j = g j) : vp_cell cA (n, .inr (.inr (.inr (.inr f)))) = vp_cell cA (n, .inr (.inr (.inr (.inr g)))) := by
  rw [vp_cell_q, vp_cell_q]
  unfold arrV
  congr 1
  apply congrArg
  funext j
  exact congrArg va_rf (h j.val j.isLt)
set_option maxHeartbeats 4000000 in
set_option maxRecDepth 100000 in
theorem am_fin {dC : Nat → ClassId} {dI : Nat → Nat → Nat} {ca : Nat → ClassId} {q0 qm : Nat} {u v : Nat → Nat} {H : Heap} (hP : va_P (dC, dI) vwCl (am_cC ca q0 u ++ am_cM ca qm v) H) : va_P (dC, dI) vwCl (am_w (am_ad q0 qm u v) (am_sh ca) 63 am_M0) H := by
  intro k x hk
  obtain ⟨h1, -⟩ := am_wi hk
  rw [am_wg h1] at hk
  have hx := Option.some.inj hk
  subst hx
  clear hk
  have h : k = 0 ∨ k = 1 ∨ k = 2 ∨ k = 3 ∨ k = 4 ∨ k = 5 ∨ k = 6 ∨ k = 7 ∨ k = 8 ∨ k = 9 ∨ k = 10 ∨ k = 11 ∨ k = 12 ∨ k = 13 ∨ k = 14 ∨ k = 15 ∨ k = 16 ∨ k = 17 ∨ k = 18 ∨ k = 19 ∨ k = 20 ∨ k = 21 ∨ k = 22 ∨ k = 23 ∨ k = 24 ∨ k = 25 ∨ k = 26 ∨ k = 27 ∨ k = 28 ∨ k = 29 ∨ k = 30 ∨ k = 31 ∨ k = 32 ∨ k = 33 ∨ k = 34 ∨ k = 35 ∨ k = 36 ∨ k = 37 ∨ k = 38 ∨ k = 39 ∨ k = 40 ∨ k = 41 ∨ k = 42 ∨ k = 43 ∨ k = 44 ∨ k = 45 ∨ k = 46 ∨ k = 47 ∨ k = 48 ∨ k = 49 ∨ k = 50 ∨ k = 51 ∨ k = 52 ∨ k = 53 ∨ k = 54 ∨ k = 55 ∨ k = 56 ∨ k = 57 ∨ k = 58 ∨ k = 59 ∨ k = 60 ∨ k = 61 ∨ k = 62 := by omega
  clear h1
  rcases h with rfl | rfl | rfl | rfl | rfl | rfl | rfl | rfl | rfl | rfl | rfl | rfl | rfl | rfl | rfl | rfl | rfl | rfl | rfl | rfl | rfl | rfl | rfl | rfl | rfl | rfl | rfl | rfl | rfl | rfl | rfl | rfl | rfl | rfl | rfl | rfl | rfl | rfl | rfl | rfl | rfl | rfl | rfl | rfl | rfl | rfl | rfl | rfl | rfl | rfl | rfl | rfl | rfl | rfl | rfl | rfl | rfl | rfl | rfl | rfl | rfl | rfl | rfl
  · exact (show va_at (dC, dI) vwCl (q0, .inr (0, [.ref (u 1), .ref (u 2), .ref (u 3), .int (nI 0)])) H from hP 0 _ rfl)
  · exact (show va_at (dC, dI) vwCl (u 1, .inl (ca 2, 4, .inr (.inr (.inr (.inr (va_up (va_up (va_up (va_up (fun _ => none) (nI 0).toNatClampNeg (some (u 9))) (nI 1).toNatClampNeg (some (u 15))) (nI 2).toNatClampNeg (some (u 21))) (nI 3).toNatClampNeg (some (u 27)))))))) H from hP 1 _ rfl).trans (congrArg some (am_cellq (fun j hj => by
      have h : j = 0 ∨ j = 1 ∨ j = 2 ∨ j = 3 := by omega
      rcases h with rfl | rfl | rfl | rfl <;> simp [va_up, nI_clamp, am_ad])))
  · exact (show va_at (dC, dI) vwCl (u 2, .inl (ca 3, 10, .inr (.inr (.inr (.inr (va_up (va_up (va_up (va_up (va_up (va_up (va_up (va_up (va_up (va_up (fun _ => none) (nI 0).toNatClampNeg (some (u 33))) (nI 1).toNatClampNeg (some (u 34))) (nI 2).toNatClampNeg (some (u 35))) (nI 3).toNatClampNeg (some (u 36))) (nI 4).toNatClampNeg (some (u 37))) (nI 5).toNatClampNeg (some (u 38))) (nI 6).toNatClampNeg (some (u 39))) (nI 7).toNatClampNeg (some (u 40))) (nI 8).toNatClampNeg (some (u 41))) (nI 9).toNatClampNeg (some (u 42)))))))) H from hP 26 _ rfl).trans (congrArg some (am_cellq (fun j hj => by
      have h : j = 0 ∨ j = 1 ∨ j = 2 ∨ j = 3 ∨ j = 4 ∨ j = 5 ∨ j = 6 ∨ j = 7 ∨ j = 8 ∨ j = 9 := by omega
      rcases h with rfl | rfl | rfl | rfl | rfl | rfl | rfl | rfl | rfl | rfl <;> simp [va_up, nI_clamp, am_ad])))
  · exact (show va_at (dC, dI) vwCl (u 3, .inr (2, [.ref ((u 4)), .int 0])) H from hP 37 _ rfl)
  · exact (show va_at (dC, dI) vwCl (u 4, .inl (ca 4, 4, .inr (.inr (.inr (.inr (fun i => if i < 4 then some (((u 4)) + 1 + i) else none)))))) H from hP 38 _ rfl).trans (congrArg some (am_cellq (fun j hj => by
      have h : j = 0 ∨ j = 1 ∨ j = 2 ∨ j = 3 := by omega
      rcases h with rfl | rfl | rfl | rfl <;> simp [va_up, nI_clamp, am_ad])))
  · exact (show va_at (dC, dI) vwCl (((u 4)) + 1 + 0, .inl (ca 0, 40, .inl (fun _ => 0))) H from hP 39 _ rfl)
  · exact (show va_at (dC, dI) vwCl (((u 4)) + 1 + 1, .inl (ca 0, 40, .inl (fun _ => 0))) H from hP 40 _ rfl)
  · exact (show va_at (dC, dI) vwCl (((u 4)) + 1 + 2, .inl (ca 0, 40, .inl (fun _ => 0))) H from hP 41 _ rfl)
  · exact (show va_at (dC, dI) vwCl (((u 4)) + 1 + 3, .inl (ca 0, 40, .inl (fun _ => 0))) H from hP 42 _ rfl)
  · exact (show va_at (dC, dI) vwCl (u 9, .inr (3, [.int (nI 1), .ref ((u 10)), .ref ((u 11)), .ref ((u 12))])) H from hP 2 _ rfl)
  · exact (show va_at (dC, dI) vwCl (u 10, .inl (ca 0, 10, .inl (fun _ => 0))) H from hP 3 _ rfl)
  · exact (show va_at (dC, dI) vwCl (u 11, .inl (ca 0, 10, .inl (fun _ => 0))) H from hP 4 _ rfl)
  · exact (show va_at (dC, dI) vwCl (u 12, .inr (1, [.ref (((u 13))), .ref (((u 14))), .int 0, .int 0, .int 0])) H from hP 5 _ rfl)
  · exact (show va_at (dC, dI) vwCl (u 13, .inl (ca 0, 60, .inl (fun _ => 0))) H from hP 6 _ rfl)
  · exact (show va_at (dC, dI) vwCl (u 14, .inl (ca 0, 60, .inl (fun _ => 0))) H from hP 7 _ rfl)
  · exact (show va_at (dC, dI) vwCl (u 15, .inr (3, [.int (nI 1), .ref ((u 16)), .ref ((u 17)), .ref ((u 18))])) H from hP 8 _ rfl)
  · exact (show va_at (dC, dI) vwCl (u 16, .inl (ca 0, 10, .inl (fun _ => 0))) H from hP 9 _ rfl)
  · exact (show va_at (dC, dI) vwCl (u 17, .inl (ca 0, 10, .inl (fun _ => 0))) H from hP 10 _ rfl)
  · exact (show va_at (dC, dI) vwCl (u 18, .inr (1, [.ref (((u 19))), .ref (((u 20))), .int 0, .int 0, .int 0])) H from hP 11 _ rfl)
  · exact (show va_at (dC, dI) vwCl (u 19, .inl (ca 0, 60, .inl (fun _ => 0))) H from hP 12 _ rfl)
  · exact (show va_at (dC, dI) vwCl (u 20, .inl (ca 0, 60, .inl (fun _ => 0))) H from hP 13 _ rfl)
  · exact (show va_at (dC, dI) vwCl (u 21, .inr (3, [.int (nI 1), .ref ((u 22)), .ref ((u 23)), .ref ((u 24))])) H from hP 14 _ rfl)
  · exact (show va_at (dC, dI) vwCl (u 22, .inl (ca 0, 10, .inl (fun _ => 0))) H from hP 15 _ rfl)
  · exact (show va_at (dC, dI) vwCl (u 23, .inl (ca 0, 10, .inl (fun _ => 0))) H from hP 16 _ rfl)
  · exact (show va_at (dC, dI) vwCl (u 24, .inr (1, [.ref (((u 25))), .ref (((u 26))), .int 0, .int 0, .int 0])) H from hP 17 _ rfl)
  · exact (show va_at (dC, dI) vwCl (u 25, .inl (ca 0, 60, .inl (fun _ => 0))) H from hP 18 _ rfl)
  · exact (show va_at (dC, dI) vwCl (u 26, .inl (ca 0, 60, .inl (fun _ => 0))) H from hP 19 _ rfl)
  · exact (show va_at (dC, dI) vwCl (u 27, .inr (3, [.int (nI 1), .ref ((u 28)), .ref ((u 29)), .ref ((u 30))])) H from hP 20 _ rfl)
  · exact (show va_at (dC, dI) vwCl (u 28, .inl (ca 0, 10, .inl (fun _ => 0))) H from hP 21 _ rfl)
  · exact (show va_at (dC, dI) vwCl (u 29, .inl (ca 0, 10, .inl (fun _ => 0))) H from hP 22 _ rfl)
  · exact (show va_at (dC, dI) vwCl (u 30, .inr (1, [.ref (((u 31))), .ref (((u 32))), .int 0, .int 0, .int 0])) H from hP 23 _ rfl)
  · exact (show va_at (dC, dI) vwCl (u 31, .inl (ca 0, 60, .inl (fun _ => 0))) H from hP 24 _ rfl)
  · exact (show va_at (dC, dI) vwCl (u 32, .inl (ca 0, 60, .inl (fun _ => 0))) H from hP 25 _ rfl)
  · exact (show va_at (dC, dI) vwCl (u 33, .inr (4, [.int 0, .int 0, .int 0, .int 0, .int 0, .int 0])) H from hP 27 _ rfl)
  · exact (show va_at (dC, dI) vwCl (u 34, .inr (4, [.int 0, .int 0, .int 0, .int 0, .int 0, .int 0])) H from hP 28 _ rfl)
  · exact (show va_at (dC, dI) vwCl (u 35, .inr (4, [.int 0, .int 0, .int 0, .int 0, .int 0, .int 0])) H from hP 29 _ rfl)
  · exact (show va_at (dC, dI) vwCl (u 36, .inr (4, [.int 0, .int 0, .int 0, .int 0, .int 0, .int 0])) H from hP 30 _ rfl)
  · exact (show va_at (dC, dI) vwCl (u 37, .inr (4, [.int 0, .int 0, .int 0, .int 0, .int 0, .int 0])) H from hP 31 _ rfl)
  · exact (show va_at (dC, dI) vwCl (u 38, .inr (4, [.int 0, .int 0, .int 0, .int 0, .int 0, .int 0])) H from hP 32 _ rfl)
  · exact (show va_at (dC, dI) vwCl (u 39, .inr (4, [.int 0, .int 0, .int 0, .int 0, .int 0, .int 0])) H from hP 33 _ rfl)
  · exact (show va_at (dC, dI) vwCl (u 40, .inr (4, [.int 0, .int 0, .int 0, .int 0, .int 0, .int 0])) H from hP 34 _ rfl)
  · exact (show va_at (dC, dI) vwCl (u 41, .inr (4, [.int 0, .int 0, .int 0, .int 0, .int 0, .int 0])) H from hP 35 _ rfl)
  · exact (show va_at (dC, dI) vwCl (u 42, .inr (4, [.int 0, .int 0, .int 0, .int 0, .int 0, .int 0])) H from hP 36 _ rfl)
  · exact (show va_at (dC, dI) vwCl (qm, .inr (5, [.ref (v 44), .ref (v 45), .int 0, .ref (v 46), .ref (v 47), .ref (v 48), .ref (v 49), .ref (v 50), .ref (v 51), .ref (v 52), .ref (v 53), .ref (v 54), .ref (v 55), .ref (v 56), .ref (v 57), .ref (v 58), .int 0, .ref (v 59), .ref (v 60), .ref (v 61), .ref (v 62)])) H from hP 43 _ rfl)
  · exact (show va_at (dC, dI) vwCl (v 44, .inl (ca 1, 4, .inl (fun _ => 0))) H from hP 44 _ rfl)
  · exact (show va_at (dC, dI) vwCl (v 45, .inl (ca 0, 4, .inl (fun _ => 0))) H from hP 45 _ rfl)
  · exact (show va_at (dC, dI) vwCl (v 46, .inl (ca 0, 10, .inl (fun _ => 0))) H from hP 46 _ rfl)
  · exact (show va_at (dC, dI) vwCl (v 47, .inl (ca 0, 10, .inl (fun _ => 0))) H from hP 47 _ rfl)
  · exact (show va_at (dC, dI) vwCl (v 48, .inl (ca 1, 40, .inl (fun _ => 0))) H from hP 48 _ rfl)
  · exact (show va_at (dC, dI) vwCl (v 49, .inl (ca 1, 40, .inl (fun _ => 0))) H from hP 49 _ rfl)
  · exact (show va_at (dC, dI) vwCl (v 50, .inl (ca 1, 40, .inl (fun _ => 0))) H from hP 50 _ rfl)
  · exact (show va_at (dC, dI) vwCl (v 51, .inl (ca 1, 40, .inl (fun _ => 0))) H from hP 51 _ rfl)
  · exact (show va_at (dC, dI) vwCl (v 52, .inl (ca 0, 40, .inl (fun _ => 0))) H from hP 52 _ rfl)
  · exact (show va_at (dC, dI) vwCl (v 53, .inl (ca 0, 32, .inl (fun _ => 0))) H from hP 53 _ rfl)
  · exact (show va_at (dC, dI) vwCl (v 54, .inl (ca 0, 4, .inl (fun _ => 0))) H from hP 54 _ rfl)
  · exact (show va_at (dC, dI) vwCl (v 55, .inl (ca 0, 256, .inl (fun _ => 0))) H from hP 55 _ rfl)
  · exact (show va_at (dC, dI) vwCl (v 56, .inl (ca 0, 256, .inl (fun _ => 0))) H from hP 56 _ rfl)
  · exact (show va_at (dC, dI) vwCl (v 57, .inl (ca 0, 256, .inl (fun _ => 0))) H from hP 57 _ rfl)
  · exact (show va_at (dC, dI) vwCl (v 58, .inl (ca 1, 256, .inl (fun _ => 0))) H from hP 58 _ rfl)
  · exact (show va_at (dC, dI) vwCl (v 59, .inl (ca 0, 40, .inl (fun _ => 0))) H from hP 59 _ rfl)
  · exact (show va_at (dC, dI) vwCl (v 60, .inl (ca 0, 40, .inl (fun _ => 0))) H from hP 60 _ rfl)
  · exact (show va_at (dC, dI) vwCl (v 61, .inl (ca 0, 40, .inl (fun _ => 0))) H from hP 61 _ rfl)
  · exact (show va_at (dC, dI) vwCl (v 62, .inl (ca 0, 40, .inl (fun _ => 0))) H from hP 62 _ rfl)
def am_pl : List Nat := [0, 1, 26, 37, 38, 39, 40, 41, 42, 2, 3, 4, 5, 6, 7, 8, 9, 10, 11, 12, 13, 14, 15, 16, 17, 18, 19, 20, 21, 22, 23, 24, 25, 27, 28, 29, 30, 31, 32, 33, 34, 35, 36, 43, 44, 45, 46, 47, 48, 49, 50, 51, 52, 53, 54, 55, 56, 57, 58, 59, 60, 61, 62]
set_option maxRecDepth 100000 in
theorem am_finA {ca : Nat → ClassId} {q0 qm : Nat} {u v : Nat → Nat} : ∀ k, k < 63 → ∃ j e, am_pl[k]? = some j ∧ (am_cC ca q0 u ++ am_cM ca qm v)[j]? = some (am_ad q0 qm u v k, e) := by
  intro k hk
  have h : k = 0 ∨ k = 1 ∨ k = 2 ∨ k = 3 ∨ k = 4 ∨ k = 5 ∨ k = 6 ∨ k = 7 ∨ k = 8 ∨ k = 9 ∨ k = 10 ∨ k = 11 ∨ k = 12 ∨ k = 13 ∨ k = 14 ∨ k = 15 ∨ k = 16 ∨ k = 17 ∨ k = 18 ∨ k = 19 ∨ k = 20 ∨ k = 21 ∨ k = 22 ∨ k = 23 ∨ k = 24 ∨ k = 25 ∨ k = 26 ∨ k = 27 ∨ k = 28 ∨ k = 29 ∨ k = 30 ∨ k = 31 ∨ k = 32 ∨ k = 33 ∨ k = 34 ∨ k = 35 ∨ k = 36 ∨ k = 37 ∨ k = 38 ∨ k = 39 ∨ k = 40 ∨ k = 41 ∨ k = 42 ∨ k = 43 ∨ k = 44 ∨ k = 45 ∨ k = 46 ∨ k = 47 ∨ k = 48 ∨ k = 49 ∨ k = 50 ∨ k = 51 ∨ k = 52 ∨ k = 53 ∨ k = 54 ∨ k = 55 ∨ k = 56 ∨ k = 57 ∨ k = 58 ∨ k = 59 ∨ k = 60 ∨ k = 61 ∨ k = 62 := by omega
  clear hk
  rcases h with rfl | rfl | rfl | rfl | rfl | rfl | rfl | rfl | rfl | rfl | rfl | rfl | rfl | rfl | rfl | rfl | rfl | rfl | rfl | rfl | rfl | rfl | rfl | rfl | rfl | rfl | rfl | rfl | rfl | rfl | rfl | rfl | rfl | rfl | rfl | rfl | rfl | rfl | rfl | rfl | rfl | rfl | rfl | rfl | rfl | rfl | rfl | rfl | rfl | rfl | rfl | rfl | rfl | rfl | rfl | rfl | rfl | rfl | rfl | rfl | rfl | rfl | rfl
  · exact ⟨0, _, rfl, rfl⟩
  · exact ⟨1, _, rfl, rfl⟩
  · exact ⟨26, _, rfl, rfl⟩
  · exact ⟨37, _, rfl, rfl⟩
  · exact ⟨38, _, rfl, rfl⟩
  · exact ⟨39, _, rfl, rfl⟩
  · exact ⟨40, _, rfl, rfl⟩
  · exact ⟨41, _, rfl, rfl⟩
  · exact ⟨42, _, rfl, rfl⟩
  · exact ⟨2, _, rfl, rfl⟩
  · exact ⟨3, _, rfl, rfl⟩
  · exact ⟨4, _, rfl, rfl⟩
  · exact ⟨5, _, rfl, rfl⟩
  · exact ⟨6, _, rfl, rfl⟩
  · exact ⟨7, _, rfl, rfl⟩
  · exact ⟨8, _, rfl, rfl⟩
  · exact ⟨9, _, rfl, rfl⟩
  · exact ⟨10, _, rfl, rfl⟩
  · exact ⟨11, _, rfl, rfl⟩
  · exact ⟨12, _, rfl, rfl⟩
  · exact ⟨13, _, rfl, rfl⟩
  · exact ⟨14, _, rfl, rfl⟩
  · exact ⟨15, _, rfl, rfl⟩
  · exact ⟨16, _, rfl, rfl⟩
  · exact ⟨17, _, rfl, rfl⟩
  · exact ⟨18, _, rfl, rfl⟩
  · exact ⟨19, _, rfl, rfl⟩
  · exact ⟨20, _, rfl, rfl⟩
  · exact ⟨21, _, rfl, rfl⟩
  · exact ⟨22, _, rfl, rfl⟩
  · exact ⟨23, _, rfl, rfl⟩
  · exact ⟨24, _, rfl, rfl⟩
  · exact ⟨25, _, rfl, rfl⟩
  · exact ⟨27, _, rfl, rfl⟩
  · exact ⟨28, _, rfl, rfl⟩
  · exact ⟨29, _, rfl, rfl⟩
  · exact ⟨30, _, rfl, rfl⟩
  · exact ⟨31, _, rfl, rfl⟩
  · exact ⟨32, _, rfl, rfl⟩
  · exact ⟨33, _, rfl, rfl⟩
  · exact ⟨34, _, rfl, rfl⟩
  · exact ⟨35, _, rfl, rfl⟩
  · exact ⟨36, _, rfl, rfl⟩
  · exact ⟨43, _, rfl, rfl⟩
  · exact ⟨44, _, rfl, rfl⟩
  · exact ⟨45, _, rfl, rfl⟩
  · exact ⟨46, _, rfl, rfl⟩
  · exact ⟨47, _, rfl, rfl⟩
  · exact ⟨48, _, rfl, rfl⟩
  · exact ⟨49, _, rfl, rfl⟩
  · exact ⟨50, _, rfl, rfl⟩
  · exact ⟨51, _, rfl, rfl⟩
  · exact ⟨52, _, rfl, rfl⟩
  · exact ⟨53, _, rfl, rfl⟩
  · exact ⟨54, _, rfl, rfl⟩
  · exact ⟨55, _, rfl, rfl⟩
  · exact ⟨56, _, rfl, rfl⟩
  · exact ⟨57, _, rfl, rfl⟩
  · exact ⟨58, _, rfl, rfl⟩
  · exact ⟨59, _, rfl, rfl⟩
  · exact ⟨60, _, rfl, rfl⟩
  · exact ⟨61, _, rfl, rfl⟩
  · exact ⟨62, _, rfl, rfl⟩
theorem am_pl_inj : ∀ i, i < 63 → ∀ j, j < 63 → am_pl[i]? = am_pl[j]? → i = j := by decide +kernel
theorem am_finI {ca : Nat → ClassId} {q0 qm : Nat} {u v : Nat → Nat} {A : Nat → Prop} (hD : va_D A (am_cC ca q0 u ++ am_cM ca qm v)) : am_inj (am_ad q0 qm u v) ∧ ∀ i, i < 63 → A (am_ad q0 qm u v i) := by
  refine ⟨fun i j hi hj h => ?_, fun i hi => ?_⟩
  · obtain ⟨k1, e1, a1, b1⟩ := am_finA (ca := ca) (q0 := q0) (qm := qm) (u := u) (v := v) i hi
    obtain ⟨k2, e2, a2, b2⟩ := am_finA (ca := ca) (q0 := q0) (qm := qm) (u := u) (v := v) j hj
    have e := hD.1 k1 k2 _ _ b1 b2 h
    exact am_pl_inj i hi j hj (by rw [a1, a2, e])
  · obtain ⟨k1, e1, a1, b1⟩ := am_finA (ca := ca) (q0 := q0) (qm := qm) (u := u) (v := v) i hi
    exact hD.2 k1 _ b1
