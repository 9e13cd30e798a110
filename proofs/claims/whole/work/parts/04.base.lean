/-! the memory: kind, number, place; a world of cells, read off the memory; rows over it -/
abbrev am_N : Type := Nat → Nat → Nat → Nat
abbrev am_M : Type := am_N × am_N
def am_u (x : am_N) (a b k v : Nat) : am_N := fun a' b' k' => if a' = a ∧ b' = b ∧ k' = k then v else x a' b' k'
abbrev am_c1 (M : am_M) (a b k v : Nat) : am_M := (am_u M.1 a b k v, M.2)
abbrev am_c2 (M : am_M) (a b k v : Nat) : am_M := (M.1, am_u M.2 a b k v)
abbrev am_Sh : Type := (ClassId × Nat) ⊕ (ClassId × Nat × (Nat → Nat)) ⊕ (Nat × List (Option Nat))
def am_fv (ad : Nat → Nat) (x : Nat) (o : Option Nat) : Value := match o with
  | none => .int (nI x)
  | some j => .ref (ad j)
def am_fl (ad : Nat → Nat) (r : Nat → Nat) : Nat → List (Option Nat) → List Value
  | _, [] => []
  | k, o :: l => am_fv ad (r k) o :: am_fl ad r (k + 1) l
theorem am_fl_get (ad : Nat → Nat) (r : Nat → Nat) : ∀ (fs : List (Option Nat)) (k j : Nat), (am_fl ad r k fs)[j]? = (fs[j]?).map (fun o => am_fv ad (r (k + j)) o)
  | [], k, j => by simp [am_fl]
  | o :: l, k, 0 => by simp [am_fl]
  | o :: l, k, j + 1 => by
    show (am_fl ad r (k + 1) l)[j]? = (l[j]?).map _
    rw [am_fl_get ad r l (k + 1) j, show k + 1 + j = k + (j + 1) by omega]
theorem am_fl_len (ad : Nat → Nat) (r : Nat → Nat) : ∀ (fs : List (Option Nat)) (k : Nat), (am_fl ad r k fs).length = fs.length
  | [], _ => rfl
  | _ :: l, k => by
    show (am_fl ad r (k + 1) l).length + 1 = l.length + 1
    rw [am_fl_len ad r l (k + 1)]
theorem am_fvi {ad : Nat → Nat} {r : Nat → Nat} {fs : List (Option Nat)} {k : Nat} (h : fs[k]? = some none) : (am_fl ad r 0 fs)[k]? = some (.int (nI (r k))) := by
  rw [am_fl_get, h, Nat.zero_add]; rfl
theorem am_fvr {ad : Nat → Nat} {r : Nat → Nat} {fs : List (Option Nat)} {k j : Nat} (h : fs[k]? = some (some j)) : (am_fl ad r 0 fs)[k]? = some (.ref (ad j)) := by
  rw [am_fl_get, h]; rfl
theorem am_us {x : am_N} {a b k v : Nat} : am_u x a b k v a b = fun j => if j = k then v else x a b j := by
  funext j; simp [am_u]
theorem am_un {x : am_N} {a b k v a' b' : Nat} (h : ¬ (a' = a ∧ b' = b)) : am_u x a b k v a' b' = x a' b' := by
  funext j
  exact if_neg (fun q => h ⟨q.1, q.2.1⟩)
theorem am_fl_set {ad : Nat → Nat} {r : Nat → Nat} {fs : List (Option Nat)} {j v : Nat} (h : fs[j]? = some none) : (am_fl ad r 0 fs).set j (.int (nI v)) = am_fl ad (fun q => if q = j then v else r q) 0 fs := by
  apply List.ext_getElem?
  intro q
  rw [am_fl_get, List.getElem?_set]
  by_cases hq : j = q
  · subst hq
    rw [if_pos rfl, am_fl_len, if_pos (List.getElem?_eq_some_iff.mp h).1, h]
    simp [am_fv]
  · rw [if_neg hq, am_fl_get, if_neg (show ¬ 0 + q = j by omega)]
def am_c (ad : Nat → Nat) (r : Nat → Nat) (sh : am_Sh) : va_E := match sh with
  | .inl a => .inl (a.1, a.2, .inl (fun k => nI (r k)))
  | .inr (.inl a) => .inl (a.1, a.2.1, .inr (.inr (.inr (.inr (fun k => some (ad (a.2.2 k)))))))
  | .inr (.inr o) => .inr (o.1, am_fl ad r 0 o.2)
/-- which row of the memory a cell holds -/
def am_kb (i : Nat) : Nat × Nat :=
  if i = 0 then (0, 0) else if i = 1 then (10, 0) else if i = 2 then (11, 0) else if i = 3 then (1, 0) else if i = 4 then (12, 0)
  else if i < 9 then (2, i - 5)
  else if i < 33 then (3 + (i - 9) % 6, (i - 9) / 6)
  else if i < 43 then (9, i - 33)
  else if i = 43 then (20, 0)
  else (i - 23, 0)
theorem am_kb_inj : ∀ i, i < 63 → ∀ j, j < 63 → am_kb i = am_kb j → i = j := by decide +kernel
def am_rw (M : am_M) (i : Nat) : Nat → Nat := if i < 43 then M.1 (am_kb i).1 (am_kb i).2 else M.2 (am_kb i).1 (am_kb i).2
def am_pu (M : am_M) (i k v : Nat) : am_M := if i < 43 then am_c1 M (am_kb i).1 (am_kb i).2 k v else am_c2 M (am_kb i).1 (am_kb i).2 k v
theorem am_pus {M : am_M} {i k v : Nat} : am_rw (am_pu M i k v) i = fun j => if j = k then v else am_rw M i j := by
  unfold am_rw am_pu
  by_cases h : i < 43
  · simp only [if_pos h]
    exact am_us
  · simp only [if_neg h]
    exact am_us
theorem am_pun {M : am_M} {i j k v : Nat} (hi : i < 63) (hj : j < 63) (h : i ≠ j) : am_rw (am_pu M i k v) j = am_rw M j := by
  have hne : ¬ ((am_kb j).1 = (am_kb i).1 ∧ (am_kb j).2 = (am_kb i).2) := fun q => h (am_kb_inj i hi j hj (Prod.ext q.1.symm q.2.symm))
  unfold am_rw am_pu
  by_cases h1 : i < 43 <;> by_cases h2 : j < 43
  · simp only [if_pos h1, if_pos h2]
    exact am_un hne
  · simp only [if_pos h1, if_neg h2]
  · simp only [if_neg h1, if_pos h2]
  · simp only [if_neg h1, if_neg h2]
    exact am_un hne
def am_w (ad : Nat → Nat) (sh : Nat → am_Sh) (N : Nat) (M : am_M) : va_W := (List.range N).map (fun i => (ad i, am_c ad (am_rw M i) (sh i)))
theorem am_wg {ad : Nat → Nat} {sh : Nat → am_Sh} {N : Nat} {M : am_M} {i : Nat} (hi : i < N) : (am_w ad sh N M)[i]? = some (ad i, am_c ad (am_rw M i) (sh i)) := by
  rw [am_w, List.getElem?_map, List.getElem?_range hi]; rfl
theorem am_wl {ad : Nat → Nat} {sh : Nat → am_Sh} {N : Nat} {M : am_M} : (am_w ad sh N M).length = N := by simp [am_w]
theorem am_wset {ad : Nat → Nat} {sh : Nat → am_Sh} {M : am_M} {i k v : Nat} {e : va_E} (hi : i < 63) (he : e = am_c ad (fun j => if j = k then v else am_rw M i j) (sh i)) : (am_w ad sh 63 M).set i (ad i, e) = am_w ad sh 63 (am_pu M i k v) := by
  apply List.ext_getElem?
  intro q
  rw [List.getElem?_set]
  by_cases hq : i = q
  · subst hq
    rw [if_pos rfl, am_wl, if_pos hi, am_wg hi, he, am_pus]
  · rw [if_neg hq]
    by_cases hN : q < 63
    · rw [am_wg hN, am_wg hN, am_pun hi hN hq]
    · rw [List.getElem?_eq_none (by rw [am_wl]; omega), List.getElem?_eq_none (by rw [am_wl]; omega)]
def am_A (ad : Nat → Nat) (N : Nat) : Nat → Prop := fun q => ∃ i, i < N ∧ q = ad i
abbrev am_inj (ad : Nat → Nat) : Prop := ∀ i j, i < 63 → j < 63 → ad i = ad j → i = j
theorem am_wi {ad : Nat → Nat} {sh : Nat → am_Sh} {N : Nat} {M : am_M} {k : Nat} {q : Nat × va_E} (h : (am_w ad sh N M)[k]? = some q) : k < N ∧ q.1 = ad k := by
  have hk : k < N := by
    have h1 := (List.getElem?_eq_some_iff.mp h).1
    rw [am_wl] at h1
    exact h1
  rw [am_wg hk] at h
  exact ⟨hk, by rw [← Option.some.inj h]⟩
theorem am_D {ad : Nat → Nat} {sh : Nat → am_Sh} {M : am_M} (hI : am_inj ad) : va_D (am_A ad 63) (am_w ad sh 63 M) := by
  refine ⟨fun i j p q hi hj h => ?_, fun k q hk => ?_⟩
  · obtain ⟨h1, h2⟩ := am_wi hi
    obtain ⟨h3, h4⟩ := am_wi hj
    exact hI i j h1 h3 (by rw [← h2, ← h4]; exact h)
  · obtain ⟨h1, h2⟩ := am_wi hk
    exact ⟨k, h1, h2⟩
/-- what is known of a cell: its shape, its row of the memory, and the memory when it is written -/
abbrev am_is (ca : Nat → ClassId) (sh : (Nat → ClassId) → Nat → am_Sh) (i : Nat) (z : am_Sh) (r : am_M → Nat → Nat) (w : am_M → Nat → Nat → am_M) : Prop := sh ca i = z ∧ (∀ M, am_rw M i = r M) ∧ ∀ M k v, am_pu M i k v = w M k v
theorem am_wo {ad : Nat → Nat} {ca : Nat → ClassId} {sh : (Nat → ClassId) → Nat → am_Sh} {N : Nat} {M : am_M} {i ci : Nat} {r : am_M → Nat → Nat} {w : am_M → Nat → Nat → am_M} {fs : List (Option Nat)} (hi : i < N) (hs : am_is ca sh i (.inr (.inr (ci, fs))) r w) : (am_w ad (sh ca) N M)[i]? = some (ad i, .inr (ci, am_fl ad (r M) 0 fs)) := by
  rw [am_wg hi, hs.1, hs.2.1]; rfl
theorem am_wa {ad : Nat → Nat} {ca : Nat → ClassId} {sh : (Nat → ClassId) → Nat → am_Sh} {N : Nat} {M : am_M} {i n : Nat} {r : am_M → Nat → Nat} {w : am_M → Nat → Nat → am_M} {cA : ClassId} (hi : i < N) (hs : am_is ca sh i (.inl (cA, n)) r w) : (am_w ad (sh ca) N M)[i]? = some (ad i, .inl (cA, n, .inl (fun k => nI (r M k)))) := by
  rw [am_wg hi, hs.1, hs.2.1]; rfl
theorem am_wr {ad : Nat → Nat} {sh : Nat → am_Sh} {N : Nat} {M : am_M} {i n : Nat} {f : Nat → Nat} {cA : ClassId} (hi : i < N) (hs : sh i = .inr (.inl (cA, n, f))) : (am_w ad sh N M)[i]? = some (ad i, .inl (cA, n, .inr (.inr (.inr (.inr (fun k => some (ad (f k)))))))) := by
  rw [am_wg hi, hs]; rfl
abbrev am_let (x : Int32) (P : Int32 → Prop) : Prop := P x
abbrev am_ix (x : Int32) (n : Nat) (P : Nat → Prop) : Prop := ∃ k, k < n ∧ x = nI k ∧ P k
abbrev am_sa (w : Nat → Nat → am_M) (n : Nat) (x y : Int32) (P : am_M → Prop) : Prop := ∃ k v, k < n ∧ x = nI k ∧ y = nI v ∧ P (w k v)
abbrev am_sz (w : Nat → Nat → am_M) (n : Nat) (x y : Int32) (P : am_M → Prop) : Prop := ∃ k v, k < n ∧ x = nI k ∧ y = nI v ∧ v < 2 ∧ P (w k v)
abbrev am_sf (w : Nat → am_M) (y : Int32) (P : am_M → Prop) : Prop := ∃ v, y = nI v ∧ P (w v)
abbrev am_sfz (w : Nat → am_M) (y : Int32) (P : am_M → Prop) : Prop := ∃ v, y = nI v ∧ v < 2 ∧ P (w v)
