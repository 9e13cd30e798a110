/-! the first memory -/
theorem JJ_0 : JJ am_M0 := by
  have z : ∀ a b c, a ≠ 3 → am_M0.1 a b c = 0 := fun a b c h => if_neg (fun q => h q.1)
  have y0 : ∀ a b c, am_M0.2 a b c = 0 := fun _ _ _ => rfl
  have up : ∀ n, am_M0.1 3 n 0 = 1 := fun _ => rfl
  have len : ∀ n k, ¬ k < am_M0.1 6 n 2 := fun n k h => by rw [z 6 n 2 (by decide)] at h; omega
  have nr : ∀ n L, ¬ hr am_M0.1 n L := fun n L ⟨k, hk, _⟩ => len n k hk
  refine ⟨⟨⟨?_, ?_⟩, ?_, ?_, ?_, ?_, ?_, ?_, ?_, ?_, ?_, ?_, ?_, ?_⟩, ⟨?_, ?_⟩, ?_, ?_, ?_, ⟨?_, ?_⟩, ?_, ?_, ?_, ?_, ?_, ?_⟩
  · rw [z 0 0 3 (by decide)]; omega
  · rw [z 1 0 1 (by decide)]; omega
  · intro t ht
    rw [z 9 t 0 (by decide), z 9 t 1 (by decide), z 9 t 2 (by decide), z 9 t 3 (by decide), z 9 t 4 (by decide), z 9 t 5 (by decide)]
    omega
  · intro n hn
    rw [up]; omega
  · intro n t hn ht
    rw [z 4 n t (by decide), z 5 n t (by decide)]; omega
  · intro t ht hle
    exact ⟨z 9 t 2 (by decide), fun n hn => ⟨z 4 n t (by decide), z 5 n t (by decide)⟩⟩
  · intro k hk
    rw [z 1 0 1 (by decide)] at hk; omega
  · intro n hn
    refine ⟨by rw [z 6 n 2 (by decide)]; omega, by rw [z 6 n 2 (by decide), z 6 n 3 (by decide)]; omega, fun k hk => absurd hk (len n k)⟩
  · intro n hn i j hij hj
    exact absurd hj (len n j)
  · intro n t hn ht
    rw [z 4 n t (by decide)]
    exact ⟨fun h => by omega, fun h => by omega⟩
  · intro t ht hte
    rw [z 9 t 1 (by decide)]
    exact ⟨fun h => by omega, fun h => by omega⟩
  · intro t ht hs
    rw [z 9 t 1 (by decide)] at hs; omega
  · intro n hn i j t t' hij hj
    exact absurd hj (len n j)
  · intro n hn
    refine ⟨fun _ i t hi => absurd hi (len n i), fun h => ?_⟩
    rw [up] at h; omega
  · rw [z 0 0 3 (by decide), y0]
  · rw [z 1 0 1 (by decide), y0]
  · intro k hk
    rw [z 1 0 1 (by decide)] at hk; omega
  · intro n hn
    rw [up, y0]
  · intro n t hn ht
    rw [z 4 n t (by decide), y0]
  · intro n t r hn ht hr
    rw [z 5 n t (by decide), y0, Nat.zero_testBit]
    simp
  · intro c hc
    rw [y0]; omega
  · intro n hn
    refine ⟨by rw [z 6 n 2 (by decide), y0], by rw [z 6 n 4 (by decide), y0], fun k hk => absurd hk (len n k)⟩
  · intro t ht
    rw [z 9 t 0 (by decide), z 9 t 1 (by decide), y0, y0]
    exact ⟨rfl, rfl⟩
  · intro t n ht hn
    rw [z 9 t 2 (by decide), y0, Nat.zero_testBit]; simp
  · intro t n ht hn
    rw [z 9 t 3 (by decide), y0, Nat.zero_testBit]; simp
  · intro t n ht hn
    rw [z 9 t 4 (by decide), y0, Nat.zero_testBit]; simp
  · intro t n ht hn
    rw [z 9 t 5 (by decide), y0, Nat.zero_testBit]; simp
