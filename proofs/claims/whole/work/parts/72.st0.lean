/-! ===== the start: nothing drilled ===== -/
theorem ok0 : okL lst0 := ⟨Nat.zero_le _, fun i h => absurd h (Nat.not_lt_zero i), fun h => absurd h (by decide), fun _ => rfl⟩
theorem inv0 (fu : Nat) (hfu : 20000 ≤ fu) : wp_X4_lists fu fx0 (fun u => Inv sgm0 u) := by
  have hC : Cok 0 (fun _ => 0) := ⟨Nat.zero_le _, fun h q => absurd q (Nat.not_lt_zero h), fun i j _ q => absurd q (Nat.not_lt_zero j)⟩
  have hB : Rb fx0.1 0 (fun _ => 0) 0 (fun _ => 0) := ⟨rfl, rfl, fun q => absurd q (Nat.lt_irrefl 0), fun h q => absurd q (Nat.not_lt_zero h), fun h q => absurd q (Nat.not_lt_zero h)⟩
  refine r_lists (v := fx0) hC (by decide) hB ok0 ok0 hfu fun u w1 w2 g1 g2 g3 g4 g5 g6 => ?_
  refine ⟨0, 0, 0, 0, 0, 0, fun _ => 0, fun _ => 0, fun _ => 0, fun _ => 0, ⟨hC, by decide, by decide, by decide, by decide, fun i q => absurd q (Nat.not_lt_zero i), trivial⟩, ⟨⟨?_, ⟨rfl, rfl, rfl, rfl, fun k q => absurd q (Nat.not_lt_zero k)⟩, fun h q => absurd q (Nat.not_lt_zero h)⟩, ⟨0, fun _ => 0, ⟨rfl, by decide, fun j q => absurd q (Nat.not_lt_zero j), fun q _ _ => rfl⟩, Or.inl rfl⟩, rfl, rfl, rfl, fun i q => absurd q (Nat.not_lt_zero i), rfl, fun i q => absurd q (Nat.not_lt_zero i)⟩, ⟨hB.fr g1, g2, g1.1 2 (by decide), g1.1 3 (by decide), g3, g4, fun i q => absurd q (Nat.not_lt_zero i), g5, g6, fun i q => absurd q (Nat.not_lt_zero i), ok0⟩⟩
  exact ⟨rfl, rfl, rfl, fun h q => absurd q (Nat.not_lt_zero h)⟩
