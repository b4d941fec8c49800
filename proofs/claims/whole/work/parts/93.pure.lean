/-! the law, as plain functions: all runs agree -/
theorem an_d0 : An d0 := by
  refine ⟨fun _ => 0, 0, fun _ => [], [], ⟨rfl, Nat.zero_le _, fun i hi => absurd hi (Nat.not_lt_zero _)⟩, ⟨⟨rfl, fun k hk => absurd hk (Nat.not_lt_zero _)⟩, fun k hk => absurd hk (Nat.not_lt_zero _), rfl, fun p hp => absurd hp (Nat.not_lt_zero _)⟩, fun k hk => absurd hk (Nat.not_lt_zero _), fun q hq => absurd hq (Nat.not_lt_zero _), ⟨rfl, fun i hi => absurd hi (Nat.not_lt_zero _)⟩, List.Pairwise.nil, Nat.zero_le _, fun x => ⟨fun h => absurd h List.not_mem_nil, fun h => ?_⟩, fun q hq => absurd hq (Nat.not_lt_zero _), ⟨rfl, fun i hi => absurd hi (Nat.not_lt_zero _)⟩, rfl⟩
  rcases h with ⟨q, b, hq, -⟩ | ⟨q, ⟨hq, -⟩, -⟩
  · exact absurd hq (Nat.not_lt_zero _)
  · exact absurd hq (Nat.not_lt_zero _)
theorem r_first : Rel An k0 d0 d0 r0 := ⟨⟨rfl, by decide, by decide, fun i hi => by
  have h1 : (d0.2 3).toInt = 0 := by decide
  omega⟩, ⟨rfl, rfl, by decide, fun i _ hi => by
  have h1 : (k0.2 0).toInt = 0 := by decide
  omega⟩, rfl, Or.inr ⟨rfl, an_d0⟩⟩
theorem law_pure {L : Nat} (hL : L ≤ 2048) (xs : Nat → Int32) : lpN (BLa_law_23 L xs) 100000 (0, k0, d0, d0, r0, o0) = some 1 := law_pure_of ⟨op_type An, op_word An, op_insert An, op_remove An, op_length An, op_letter An, op_tokens, op_token, op_faults, op_fault, op_reference, op_rename, op_inline, op_run, op_output An⟩ r_first hL xs
