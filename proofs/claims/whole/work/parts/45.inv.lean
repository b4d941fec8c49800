/-! what the walk over a part keeps: where names, parameters, lets and scopes stand -/
def AI (cl : Nat → Nat) (f j st : Nat) (ρ : Nat → Nat) (bl : List (Nat × Nat × Nat)) (ln np : Nat) (σ α ω : Nat → Nat) : Prop :=
  (∀ k, ρ k ≠ 0 → cl k = 200 ∧ f < k ∧ k < j) ∧
  ((1 ≤ st → ρ (f + 1) = 1) ∧ ∀ k, ρ k = 1 → k = f + 1) ∧
  ((∀ k, ρ k = 2 → (f + 3 ≤ k ∧ (k - (f + 3)) % 2 = 0) ∧ k < f + 3 + 2 * np ∧ σ k = f) ∧ (∀ i, i < np → ρ (f + 3 + 2 * i) = 2)) ∧
  ((st = 0 → j = f + 1) ∧ (st = 1 → j = f + 2) ∧ (st = 2 → j = f + 3) ∧ (st ≤ 2 → np = 0) ∧ (st = 3 → j + 1 = f + 3 + 2 * np ∧ 0 < np) ∧ (st = 4 → j = f + 3 + 2 * np) ∧ (5 ≤ st → f + 3 + 2 * np ≤ j ∧ f + 4 ≤ j)) ∧
  (∀ k, 3 ≤ ρ k → f + 3 + 2 * np ≤ k ∧ f + 4 ≤ k ∧ 6 ≤ st) ∧
  (∀ k, ρ k = 3 → k < α k ∧ α k ≤ j ∨ k + 1 = ln ∧ 8 ≤ st ∧ st ≤ 12) ∧
  (∀ k, α k ≠ 0 → ρ k = 3) ∧
  (∀ q1 q2, q1 < q2 → ρ q1 = 3 → ρ q2 = 3 → q1 < α q1 ∧ α q1 ≤ q2) ∧
  (∀ k, ρ k = 3 → f + 2 < σ k ∧ σ k < k ∧ ((∃ y, y ∈ bl ∧ y.1 = σ k) ∨ k < ω (σ k) ∧ ω (σ k) ≤ j)) ∧
  (∀ y, y ∈ bl → f + 2 < y.1 ∧ y.1 < j) ∧
  (st = 12 → ρ (j - 1) = 5 ∧ f + 1 < j) ∧
  (8 ≤ st → st ≤ 12 → ln ≠ 0 → ρ (ln - 1) = 3 ∧ ∀ q, ρ q = 3 → q ≤ ln - 1)
theorem AI.keep {cl : Nat → Nat} {f j st st' : Nat} {ρ : Nat → Nat} {bl bl' : List (Nat × Nat × Nat)} {ln ln' np : Nat} {σ α ω : Nat → Nat} (h : AI cl f j st ρ bl ln np σ α ω) (h1 : 1 ≤ st) (hc : (st' = 2 → j + 1 = f + 3) ∧ (st' ≤ 2 → np = 0 ∧ st' = 2) ∧ (st' = 3 → False) ∧ (st' = 4 → j + 1 = f + 3 + 2 * np) ∧ (5 ≤ st' → f + 3 + 2 * np ≤ j + 1 ∧ f + 4 ≤ j + 1)) (h5 : 6 ≤ st → 6 ≤ st') (hln : 8 ≤ st → st ≤ 12 → ln = 0 ∨ 8 ≤ st' ∧ st' ≤ 12 ∧ ln' = ln) (hln2 : 8 ≤ st' → st' ≤ 12 → ln' = 0 ∨ 8 ≤ st ∧ st ≤ 12 ∧ ln' = ln) (hb : ∀ y, y ∈ bl → y ∈ bl') (hb' : ∀ y, y ∈ bl' → f + 2 < y.1 ∧ y.1 < j + 1) (h12 : st' ≠ 12) : AI cl f (j + 1) st' ρ bl' ln' np σ α ω := by
  obtain ⟨a, b, c, p, e, g, i, k, l, m, n, o⟩ := h
  refine ⟨fun q hq => ?_, ⟨fun _ => b.1 h1, b.2⟩, c, ⟨fun h => by have := hc.2.1 (by omega); omega, fun h => by have := hc.2.1 (by omega); omega, hc.1, fun h => (hc.2.1 h).1, fun h => absurd h (fun h => hc.2.2.1 h), hc.2.2.2.1, hc.2.2.2.2⟩, fun q hq => ?_, fun q hq => ?_, i, k, fun q hq => ?_, hb', fun h => absurd h h12, fun ha hb h0 => ?_⟩
  · obtain ⟨z1, z2, z3⟩ := a q hq
    exact ⟨z1, z2, by omega⟩
  · obtain ⟨z1, z2, z3⟩ := e q hq
    exact ⟨z1, z2, h5 z3⟩
  · rcases g q hq with z | z
    · exact Or.inl ⟨z.1, by omega⟩
    · rcases hln z.2.1 z.2.2 with w | w
      · omega
      · exact Or.inr ⟨by omega, w.1, w.2.1⟩
  · obtain ⟨z1, z2, z3⟩ := l q hq
    refine ⟨z1, z2, ?_⟩
    rcases z3 with ⟨y, y1, y2⟩ | z3
    · exact Or.inl ⟨y, hb y y1, y2⟩
    · exact Or.inr ⟨z3.1, by omega⟩
  · rcases hln2 ha hb with w | w
    · exact absurd w h0
    · rw [w.2.2]
      exact o w.1 w.2.1 (by omega)
theorem AI.role {cl : Nat → Nat} {f j st st' q0 t : Nat} {ρ : Nat → Nat} {bl : List (Nat × Nat × Nat)} {ln ln' np : Nat} {σ α ω : Nat → Nat} (h : AI cl f j st ρ bl ln np σ α ω) (hst : 6 ≤ st) (hst' : 6 ≤ st') (ht : 4 ≤ t) (hq : q0 = j ∧ ρ j = 0 ∧ cl j = 200 ∨ q0 = j - 1 ∧ ρ (j - 1) = 5 ∧ f + 1 < j) (hln : 8 ≤ st → st ≤ 12 → ln = 0 ∨ 8 ≤ st' ∧ st' ≤ 12 ∧ ln' = ln) (hln2 : 8 ≤ st' → st' ≤ 12 → ln' = 0 ∨ 8 ≤ st ∧ st ≤ 12 ∧ ln' = ln) (h12 : st' = 12 → q0 = j ∧ t = 5) : AI cl f (j + 1) st' (upN ρ q0 t) bl ln' np σ α ω := by
  obtain ⟨a, b, c, p, e, g, i, k, l, m, n, o⟩ := h
  have hp := p.2.2.2.2.2.2 (by omega)
  have hne : ∀ {k v : Nat}, v < 4 → (upN ρ q0 t k = v ↔ ρ k = v ∧ k ≠ q0) ∨ v = 0 := by
    intro k v hv
    by_cases hv0 : v = 0
    · exact Or.inr hv0
    · refine Or.inl ⟨fun h => ?_, fun h => by rw [uN_ne h.2]; exact h.1⟩
      by_cases hk : k = q0
      · rw [hk, uN_eq] at h; omega
      · rw [uN_ne hk] at h; exact ⟨h, hk⟩
  have ho : ∀ {k v : Nat}, ρ k = v → 0 < v → v < 4 → k ≠ q0 := by
    intro k v h1 h2 h3 h4
    rcases hq with ⟨w1, w2, -⟩ | ⟨w1, w2, -⟩
    · rw [h4, w1] at h1; omega
    · rw [h4, w1] at h1; omega
  have hget : ∀ {k v : Nat}, 0 < v → v < 4 → upN ρ q0 t k = v → ρ k = v := by
    intro k v h1 h2 h3
    rcases hne (k := k) h2 with w | w
    · exact (w.mp h3).1
    · omega
  have hset : ∀ {k v : Nat}, 0 < v → v < 4 → ρ k = v → upN ρ q0 t k = v := by
    intro k v h1 h2 h3
    rw [uN_ne (ho h3 h1 h2)]; exact h3
  refine ⟨fun q hq2 => ?_, ⟨fun _ => hset (by omega) (by omega) (b.1 (by omega)), fun q hq2 => b.2 q (hget (by omega) (by omega) hq2)⟩, ⟨fun q hq2 => c.1 q (hget (by omega) (by omega) hq2), fun q hq2 => hset (by omega) (by omega) (c.2 q hq2)⟩, ⟨fun h => by omega, fun h => by omega, fun h => by omega, fun h => by omega, fun h => by omega, fun h => by omega, fun _ => by omega⟩, fun q hq2 => ?_, fun q hq2 => ?_, fun q hq2 => hset (by omega) (by omega) (i q hq2), fun q1 q2 h1 h2 h3 => k q1 q2 h1 (hget (by omega) (by omega) h2) (hget (by omega) (by omega) h3), fun q hq2 => ?_, fun y hy => ⟨(m y hy).1, by have := (m y hy).2; omega⟩, fun h => ?_, fun ha hb h0 => ?_⟩
  · by_cases hk : q = q0
    · rcases hq with ⟨w1, w2, w3⟩ | ⟨w1, w2, w3⟩
      · subst hk
        rw [w1]
        exact ⟨w3, by omega, by omega⟩
      · obtain ⟨z1, z2, z3⟩ := a (j - 1) (by omega)
        rw [hk, w1]
        exact ⟨z1, z2, by omega⟩
    · rw [uN_ne hk] at hq2
      obtain ⟨z1, z2, z3⟩ := a q hq2
      exact ⟨z1, z2, by omega⟩
  · by_cases hk : q = q0
    · rcases hq with ⟨w1, w2, w3⟩ | ⟨w1, w2, w3⟩
      · exact ⟨by omega, by omega, hst'⟩
      · obtain ⟨z1, z2, z3⟩ := e (j - 1) (by omega)
        exact ⟨by omega, by omega, hst'⟩
    · rw [uN_ne hk] at hq2
      obtain ⟨z1, z2, z3⟩ := e q hq2
      exact ⟨z1, z2, hst'⟩
  · have h3 := hget (by omega) (by omega) hq2
    rcases g q h3 with z | z
    · exact Or.inl ⟨z.1, by omega⟩
    · rcases hln z.2.1 z.2.2 with w | w
      · omega
      · exact Or.inr ⟨by omega, w.1, w.2.1⟩
  · have h3 := hget (by omega) (by omega) hq2
    obtain ⟨z1, z2, z3⟩ := l q h3
    refine ⟨z1, z2, ?_⟩
    rcases z3 with z3 | z3
    · exact Or.inl z3
    · exact Or.inr ⟨z3.1, by omega⟩
  · obtain ⟨w1, w2⟩ := h12 h
    rw [w1, Nat.add_sub_cancel, uN_eq]
    exact ⟨w2, by omega⟩
  · rcases hln2 ha hb with w | w
    · exact absurd w h0
    · rw [w.2.2]
      obtain ⟨z1, z2⟩ := o w.1 w.2.1 (by omega)
      exact ⟨hset (by omega) (by omega) z1, fun q hq2 => z2 q (hget (by omega) (by omega) hq2)⟩
def AIx (cl : Nat → Nat) (f j : Nat) (x : XS) : Prop := AI cl f j x.1 x.2.2.1 x.2.2.2.2.2.1 x.2.2.2.2.2.2.2.1 x.2.2.2.2.2.2.2.2.2.2.1 x.2.2.2.2.2.2.2.2.2.2.2.1 x.2.2.2.2.2.2.2.2.2.2.2.2.1 x.2.2.2.2.2.2.2.2.2.2.2.2.2
theorem stp_ai {cl nm : Nat → Nat} {f j : Nat} {x x' : XS} (hw : Wf x) (hfj : f < j) (hel : 8 ≤ x.1 → x.1 ≤ 12 → x.2.2.2.2.2.2.1 = 123 → x.2.2.2.2.2.2.2.1 = 0) (hi : AIx cl f j x) (h : stp cl nm f j x = some x') : AIx cl f (j + 1) x' := by
  obtain ⟨st, fr, ρ, γ, c, V⟩ := x
  obtain ⟨w1, w2, w3, w4, w5⟩ := hw
  dsimp only at w1 w2 w3 w4 w5 hel
  have hi : AI cl f j st ρ V.1 V.2.2.1 V.2.2.2.2.2.1 V.2.2.2.2.2.2.1 V.2.2.2.2.2.2.2.1 V.2.2.2.2.2.2.2.2 := hi
  obtain ⟨a, b, cc, p, e, g, i, k, l, m, n, o⟩ := id hi
  have hz : ρ j = 0 := by
    by_cases hz : ρ j = 0
    · exact hz
    · have := (a j hz).2.2
      omega
  unfold stp at h
  dsimp only at h
  split at h
  · rename_i h5
    unfold xHd at h
    split at h
    · rename_i h0
      split at h
      · rename_i ht
        have h := Option.some.inj h; subst h
        have hj := p.1 h0
        have hnp := p.2.2.2.1 (by omega)
        refine ⟨fun q hq => ?_, ⟨fun _ => ?_, fun q hq => ?_⟩, ⟨fun q hq => ?_, fun q hq => absurd (show q < V.2.2.2.2.2.1 from hq) (by omega)⟩, ⟨fun h => absurd (show 1 = 0 from h) (by omega), fun _ => by omega, fun h => absurd (show 1 = 2 from h) (by omega), fun _ => hnp, fun h => absurd (show 1 = 3 from h) (by omega), fun h => absurd (show 1 = 4 from h) (by omega), fun h => absurd (show 5 ≤ 1 from h) (by omega)⟩, fun q hq => ?_, fun q hq => ?_, fun q hq => ?_, fun q1 q2 _ h1 _ => ?_, fun q hq => ?_, fun y hy => ⟨(m y hy).1, by have := (m y hy).2; omega⟩, fun h => absurd (show 1 = 12 from h) (by omega), fun h => absurd (show 8 ≤ 1 from h) (by omega)⟩
        · by_cases hk : q = j
          · subst hk; exact ⟨ht, hfj, by omega⟩
          · have hq' : upN ρ j 1 q ≠ 0 := hq
            rw [uN_ne hk] at hq'
            obtain ⟨z1, z2, z3⟩ := a q hq'
            exact ⟨z1, z2, by omega⟩
        · show upN ρ j 1 (f + 1) = 1
          rw [← hj, uN_eq]
        · have hq' : upN ρ j 1 q = 1 := hq
          by_cases hk : q = j
          · omega
          · rw [uN_ne hk] at hq'; exact b.2 q hq'
        · have hq' : upN ρ j 1 q = 2 := hq
          have hk : q ≠ j := fun hk => by rw [hk, uN_eq] at hq'; omega
          rw [uN_ne hk] at hq'; exact cc.1 q hq'
        · have hq' : 3 ≤ upN ρ j 1 q := hq
          have hk : q ≠ j := fun hk => by rw [hk, uN_eq] at hq'; omega
          rw [uN_ne hk] at hq'
          have := (e q hq').2.2
          omega
        · have hq' : upN ρ j 1 q = 3 := hq
          have hk : q ≠ j := fun hk => by rw [hk, uN_eq] at hq'; omega
          rw [uN_ne hk] at hq'
          have := (e q (by omega)).2.2
          omega
        · have := i q hq
          have := (e q (by omega)).2.2
          omega
        · have hq' : upN ρ j 1 q1 = 3 := h1
          have hk : q1 ≠ j := fun hk => by rw [hk, uN_eq] at hq'; omega
          rw [uN_ne hk] at hq'
          have := (e q1 (by omega)).2.2
          omega
        · have hq' : upN ρ j 1 q = 3 := hq
          have hk : q ≠ j := fun hk => by rw [hk, uN_eq] at hq'; omega
          rw [uN_ne hk] at hq'
          have := (e q (by omega)).2.2
          omega
      · exact absurd h (by simp)
    split at h
    · rename_i h0 h1
      split at h
      · have h := Option.some.inj h; subst h
        have := p.2.1 h1
        have := p.2.2.2.1 (by omega)
        exact hi.keep (by omega) ⟨fun _ => by omega, fun _ => ⟨by omega, rfl⟩, fun h => absurd (show 2 = 3 from h) (by omega), fun h => absurd (show 2 = 4 from h) (by omega), fun h => absurd (show 5 ≤ 2 from h) (by omega)⟩ (fun h => by omega) (fun h => by omega) (fun h => absurd (show 8 ≤ 2 from h) (by omega)) (fun y h => h) (fun y hy => ⟨(m y hy).1, by have := (m y hy).2; omega⟩) (by show (2 : Nat) ≠ 12; omega)
      · exact absurd h (by simp)
    split at h
    · rename_i h0 h1 h2
      split at h
      · have h := Option.some.inj h; subst h
        have hp := p.2.2.2.2.2.2 (by omega)
        refine hi.keep (by omega) ⟨fun h => absurd (show 6 = 2 from h) (by omega), fun h => absurd (show 6 ≤ 2 from h) (by omega), fun h => absurd (show 6 = 3 from h) (by omega), fun h => absurd (show 6 = 4 from h) (by omega), fun _ => by omega⟩ (fun h => by omega) (fun h => by omega) (fun _ _ => Or.inr (by omega)) (fun y h => List.mem_cons_of_mem _ h) (fun y hy => ?_) (by show (6 : Nat) ≠ 12; omega)
        rcases List.mem_cons.mp hy with h | h
        · rw [h]; exact ⟨by show f + 2 < j; omega, by show j < j + 1; omega⟩
        · exact ⟨(m y h).1, by have := (m y h).2; omega⟩
      · exact absurd h (by simp)
    split at h
    · rename_i h0 h1 h2 h3
      have h := Option.some.inj h; subst h
      have q2 := p.2.2.1
      have q3 := p.2.2.2.2.1
      have q4 := p.2.2.2.1
      refine hi.keep (by omega) ⟨fun h => absurd (show 5 = 2 from h) (by omega), fun h => absurd (show 5 ≤ 2 from h) (by omega), fun h => absurd (show 5 = 3 from h) (by omega), fun h => absurd (show 5 = 4 from h) (by omega), fun _ => ?_⟩ (fun h => by omega) (fun h => by omega) (fun h => absurd (show 8 ≤ 5 from h) (by omega)) (fun y h => h) (fun y hy => ⟨(m y hy).1, by have := (m y hy).2; omega⟩) (by show (5 : Nat) ≠ 12; omega)
      have hs : st = 2 ∨ st = 3 := by omega
      rcases hs with hs | hs
      · have := q2 hs
        have := q4 (by omega)
        exact ⟨by omega, by omega⟩
      · have := q3 hs
        exact ⟨by omega, by omega⟩
    split at h
    · rename_i h0 h1 h2 h3 h4
      split at h
      · have h := Option.some.inj h; subst h
        have q3 := p.2.2.2.2.1 h4
        exact hi.keep (by omega) ⟨fun h => absurd (show 4 = 2 from h) (by omega), fun h => absurd (show 4 ≤ 2 from h) (by omega), fun h => absurd (show 4 = 3 from h) (by omega), fun _ => by omega, fun h => absurd (show 5 ≤ 4 from h) (by omega)⟩ (fun h => by omega) (fun h => by omega) (fun h => absurd (show 8 ≤ 4 from h) (by omega)) (fun y h => h) (fun y hy => ⟨(m y hy).1, by have := (m y hy).2; omega⟩) (by show (4 : Nat) ≠ 12; omega)
      · exact absurd h (by simp)
    split at h
    · rename_i h0 h1 h2 h3 h4 ht
      have h := Option.some.inj h; subst h
      have q2 := p.2.2.1
      have q4 := p.2.2.2.1
      have q5 := p.2.2.2.2.2.1
      have hs : st = 2 ∨ st = 4 := by omega
      have hj : j = f + 3 + 2 * V.2.2.2.2.2.1 := by
        rcases hs with hs | hs
        · have := q2 hs
          have := q4 (by omega)
          omega
        · exact q5 hs
      have no3 : ∀ q, 3 ≤ ρ q → False := fun q hq => by
        have := (e q hq).2.2
        omega
      have no3' : ∀ q, 3 ≤ upN ρ j 2 q → False := fun q hq => by
        by_cases hk : q = j
        · rw [hk, uN_eq] at hq; omega
        · rw [uN_ne hk] at hq; exact no3 q hq
      refine ⟨fun q hq => ?_, ⟨fun _ => ?_, fun q hq => ?_⟩, ⟨fun q hq => ?_, fun q hq => ?_⟩, ⟨fun h => absurd (show 3 = 0 from h) (by omega), fun h => absurd (show 3 = 1 from h) (by omega), fun h => absurd (show 3 = 2 from h) (by omega), fun h => absurd (show 3 ≤ 2 from h) (by omega), fun _ => ⟨by show j + 1 + 1 = f + 3 + 2 * (V.2.2.2.2.2.1 + 1); omega, by show 0 < V.2.2.2.2.2.1 + 1; omega⟩, fun h => absurd (show 3 = 4 from h) (by omega), fun h => absurd (show 5 ≤ 3 from h) (by omega)⟩, fun q hq => absurd hq (fun hq => no3' q hq), fun q hq => absurd (show upN ρ j 2 q = 3 from hq) (fun hq => no3' q (by omega)), fun q hq => absurd (i q hq) (fun hq => no3 q (by omega)), fun q1 q2 _ h1 _ => absurd (show upN ρ j 2 q1 = 3 from h1) (fun hq => no3' q1 (by omega)), fun q hq => absurd (show upN ρ j 2 q = 3 from hq) (fun hq => no3' q (by omega)), fun y hy => ⟨(m y hy).1, by have := (m y hy).2; omega⟩, fun h => absurd (show 3 = 12 from h) (by omega), fun h => absurd (show 8 ≤ 3 from h) (by omega)⟩
      · by_cases hk : q = j
        · subst hk; exact ⟨ht, hfj, by omega⟩
        · have hq' : upN ρ j 2 q ≠ 0 := hq
          rw [uN_ne hk] at hq'
          obtain ⟨z1, z2, z3⟩ := a q hq'
          exact ⟨z1, z2, by omega⟩
      · show upN ρ j 2 (f + 1) = 1
        rw [uN_ne (by omega)]; exact b.1 (by omega)
      · have hq' : upN ρ j 2 q = 1 := hq
        have hk : q ≠ j := fun hk => by rw [hk, uN_eq] at hq'; omega
        rw [uN_ne hk] at hq'; exact b.2 q hq'
      · have hq' : upN ρ j 2 q = 2 := hq
        show (f + 3 ≤ q ∧ (q - (f + 3)) % 2 = 0) ∧ q < f + 3 + 2 * (V.2.2.2.2.2.1 + 1) ∧ upN V.2.2.2.2.2.2.1 j f q = f
        by_cases hk : q = j
        · rw [hk, uN_eq]; exact ⟨by omega, by omega, rfl⟩
        · rw [uN_ne hk] at hq'
          obtain ⟨z1, z2, z3⟩ := cc.1 q hq'
          rw [uN_ne hk]; exact ⟨z1, by omega, z3⟩
      · show upN ρ j 2 (f + 3 + 2 * q) = 2
        have hq' : q < V.2.2.2.2.2.1 + 1 := hq
        by_cases hk : q = V.2.2.2.2.2.1
        · rw [hk, ← hj, uN_eq]
        · rw [uN_ne (by omega)]; exact cc.2 q (by omega)
    · exact absurd h (by simp)
  rename_i hn5
  have hp := p.2.2.2.2.2.2 (by omega)
  have hc : ∀ {st' : Nat}, 6 ≤ st' → (st' = 2 → j + 1 = f + 3) ∧ (st' ≤ 2 → V.2.2.2.2.2.1 = 0 ∧ st' = 2) ∧ (st' = 3 → False) ∧ (st' = 4 → j + 1 = f + 3 + 2 * V.2.2.2.2.2.1) ∧ (5 ≤ st' → f + 3 + 2 * V.2.2.2.2.2.1 ≤ j + 1 ∧ f + 4 ≤ j + 1) := fun h => ⟨fun h => by omega, fun h => by omega, fun h => by omega, fun h => by omega, fun _ => by omega⟩
  have hbm : ∀ y, y ∈ V.1 → f + 2 < y.1 ∧ y.1 < j + 1 := fun y hy => ⟨(m y hy).1, by have := (m y hy).2; omega⟩
  have hbo : ∀ {te ag : Nat}, ∀ y, y ∈ (j, te, ag) :: V.1 → f + 2 < y.1 ∧ y.1 < j + 1 := fun y hy => by
    rcases List.mem_cons.mp hy with h | h
    · rw [h]; exact ⟨by show f + 2 < j; omega, by show j < j + 1; omega⟩
    · exact hbm y h
  split at h
  · rename_i h6
    have noln : 8 ≤ st → st ≤ 12 → V.2.2.1 = 0 ∨ False := fun h => by omega
    unfold xSt at h
    split at h
    · split at h
      · have h := Option.some.inj h; subst h
        exact hi.keep (by omega) (hc (by omega)) (fun _ => by show 6 ≤ 6; omega) (fun h => by omega) (fun h => absurd (show 8 ≤ 6 from h) (by omega)) (fun y h => List.mem_cons_of_mem _ h) hbo (by show (6 : Nat) ≠ 12; omega)
      · exact absurd h (by simp)
    split at h
    · split at h
      · exact absurd h (by simp)
      · rename_i oo te ag B hB
        have h := Option.some.inj h
        subst h
        have hst' : (if B = [] then 13 else 6) = 13 ∨ (if B = [] then 13 else 6) = 6 := by
          split
          · exact Or.inl rfl
          · exact Or.inr rfl
        have hsub : ∀ y, y ∈ B → y ∈ V.1 := fun y hy => by rw [hB]; exact List.mem_cons_of_mem _ hy
        refine ⟨fun q hq => ?_, ⟨fun _ => b.1 (by omega), b.2⟩, cc, ⟨fun h => absurd (show (if B = [] then 13 else 6) = 0 from h) (by omega), fun h => absurd (show (if B = [] then 13 else 6) = 1 from h) (by omega), fun h => absurd (show (if B = [] then 13 else 6) = 2 from h) (by omega), fun h => absurd (show (if B = [] then 13 else 6) ≤ 2 from h) (by omega), fun h => absurd (show (if B = [] then 13 else 6) = 3 from h) (by omega), fun h => absurd (show (if B = [] then 13 else 6) = 4 from h) (by omega), fun _ => show f + 3 + 2 * V.2.2.2.2.2.1 ≤ j + 1 ∧ f + 4 ≤ j + 1 from ⟨by omega, by omega⟩⟩, fun q hq => ?_, fun q hq => ?_, i, k, fun q hq => ?_, fun y hy => hbm y (hsub y hy), fun h => absurd (show (if B = [] then 13 else 6) = 12 from h) (by omega), fun h h2 => absurd (show 8 ≤ (if B = [] then 13 else 6) from h) (by have : (if B = [] then 13 else 6) ≤ 12 := h2; omega)⟩
        · obtain ⟨z1, z2, z3⟩ := a q hq
          exact ⟨z1, z2, by omega⟩
        · obtain ⟨z1, z2, z3⟩ := e q hq
          exact ⟨z1, z2, by show 6 ≤ (if B = [] then 13 else 6); omega⟩
        · rcases g q hq with z | z
          · exact Or.inl ⟨z.1, Nat.le_succ_of_le z.2⟩
          · omega
        · obtain ⟨z1, z2, z3⟩ := l q hq
          refine ⟨z1, z2, ?_⟩
          have hqj := (a q (by have : ρ q = 3 := hq; omega)).2.2
          show (∃ y, y ∈ B ∧ y.1 = V.2.2.2.2.2.2.1 q) ∨ q < upN V.2.2.2.2.2.2.2.2 oo j (V.2.2.2.2.2.2.1 q) ∧ upN V.2.2.2.2.2.2.2.2 oo j (V.2.2.2.2.2.2.1 q) ≤ j + 1
          by_cases ho : V.2.2.2.2.2.2.1 q = oo
          · rw [ho, uN_eq]; exact Or.inr ⟨hqj, by omega⟩
          · rw [uN_ne ho]
            rcases z3 with ⟨y, y1, y2⟩ | z3
            · have y1' : y ∈ V.1 := y1
              rw [hB] at y1'
              rcases List.mem_cons.mp y1' with w | w
              · rw [w] at y2; exact absurd y2.symm ho
              · exact Or.inl ⟨y, w, y2⟩
            · exact Or.inr ⟨z3.1, Nat.le_succ_of_le z3.2⟩
    split at h
    · rename_i ht
      have h := Option.some.inj h; subst h
      exact hi.role (st' := 8) (q0 := j) (t := 4) (by omega) (by omega) (by omega) (Or.inl ⟨rfl, hz, ht⟩) (fun h => by omega) (fun _ _ => Or.inl rfl) (fun h => absurd h (by omega))
    split at h
    · have h := Option.some.inj h; subst h
      exact hi.keep (by omega) (hc (by omega)) (fun _ => by show 6 ≤ 7; omega) (fun h => by omega) (fun h => absurd (show 8 ≤ 7 from h) (by omega)) (fun y h => h) hbm (by show (7 : Nat) ≠ 12; omega)
    repeat' split at h
    all_goals first | (have h := Option.some.inj h; subst h; exact hi.keep (by omega) (hc (by omega)) (fun _ => by show 6 ≤ 9; omega) (fun h => by omega) (fun _ _ => Or.inl rfl) (fun y h => h) hbm (by show (9 : Nat) ≠ 12; omega)) | exact absurd h (by simp)
  split at h
  · rename_i h6 h7
    have hbl := w1 (by omega) (by omega)
    unfold xLet at h
    split at h
    · rename_i ht
      have h := Option.some.inj h; subst h
      obtain ⟨⟨oo, te, ag⟩, B, hB⟩ : ∃ B0 B, V.1 = B0 :: B := by
        cases hv : V.1 with
        | nil => exact absurd hv hbl
        | cons a b => exact ⟨a, b, rfl⟩
      have hhd : (V.1.headD (0, 0, 0)).1 = oo := by rw [hB]; rfl
      have hoo := m (oo, te, ag) (by rw [hB]; exact List.mem_cons_self ..)
      have hoo1 : f + 2 < oo := hoo.1
      have hoo2 : oo < j := hoo.2
      have done : ∀ q, ρ q = 3 → q < V.2.2.2.2.2.2.2.1 q ∧ V.2.2.2.2.2.2.2.1 q ≤ j := fun q hq => by
        rcases g q hq with z | z
        · exact z
        · omega
      have get : ∀ {q v : Nat}, v ≠ 3 → upN ρ j 3 q = v → ρ q = v := fun {q v} hv hq => by
        by_cases hk : q = j
        · rw [hk, uN_eq] at hq; omega
        · rw [uN_ne hk] at hq; exact hq
      refine ⟨fun q hq => ?_, ⟨fun _ => ?_, fun q hq => b.2 q (get (by omega) hq)⟩, ⟨fun q hq => ?_, fun q hq => ?_⟩, ⟨fun h => absurd (show 8 = 0 from h) (by omega), fun h => absurd (show 8 = 1 from h) (by omega), fun h => absurd (show 8 = 2 from h) (by omega), fun h => absurd (show 8 ≤ 2 from h) (by omega), fun h => absurd (show 8 = 3 from h) (by omega), fun h => absurd (show 8 = 4 from h) (by omega), fun _ => show f + 3 + 2 * V.2.2.2.2.2.1 ≤ j + 1 ∧ f + 4 ≤ j + 1 from ⟨by omega, by omega⟩⟩, fun q hq => ?_, fun q hq => ?_, fun q hq => ?_, fun q1 q2 h1 h2 h3 => ?_, fun q hq => ?_, hbm, fun h => absurd (show 8 = 12 from h) (by omega), fun _ _ _ => ⟨?_, fun q hq => ?_⟩⟩
      · by_cases hk : q = j
        · subst hk; exact ⟨ht, hfj, by omega⟩
        · have hq' : upN ρ j 3 q ≠ 0 := hq
          rw [uN_ne hk] at hq'
          obtain ⟨z1, z2, z3⟩ := a q hq'
          exact ⟨z1, z2, by omega⟩
      · show upN ρ j 3 (f + 1) = 1
        rw [uN_ne (by omega)]; exact b.1 (by omega)
      · have hq' : upN ρ j 3 q = 2 := hq
        have hk : q ≠ j := fun hk => by rw [hk, uN_eq] at hq'; omega
        obtain ⟨z1, z2, z3⟩ := cc.1 q (get (by omega) hq')
        refine ⟨z1, z2, ?_⟩
        show upN V.2.2.2.2.2.2.1 j (V.1.headD (0, 0, 0)).1 q = f
        rw [uN_ne hk]; exact z3
      · show upN ρ j 3 (f + 3 + 2 * q) = 2
        have hq' : q < V.2.2.2.2.2.1 := hq
        rw [uN_ne (by omega)]; exact cc.2 q hq'
      · have hq' : 3 ≤ upN ρ j 3 q := hq
        by_cases hk : q = j
        · rw [hk]; exact ⟨by show f + 3 + 2 * V.2.2.2.2.2.1 ≤ j; omega, by omega, by show 6 ≤ 8; omega⟩
        · rw [uN_ne hk] at hq'
          obtain ⟨z1, z2, z3⟩ := e q hq'
          exact ⟨z1, z2, by show 6 ≤ 8; omega⟩
      · have hq' : upN ρ j 3 q = 3 := hq
        by_cases hk : q = j
        · exact Or.inr ⟨by show q + 1 = j + 1; omega, by show 8 ≤ 8; omega, by show 8 ≤ 12; omega⟩
        · rw [uN_ne hk] at hq'
          obtain ⟨z1, z2⟩ := done q hq'
          exact Or.inl ⟨z1, Nat.le_succ_of_le z2⟩
      · show upN ρ j 3 q = 3
        by_cases hk : q = j
        · rw [hk, uN_eq]
        · rw [uN_ne hk]; exact i q hq
      · have h2' : upN ρ j 3 q1 = 3 := h2
        have h3' : upN ρ j 3 q2 = 3 := h3
        by_cases hk2 : q2 = j
        · have hk1 : q1 ≠ j := by omega
          rw [uN_ne hk1] at h2'
          rw [hk2]; exact done q1 h2'
        · rw [uN_ne hk2] at h3'
          have hq2 := (a q2 (by omega)).2.2
          have hk1 : q1 ≠ j := by omega
          rw [uN_ne hk1] at h2'
          exact k q1 q2 h1 h2' h3'
      · have hq' : upN ρ j 3 q = 3 := hq
        show f + 2 < upN V.2.2.2.2.2.2.1 j (V.1.headD (0, 0, 0)).1 q ∧ upN V.2.2.2.2.2.2.1 j (V.1.headD (0, 0, 0)).1 q < q ∧ ((∃ y, y ∈ V.1 ∧ y.1 = upN V.2.2.2.2.2.2.1 j (V.1.headD (0, 0, 0)).1 q) ∨ q < V.2.2.2.2.2.2.2.2 (upN V.2.2.2.2.2.2.1 j (V.1.headD (0, 0, 0)).1 q) ∧ V.2.2.2.2.2.2.2.2 (upN V.2.2.2.2.2.2.1 j (V.1.headD (0, 0, 0)).1 q) ≤ j + 1)
        by_cases hk : q = j
        · rw [hk, uN_eq, hhd]
          exact ⟨hoo1, hoo2, Or.inl ⟨(oo, te, ag), by rw [hB]; exact List.mem_cons_self .., rfl⟩⟩
        · rw [uN_ne hk] at hq'
          rw [uN_ne hk]
          obtain ⟨z1, z2, z3⟩ := l q hq'
          refine ⟨z1, z2, ?_⟩
          rcases z3 with z3 | z3
          · exact Or.inl z3
          · exact Or.inr ⟨z3.1, Nat.le_succ_of_le z3.2⟩
      · show upN ρ j 3 (j + 1 - 1) = 3
        rw [Nat.add_sub_cancel, uN_eq]
      · have hq' : upN ρ j 3 q = 3 := hq
        show q ≤ j + 1 - 1
        by_cases hk : q = j
        · omega
        · rw [uN_ne hk] at hq'
          have := (a q (by omega)).2.2
          omega
    · exact absurd h (by simp)
  split at h
  · rename_i h6 h7 h8
    split at h
    · have h := Option.some.inj h; subst h
      exact hi.keep (by omega) (hc (by omega)) (fun _ => by show 6 ≤ 9; omega) (fun _ _ => Or.inr ⟨by show 8 ≤ 9; omega, by show 9 ≤ 12; omega, rfl⟩) (fun _ _ => Or.inr ⟨by omega, by omega, rfl⟩) (fun y h => h) hbm (by show (9 : Nat) ≠ 12; omega)
    · exact absurd h (by simp)
  split at h
  · exact absurd h (by simp)
  rename_i h6 h7 h8 _ ca le cn oo F
  have hst : st ≤ 12 := by
    by_cases h13 : 13 ≤ st
    · exact absurd (w2 (Or.inr h13)) (List.cons_ne_nil _ _)
    · omega
  have kp : ∀ {st' : Nat}, 9 ≤ st' → st' ≤ 11 → AI cl f (j + 1) st' ρ V.1 V.2.2.1 V.2.2.2.2.2.1 V.2.2.2.2.2.2.1 V.2.2.2.2.2.2.2.1 V.2.2.2.2.2.2.2.2 := fun h1 h2 => hi.keep (by omega) (hc (by omega)) (fun _ => by omega) (fun _ _ => Or.inr ⟨by omega, by omega, rfl⟩) (fun _ _ => Or.inr ⟨by omega, by omega, rfl⟩) (fun y h => h) hbm (by omega)
  split at h
  · unfold xOpd at h
    split at h
    · have h := Option.some.inj h; subst h; exact kp (by omega) (by omega)
    split at h
    · have h := Option.some.inj h; subst h; exact kp (by omega) (by omega)
    split at h
    · rename_i ht
      have h := Option.some.inj h; subst h
      exact hi.role (st' := 12) (q0 := j) (t := 5) (by omega) (by omega) (by omega) (Or.inl ⟨rfl, hz, ht⟩) (fun _ _ => Or.inr ⟨by omega, by omega, rfl⟩) (fun _ _ => Or.inr ⟨by omega, by omega, rfl⟩) (fun _ => ⟨rfl, rfl⟩)
    split at h
    · have h := Option.some.inj h; subst h; exact kp (by omega) (by omega)
    · exact absurd h (by simp)
  split at h
  · rename_i h12
    split at h
    · have h := Option.some.inj h; subst h
      obtain ⟨z1, z2⟩ := n h12.1
      exact hi.role (st' := 10) (q0 := j - 1) (t := 6) (by omega) (by omega) (by omega) (Or.inr ⟨rfl, z1, z2⟩) (fun _ _ => Or.inr ⟨by omega, by omega, rfl⟩) (fun _ _ => Or.inr ⟨by omega, by omega, rfl⟩) (fun h => absurd h (by omega))
    · exact absurd h (by simp)
  split at h
  · unfold xOpr at h
    split at h
    · have h := Option.some.inj h; subst h; exact kp (by omega) (by omega)
    split at h
    · split at h
      · have h := Option.some.inj h; subst h; exact kp (by omega) (by omega)
      · exact absurd h (by simp)
    split at h
    · unfold xEnd at h
      split at h
      · split at h
        · split at h
          · rename_i h123 _
            have h := Option.some.inj h; subst h
            have hl0 := hel (by omega) hst (by omega)
            exact hi.keep (by omega) (hc (by omega)) (fun _ => by show 6 ≤ 6; omega) (fun _ _ => Or.inl hl0) (fun h => absurd (show 8 ≤ 6 from h) (by omega)) (fun y h => List.mem_cons_of_mem _ h) hbo (by show (6 : Nat) ≠ 12; omega)
          · exact absurd h (by simp)
        · have h := Option.some.inj h; subst h
          by_cases hl0 : V.2.2.1 = 0
          · show AI cl f (j + 1) 6 ρ V.1 0 V.2.2.2.2.2.1 V.2.2.2.2.2.2.1 (if V.2.2.1 = 0 then V.2.2.2.2.2.2.2.1 else upN V.2.2.2.2.2.2.2.1 (V.2.2.1 - 1) (j + 1)) V.2.2.2.2.2.2.2.2
            rw [if_pos hl0]
            exact hi.keep (by omega) (hc (by omega)) (fun _ => by omega) (fun _ _ => Or.inl hl0) (fun h => absurd h (by omega)) (fun y h => h) hbm (by omega)
          · show AI cl f (j + 1) 6 ρ V.1 0 V.2.2.2.2.2.1 V.2.2.2.2.2.2.1 (if V.2.2.1 = 0 then V.2.2.2.2.2.2.2.1 else upN V.2.2.2.2.2.2.2.1 (V.2.2.1 - 1) (j + 1)) V.2.2.2.2.2.2.2.2
            rw [if_neg hl0]
            obtain ⟨o1, o2⟩ := o (by omega) hst hl0
            have o3 := (a (V.2.2.1 - 1) (by omega)).2.2
            refine ⟨fun q hq => ?_, ⟨fun _ => b.1 (by omega), b.2⟩, cc, ⟨fun h => by omega, fun h => by omega, fun h => by omega, fun h => by omega, fun h => by omega, fun h => by omega, fun _ => by omega⟩, fun q hq => ?_, fun q hq => ?_, fun q hq => ?_, fun q1 q2 h1 h2 h3 => ?_, fun q hq => ?_, hbm, fun h => by omega, fun h => by omega⟩
            · obtain ⟨z1, z2, z3⟩ := a q hq
              exact ⟨z1, z2, by omega⟩
            · obtain ⟨z1, z2, z3⟩ := e q hq
              exact ⟨z1, z2, by omega⟩
            · by_cases hk : q = V.2.2.1 - 1
              · rw [hk, uN_eq]; exact Or.inl ⟨by omega, by omega⟩
              · rw [uN_ne hk]
                rcases g q hq with z | z
                · exact Or.inl ⟨z.1, by omega⟩
                · omega
            · by_cases hk : q = V.2.2.1 - 1
              · rw [hk]; exact o1
              · rw [uN_ne hk] at hq; exact i q hq
            · have := o2 q2 h3
              rw [uN_ne (by omega)]
              exact k q1 q2 h1 h2 h3
            · obtain ⟨z1, z2, z3⟩ := l q hq
              refine ⟨z1, z2, ?_⟩
              rcases z3 with z3 | z3
              · exact Or.inl z3
              · exact Or.inr ⟨z3.1, by omega⟩
      · exact absurd h (by simp)
    split at h
    · have h := Option.some.inj h; subst h; exact kp (by omega) (by omega)
    split at h
    · have h := Option.some.inj h; subst h; exact kp (by omega) (by omega)
    · exact absurd h (by simp)
  · exact absurd h (by simp)
theorem stp_el {cl nm : Nat → Nat} {f k : Nat} {x x' : XS} (hw : 8 ≤ x.1 → x.1 ≤ 12 → x.2.2.2.2.2.2.1 = 123 → x.2.2.2.2.2.2.2.1 = 0) (hw13 : x.1 ≤ 13) (h : stp cl nm f k x = some x') : 8 ≤ x'.1 → x'.1 ≤ 12 → x'.2.2.2.2.2.2.1 = 123 → x'.2.2.2.2.2.2.2.1 = 0 := by
  intro hx1 hx2
  unfold stp at h
  split at h
  · unfold xHd at h
    repeat' split at h
    all_goals first | (have h := Option.some.inj h; subst h; revert hx1; dsimp only; omega) | exact absurd h (by simp)
  split at h
  · unfold xSt at h
    split at h
    · split at h
      · have h := Option.some.inj h; subst h; exact absurd (show 8 ≤ 6 from hx1) (by omega)
      · exact absurd h (by simp)
    split at h
    · split at h
      · exact absurd h (by simp)
      · rename_i o te ag B _
        have h := Option.some.inj h
        subst h
        have hx1' : 8 ≤ (if B = [] then 13 else 6) := hx1
        have hx2' : (if B = [] then 13 else 6) ≤ 12 := hx2
        split at hx1'
        · rename_i hB
          rw [if_pos hB] at hx2'; omega
        · omega
    repeat' split at h
    all_goals first | (have h := Option.some.inj h; subst h; exact fun _ => rfl) | (have h := Option.some.inj h; subst h; revert hx1; dsimp only; omega) | exact absurd h (by simp)
  split at h
  · unfold xLet at h
    split at h
    · have h := Option.some.inj h; subst h; exact fun h => absurd (show 59 = 123 from h) (by omega)
    · exact absurd h (by simp)
  split at h
  · split at h
    · have h := Option.some.inj h; subst h; exact hw (by omega) (by omega)
    · exact absurd h (by simp)
  split at h
  · exact absurd h (by simp)
  split at h
  · unfold xOpd at h
    repeat' split at h
    all_goals first | (have h := Option.some.inj h; subst h; exact hw (by omega) (by omega)) | exact absurd h (by simp)
  split at h
  · split at h
    · have h := Option.some.inj h; subst h; exact hw (by omega) (by omega)
    · exact absurd h (by simp)
  split at h
  · unfold xOpr at h
    split at h
    · have h := Option.some.inj h; subst h; exact hw (by omega) (by omega)
    split at h
    · split at h
      · have h := Option.some.inj h; subst h; exact hw (by omega) (by omega)
      · exact absurd h (by simp)
    split at h
    · unfold xEnd at h
      repeat' split at h
      all_goals first | (have h := Option.some.inj h; subst h; revert hx1; dsimp only; omega) | exact absurd h (by simp)
    repeat' split at h
    all_goals first | (have h := Option.some.inj h; subst h; exact hw (by omega) (by omega)) | exact absurd h (by simp)
  · exact absurd h (by simp)
theorem aut_ai {cl nm : Nat → Nat} {f : Nat} {c0 : Cds} : ∀ (i : Nat) (x : XS), aut0 cl nm f c0 i = some x → AIx cl f (f + 1 + i) x ∧ (8 ≤ x.1 → x.1 ≤ 12 → x.2.2.2.2.2.2.1 = 123 → x.2.2.2.2.2.2.2.1 = 0) := by
  intro i
  induction i with
  | zero =>
    intro x h
    have h := Option.some.inj h
    subst h
    refine ⟨⟨fun q hq => absurd rfl hq, ⟨fun h => absurd (show 1 ≤ 0 from h) (by omega), fun q hq => absurd (show 0 = 1 from hq) (by omega)⟩, ⟨fun q hq => absurd (show 0 = 2 from hq) (by omega), fun q hq => absurd (show q < 0 from hq) (by omega)⟩, ⟨fun _ => rfl, fun h => absurd (show 0 = 1 from h) (by omega), fun h => absurd (show 0 = 2 from h) (by omega), fun _ => rfl, fun h => absurd (show 0 = 3 from h) (by omega), fun h => absurd (show 0 = 4 from h) (by omega), fun h => absurd (show 5 ≤ 0 from h) (by omega)⟩, fun q hq => absurd (show 3 ≤ 0 from hq) (by omega), fun q hq => absurd (show 0 = 3 from hq) (by omega), fun q hq => absurd rfl hq, fun _ _ _ hq => absurd (show 0 = 3 from hq) (by omega), fun q hq => absurd (show 0 = 3 from hq) (by omega), fun y hy => absurd hy List.not_mem_nil, fun h => absurd (show 0 = 12 from h) (by omega), fun h => absurd (show 8 ≤ 0 from h) (by omega)⟩, fun h => absurd (show 8 ≤ 0 from h) (by omega)⟩
  | succ i ih =>
    intro x h
    have h : (aut0 cl nm f c0 i).bind (stp cl nm f (f + 1 + i)) = some x := h
    cases h3 : aut0 cl nm f c0 i with
    | none => rw [h3] at h; exact absurd h (by simp)
    | some y =>
      rw [h3] at h
      obtain ⟨g1, g2⟩ := ih y h3
      exact ⟨stp_ai (j := f + 1 + i) (aut_wf _ _ h3) (show f < f + 1 + i by omega) g2 g1 h, stp_el g2 (aut_wf _ _ h3).2.2.2.1 h⟩
