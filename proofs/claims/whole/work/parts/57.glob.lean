/-! the reading of a text as functions of its tokens -/
theorem up6 {ρ : Nat → Nat} {q t : Nat} (h : ∀ k, ρ k ≤ 6) (ht : t ≤ 6) : ∀ k, upN ρ q t k ≤ 6 := fun k => by
  by_cases hk : k = q
  · rw [hk, uN_eq]; exact ht
  · rw [uN_ne hk]; exact h k
theorem stp_r6 {cl nm : Nat → Nat} {f k : Nat} {x x' : XS} (hr : ∀ q, x.2.2.1 q ≤ 6) (h : stp cl nm f k x = some x') : ∀ q, x'.2.2.1 q ≤ 6 := by
  unfold stp at h
  split at h
  · unfold xHd at h
    repeat' split at h
    all_goals first | (have h := Option.some.inj h; subst h; exact hr) | (have h := Option.some.inj h; subst h; exact up6 hr (by omega)) | exact absurd h (by simp)
  split at h
  · unfold xSt at h
    repeat' split at h
    all_goals first | (have h := Option.some.inj h; subst h; exact hr) | (have h := Option.some.inj h; subst h; exact up6 hr (by omega)) | exact absurd h (by simp)
  split at h
  · unfold xLet at h
    repeat' split at h
    all_goals first | (have h := Option.some.inj h; subst h; exact hr) | (have h := Option.some.inj h; subst h; exact up6 hr (by omega)) | exact absurd h (by simp)
  split at h
  · repeat' split at h
    all_goals first | (have h := Option.some.inj h; subst h; exact hr) | exact absurd h (by simp)
  split at h
  · exact absurd h (by simp)
  split at h
  · unfold xOpd at h
    repeat' split at h
    all_goals first | (have h := Option.some.inj h; subst h; exact hr) | (have h := Option.some.inj h; subst h; exact up6 hr (by omega)) | exact absurd h (by simp)
  split at h
  · repeat' split at h
    all_goals first | (have h := Option.some.inj h; subst h; exact up6 hr (by omega)) | exact absurd h (by simp)
  split at h
  · unfold xOpr at h
    split at h
    · have h := Option.some.inj h; subst h; exact hr
    split at h
    · split at h
      · have h := Option.some.inj h; subst h; exact hr
      · exact absurd h (by simp)
    split at h
    · unfold xEnd at h
      repeat' split at h
      all_goals first | (have h := Option.some.inj h; subst h; exact hr) | exact absurd h (by simp)
    repeat' split at h
    all_goals first | (have h := Option.some.inj h; subst h; exact hr) | exact absurd h (by simp)
  · exact absurd h (by simp)
theorem aut_r6 {cl nm : Nat → Nat} {f : Nat} {c0 : Cds} : ∀ (i : Nat) (x : XS), aut0 cl nm f c0 i = some x → ∀ q, x.2.2.1 q ≤ 6 := by
  intro i
  induction i with
  | zero =>
    intro x h
    have h := Option.some.inj h
    subst h
    exact fun q => by show 0 ≤ 6; omega
  | succ i ih =>
    intro x h
    have h : (aut0 cl nm f c0 i).bind (stp cl nm f (f + 1 + i)) = some x := h
    cases h3 : aut0 cl nm f c0 i with
    | none => rw [h3] at h; exact absurd h (by simp)
    | some y =>
      rw [h3] at h
      exact stp_r6 (ih y h3) h
def gR (cl nm : Nat → Nat) (N : Nat) (cs : Nat → Cds) (k : Nat) : Nat := if okP cl nm N cs (pt cl N k) then (Xp cl nm N cs (pt cl N k)).2.2.1 k else 0
def gG (cl nm : Nat → Nat) (N : Nat) (cs : Nat → Cds) (k : Nat) : Nat := (Xp cl nm N cs (pt cl N k)).2.2.2.1 k
def gSc (cl nm : Nat → Nat) (N : Nat) (cs : Nat → Cds) (k : Nat) : Nat := (Xp cl nm N cs (pt cl N k)).2.2.2.2.2.2.2.2.2.2.2.1 k
def gSi (cl nm : Nat → Nat) (N : Nat) (cs : Nat → Cds) (k : Nat) : Nat := if gR cl nm N cs k = 2 then bd cl N (pt cl N k) else (Xp cl nm N cs (pt cl N k)).2.2.2.2.2.2.2.2.2.2.2.2.1 k
def gUn (cl nm : Nat → Nat) (N : Nat) (cs : Nat → Cds) (k : Nat) : Nat := if gR cl nm N cs k = 2 then bd cl N (pt cl N k + 1) else (Xp cl nm N cs (pt cl N k)).2.2.2.2.2.2.2.2.2.2.2.2.2 (gSc cl nm N cs k)
def gN (cl nm : Nat → Nat) (N : Nat) (cs : Nat → Cds) (p : Nat) : Nat := (Xp cl nm N cs p).2.2.2.2.2.2.2.2.2.2.1
theorem gR_ok {cl nm : Nat → Nat} {N : Nat} {cs : Nat → Cds} {k : Nat} (h : okP cl nm N cs (pt cl N k) = true) : gR cl nm N cs k = (Xp cl nm N cs (pt cl N k)).2.2.1 k := by
  unfold gR
  rw [if_pos h]
/-- What a part that was read is like at its end. -/
theorem end_ok {cl nm : Nat → Nat} {N p : Nat} {cs : Nat → Cds} (hK : TK cl nm N) (hp : p < (ps cl N).length) (h : okP cl nm N cs p = true) : AIx cl (bd cl N p) (bd cl N (p + 1)) (Xp cl nm N cs p) ∧ (Xp cl nm N cs p).1 = 13 ∧ (Xp cl nm N cs p).2.2.2.2.2.1 = [] ∧ ∀ q, (Xp cl nm N cs p).2.2.1 q ≤ 6 := by
  obtain ⟨o1, o2, o3⟩ := okP_t h
  have hlt := (bd_ok hK).2.2.1 p hp
  have hA0 : aut0 cl nm (bd cl N p) (cs p) (bd cl N (p + 1) - (bd cl N p + 1)) = some (Xp cl nm N cs p) := o2
  have hai := (aut_ai _ _ hA0).1
  rw [show bd cl N p + 1 + (bd cl N (p + 1) - (bd cl N p + 1)) = bd cl N (p + 1) by omega] at hai
  exact ⟨hai, o3, aut_13 _ _ hA0 o3, aut_r6 _ _ hA0⟩
theorem gAW {cl nm : Nat → Nat} {N : Nat} (cs : Nat → Cds) (hK : TK cl nm N) : AW cl nm N (gR cl nm N cs) (gSc cl nm N cs) (gSi cl nm N cs) (gUn cl nm N cs) (okP cl nm N cs) := by
  obtain ⟨b1, b2, b3, b4, b5, b6, b7, b8⟩ := bd_ok hK
  refine ⟨fun k hk => ?_, fun p hp ho => ?_, fun q1 q2 hq2 hlt hpe h1 h2 => ?_⟩
  · obtain ⟨p1, p2, p3⟩ := pt_ok hK hk
    cases ho : okP cl nm N cs (pt cl N k) with
    | false =>
      have hz : gR cl nm N cs k = 0 := by
        unfold gR
        rw [ho]; rfl
      rw [hz]
      exact ⟨by omega, fun h => absurd rfl h, fun h => by omega, fun h => by omega, fun h => by omega, fun h => by omega⟩
    | true =>
      obtain ⟨hai, h13, hbl, hr6⟩ := end_ok hK p1 ho
      obtain ⟨a, b, c, p, e, g, i, kk', l, m, n, o⟩ := hai
      have hR := gR_ok ho
      refine ⟨by rw [hR]; exact hr6 k, fun h => ?_, fun h => ?_, fun h => ?_, fun h => ?_, fun h => ?_⟩
      · rw [hR] at h
        obtain ⟨z1, z2, z3⟩ := a k h
        exact ⟨rfl, z1, z2⟩
      · rw [hR] at h; exact b.2 k h
      · have h' := h
        rw [hR] at h'
        obtain ⟨⟨z1, z2⟩, z3, z4⟩ := c.1 k h'
        refine ⟨z1, z4, ?_, ?_⟩
        · unfold gSi
          rw [if_pos h]
        · unfold gUn
          rw [if_pos h]
      · have h' := h
        rw [hR] at h'
        obtain ⟨z1, z2, z3⟩ := l k h'
        have hsi : gSi cl nm N cs k = (Xp cl nm N cs (pt cl N k)).2.2.2.2.2.2.2.2.2.2.2.2.1 k := by
          unfold gSi
          rw [if_neg (by omega)]
        have hun : gUn cl nm N cs k = (Xp cl nm N cs (pt cl N k)).2.2.2.2.2.2.2.2.2.2.2.2.2 (gSc cl nm N cs k) := by
          unfold gUn
          rw [if_neg (by omega)]
        rw [hsi, hun]
        refine ⟨z1, z2, ?_, ?_, ?_⟩
        · rcases g k h' with y | y
          · exact y.1
          · rw [h13] at y; omega
        · rcases g k h' with y | y
          · exact y.2
          · rw [h13] at y; omega
        · rcases z3 with ⟨y, y1, -⟩ | z3
          · rw [hbl] at y1; exact absurd y1 List.not_mem_nil
          · exact z3.2
      · rw [hR] at h
        obtain ⟨z1, z2, z3⟩ := e k h
        refine ⟨by omega, fun q hq hpq hq2 => ?_⟩
        have hoq : okP cl nm N cs (pt cl N q) = true := by rw [hpq]; exact ho
        rw [gR_ok hoq, hpq] at hq2
        obtain ⟨-, y3, -⟩ := c.1 q hq2
        omega
  · obtain ⟨hai, h13, hbl, hr6⟩ := end_ok hK hp ho
    obtain ⟨a, b, c, p', e, -⟩ := hai
    have h1 := b.1 (by rw [h13]; omega)
    have h2 := (a (bd cl N p + 1) (by rw [h1]; omega)).2.2
    refine ⟨h2, ?_⟩
    have hpt : pt cl N (bd cl N p + 1) = p := pt_in hK hp (by omega) h2
    rw [gR_ok (by rw [hpt]; exact ho), hpt]
    exact h1
  · obtain ⟨p1, p2, p3⟩ := pt_ok hK hq2
    have ho : okP cl nm N cs (pt cl N q2) = true := by
      cases ho : okP cl nm N cs (pt cl N q2) with
      | true => rfl
      | false =>
        unfold gR at h2
        rw [ho, if_neg (by decide)] at h2
        omega
    obtain ⟨hai, h13, hbl, hr6⟩ := end_ok hK p1 ho
    obtain ⟨a, b, c, p', e, g, i, kk', l, -⟩ := hai
    have ho1 : okP cl nm N cs (pt cl N q1) = true := by rw [hpe]; exact ho
    have hsi : gSi cl nm N cs q1 = (Xp cl nm N cs (pt cl N q1)).2.2.2.2.2.2.2.2.2.2.2.2.1 q1 := by
      unfold gSi
      rw [if_neg (by omega)]
    rw [hsi]
    rw [gR_ok ho1] at h1
    rw [gR_ok ho] at h2
    rw [hpe] at h1 ⊢
    exact (kk' q1 q2 hlt h1 h2).2
theorem gDW {cl nm sk ek : Nat → Nat} {N : Nat} {cs : Nat → Cds} {d : DS} (hK : TK cl nm N) (hT : DTok cl nm N d) (hD : ∀ q, q < (ps cl N).length → DF cl nm sk ek N cs q d) (h5 : d.2 5 = Int32.ofNat (nfn (okP cl nm N cs) (ps cl N).length)) : DW cl nm N (gR cl nm N cs) (gG cl nm N cs) (gSc cl nm N cs) (gSi cl nm N cs) (gUn cl nm N cs) (gN cl nm N cs) (okP cl nm N cs) d := by
  refine ⟨hT, fun k hk ho => ?_, h5, fun p hp ho => ?_⟩
  · obtain ⟨p1, p2, p3⟩ := pt_ok hK hk
    obtain ⟨g1, g2, g3, g4, g5, g6, g7⟩ := (hD _ p1).1 ho
    obtain ⟨y1, y2, y3, y4⟩ := g2 k p2 p3
    have hR := gR_ok ho
    refine ⟨by rw [hR]; exact y1, fun h => y2 (by rw [← hR]; exact h), fun h => ?_, fun h => ?_⟩
    · obtain ⟨z1, z2⟩ := y3 (by rw [← hR]; exact h)
      refine ⟨z1, z2, ?_⟩
      unfold gUn
      rw [if_pos h]; exact g3
    · obtain ⟨z1, z2, z3⟩ := y4 (by rw [← hR]; exact h)
      refine ⟨z1, ?_, ?_⟩
      · unfold gSi
        rw [if_neg (by omega)]; exact z2
      · unfold gUn
        rw [if_neg (by omega)]; exact z3
  · obtain ⟨g1, g2, g3, g4, g5, g6, g7⟩ := (hD p hp).1 ho
    exact ⟨g4, g5⟩
theorem gMW {cl nm sk ek : Nat → Nat} {N : Nat} {cs : Nat → Cds} {r : RS} (hK : TK cl nm N) (hM : MTok cl nm sk N r) (hF : ∀ q, q < (ps cl N).length → MF' cl nm sk ek N cs q r) (h4 : r.2.1 4 = Int32.ofNat (ps cl N).length) (h17 : ∀ i, i < (ps cl N).length → r.1 17 i = Int32.ofNat (bd cl N (i + 1))) : MW cl nm sk N (gR cl nm N cs) (gG cl nm N cs) (gSc cl nm N cs) (gSi cl nm N cs) (gUn cl nm N cs) (gN cl nm N cs) (okP cl nm N cs) r := by
  have hN := hK.1
  obtain ⟨b1, b2, b3, b4, b5, b6, b7, b8⟩ := bd_ok hK
  have hA := gAW cs hK
  refine ⟨hM, fun k hk => ?_, h4, fun i hi => ⟨h17 i hi, fun ho => ?_⟩⟩
  · obtain ⟨p1, p2, p3⟩ := pt_ok hK hk
    obtain ⟨w1, w2, w3, w4, w5, w6⟩ := hA.1 k hk
    have hb1 := b5 (pt cl N k)
    have hb2 := b5 (pt cl N k + 1)
    cases ho : okP cl nm N cs (pt cl N k) with
    | false =>
      have hz : gR cl nm N cs k = 0 := by
        unfold gR
        rw [ho]; rfl
      obtain ⟨b, -, -, g9⟩ := (hF _ p1).2 ho
      rw [hz]
      exact ⟨g9 k p2 p3, by omega, fun h => absurd rfl h, fun h => by omega, fun h => by omega⟩
    | true =>
      have hR := gR_ok ho
      obtain ⟨ρ, γ, c, V, g1, g2, g3, g4, g5⟩ := (hF _ p1).1 ho
      obtain ⟨o1, o2, o3⟩ := okP_t ho
      have hX : Xp cl nm N cs (pt cl N k) = (13, [], ρ, γ, c, V) := Option.some.inj (o2.symm.trans g1)
      obtain ⟨y1, y2, y3, y4, y5⟩ := g4 k p2 p3
      have hRρ : gR cl nm N cs k = ρ k := by rw [hR, hX]
      have hGγ : gG cl nm N cs k = γ k := by unfold gG; rw [hX]
      have hScσ : gSc cl nm N cs k = V.2.2.2.2.2.2.1 k := by unfold gSc; rw [hX]
      have hSiα : gSi cl nm N cs k = if ρ k = 2 then bd cl N (pt cl N k) else V.2.2.2.2.2.2.2.1 k := by unfold gSi; rw [hRρ, hX]
      have hUnω : gUn cl nm N cs k = if ρ k = 2 then bd cl N (pt cl N k + 1) else V.2.2.2.2.2.2.2.2 (V.2.2.2.2.2.2.1 k) := by unfold gUn; rw [hRρ, hScσ, hX]
      refine ⟨by rw [hRρ]; exact y1, w1, fun h => (w2 h).2.1, fun h => by rw [hGγ]; exact y2 (by rw [← hRρ]; exact h), fun h => ?_⟩
      have h' : ρ k = 2 ∨ ρ k = 3 := by rw [← hRρ]; exact h
      have hbnd : gSc cl nm N cs k < 240 ∧ gSi cl nm N cs k ≤ 240 ∧ gUn cl nm N cs k ≤ 240 := by
        rcases h with h | h
        · have := w4 h
          omega
        · have := w5 h
          omega
      refine ⟨by rw [hScσ]; exact y3 h', hbnd.1, ?_, hbnd.2.1, ?_, hbnd.2.2⟩
      · rw [hSiα, y4]
        split <;> rfl
      · rw [hUnω, y5]
        by_cases h2 : ρ k = 2
        · rw [if_pos h2, if_pos h2]
        · rw [if_neg h2, if_neg h2, if_pos (by omega)]
  · obtain ⟨ρ, γ, c, V, g1, g2, g3, g4, g5⟩ := (hF i hi).1 ho
    obtain ⟨o1, o2, o3⟩ := okP_t ho
    have hX : Xp cl nm N cs i = (13, [], ρ, γ, c, V) := Option.some.inj (o2.symm.trans g1)
    unfold gN
    rw [hX]; exact g3
theorem gmono {cl nm : Nat → Nat} {N : Nat} (cs : Nat → Cds) (hK : TK cl nm N) : ∀ w k q1 q2, k < N → q1 < q2 → q2 < N → ftB (gR cl nm N cs) nm (gSc cl nm N cs) (gSi cl nm N cs) (gUn cl nm N cs) w k q1 = true → ftB (gR cl nm N cs) nm (gSc cl nm N cs) (gSi cl nm N cs) (gUn cl nm N cs) w k q2 = true → gSi cl nm N cs q1 ≤ gSi cl nm N cs q2 := by
  intro w k q1 q2 hk hlt hq2 h1 h2
  have hA := gAW cs hK
  have hin : ∀ q, q < N → ftB (gR cl nm N cs) nm (gSc cl nm N cs) (gSi cl nm N cs) (gUn cl nm N cs) w k q = true → (gR cl nm N cs q = 2 ∨ gR cl nm N cs q = 3) ∧ pt cl N q = pt cl N k := by
    intro q hq h
    unfold ftB at h
    rw [Bool.and_eq_true, Bool.and_eq_true] at h
    have h1 := of_decide_eq_true h.1.1
    obtain ⟨g1, g2, g3⟩ := of_decide_eq_true h.2
    obtain ⟨-, -, -, a4, a5, -⟩ := hA.1 q hq
    obtain ⟨y1, y2, y3⟩ := pt_ok hK hq
    refine ⟨h1, (pt_eq hK hk ?_ ?_).symm⟩
    · rcases h1 with h1 | h1
      · have := a4 h1
        omega
      · have := a5 h1
        omega
    · rcases h1 with h1 | h1
      · have := a4 h1
        omega
      · have := a5 h1
        omega
  obtain ⟨r1, e1⟩ := hin q1 (by omega) h1
  obtain ⟨r2, e2⟩ := hin q2 hq2 h2
  obtain ⟨-, -, -, a4, a5, a6⟩ := hA.1 q1 (by omega)
  obtain ⟨-, -, -, c4, c5, c6⟩ := hA.1 q2 hq2
  have e : pt cl N q1 = pt cl N q2 := e1.trans e2.symm
  obtain ⟨y1, y2, y3⟩ := pt_ok hK hq2
  rcases r1 with r1 | r1
  · have z1 := a4 r1
    rw [e] at z1
    rcases r2 with r2 | r2
    · have z2 := c4 r2
      omega
    · have z2 := c5 r2
      omega
  · rcases r2 with r2 | r2
    · have := (a6 (by omega)).2 q2 hq2 e.symm r2
      omega
    · have z2 := c5 r2
      have := hA.2.2 q1 q2 hq2 hlt e r1 r2
      omega
