/-! what the walk keeps of a let's expression -/
def AL (cl : Nat → Nat) (j st : Nat) (ρ : Nat → Nat) (en ln : Nat) (α : Nat → Nat) : Prop :=
  (∀ q, ρ q = 3 → α q ≠ 0 → q + 4 ≤ α q ∧ cl (α q - 1) = 59) ∧
  (∀ q1 q2, q1 < q2 → ρ q1 = 3 → ρ q2 = 4 → α q1 = 0 ∧ (q1 + 1 = ln ∧ 8 ≤ st ∧ st ≤ 12) ∧ False ∨ α q1 ≠ 0 ∧ α q1 ≤ q2) ∧
  (8 ≤ st → st ≤ 12 → (en = 59 ∨ en = 123) ∧ (ln ≠ 0 → (st = 8 → j = ln) ∧ (st = 9 ∨ st = 10 → ln + 1 ≤ j) ∧ (st = 11 ∨ st = 12 → ln + 2 ≤ j) ∧ ∀ q, ρ q = 4 → q + 1 < ln))
abbrev ALx (cl : Nat → Nat) (j : Nat) (x : XS) : Prop := AL cl j x.1 x.2.2.1 x.2.2.2.2.2.2.1 x.2.2.2.2.2.2.2.1 x.2.2.2.2.2.2.2.2.2.2.2.2.1
theorem AL.keep {cl : Nat → Nat} {j st st' : Nat} {ρ ρ' : Nat → Nat} {en en' ln ln' : Nat} {α : Nat → Nat} (h : AL cl j st ρ en ln α) (h3 : ∀ q, ρ' q = 3 → ρ q = 3) (h4 : ∀ q, ρ' q = 4 → ρ q = 4) (hc : 8 ≤ st' → st' ≤ 12 → (en' = 59 ∨ en' = 123) ∧ (ln' ≠ 0 → (8 ≤ st ∧ st ≤ 12 ∧ ln' = ln) ∧ st' ≠ 8 ∧ (st' = 9 ∨ st' = 10 → ln + 1 ≤ j + 1) ∧ (st' = 11 ∨ st' = 12 → ln + 2 ≤ j + 1))) : AL cl (j + 1) st' ρ' en' ln' α := by
  obtain ⟨a, b, c⟩ := h
  refine ⟨fun q hq => a q (h3 q hq), fun q1 q2 x y z => ?_, fun x y => ⟨(hc x y).1, fun hl => ?_⟩⟩
  · rcases b q1 q2 x (h3 q1 y) (h4 q2 z) with w | w
    · exact absurd w.2.2 id
    · exact Or.inr w
  · obtain ⟨⟨w1, w2, w3⟩, w4, w5, w6⟩ := (hc x y).2 hl
    have := ((c w1 w2).2 (by omega)).2.2.2
    rw [w3]
    exact ⟨fun e => absurd e w4, w5, w6, fun q hq => this q (h4 q hq)⟩
theorem up_35 {ρ : Nat → Nat} {k t v q : Nat} (ht : 5 ≤ t) (hv : v ≤ 4) (h : upN ρ k t q = v) : ρ q = v := by
  by_cases hk : q = k
  · rw [hk, uN_eq] at h; omega
  · rw [uN_ne hk] at h; exact h
theorem stp_al {cl nm : Nat → Nat} {f j : Nat} {x x' : XS} (hw : Wf x) (hfj : f < j) (hel : 8 ≤ x.1 → x.1 ≤ 12 → x.2.2.2.2.2.2.1 = 123 → x.2.2.2.2.2.2.2.1 = 0) (hi : AIx cl f j x) (hl : ALx cl j x) (h : stp cl nm f j x = some x') : ALx cl (j + 1) x' := by
  obtain ⟨st, fr, ρ, γ, c, V⟩ := x
  obtain ⟨w1, w2, w3, w4, w5⟩ := hw
  dsimp only at w1 w2 w3 w4 w5 hel
  have hi : AI cl f j st ρ V.1 V.2.2.1 V.2.2.2.2.2.1 V.2.2.2.2.2.2.1 V.2.2.2.2.2.2.2.1 V.2.2.2.2.2.2.2.2 := hi
  have hAl : AL cl j st ρ V.2.1 V.2.2.1 V.2.2.2.2.2.2.2.1 := hl
  obtain ⟨a, b, cc, p, e, g, i, k, l, m, n, o⟩ := id hi
  obtain ⟨A, B, C⟩ := id hAl
  have hz : ρ j = 0 := by
    by_cases hz : ρ j = 0
    · exact hz
    · have := (a j hz).2.2
      omega
  have same : ∀ {st' en' ln' : Nat}, (8 ≤ st' → st' ≤ 12 → (en' = 59 ∨ en' = 123) ∧ (ln' ≠ 0 → (8 ≤ st ∧ st ≤ 12 ∧ ln' = V.2.2.1) ∧ st' ≠ 8 ∧ (st' = 9 ∨ st' = 10 → V.2.2.1 + 1 ≤ j + 1) ∧ (st' = 11 ∨ st' = 12 → V.2.2.1 + 2 ≤ j + 1))) → AL cl (j + 1) st' ρ en' ln' V.2.2.2.2.2.2.2.1 := fun hc => hAl.keep (fun _ h => h) (fun _ h => h) hc
  unfold stp at h
  dsimp only at h
  split at h
  · rename_i h5
    have no : ∀ q, ρ q = 3 → False := fun q hq => by
      have := (e q (by omega)).2.2
      omega
    have no12 : ∀ {t q : Nat}, t ≤ 2 → upN ρ j t q = 3 → False := fun {t q} ht hq => by
      by_cases hk : q = j
      · rw [hk, uN_eq] at hq; omega
      · rw [uN_ne hk] at hq; exact no q hq
    have fin : ∀ {st' en' ln' : Nat} {ρ' α' : Nat → Nat}, st' ≤ 6 → (∀ q, ρ' q = 3 → False) → AL cl (j + 1) st' ρ' en' ln' α' := fun {st' en' ln' ρ' α'} h6 h3 => ⟨fun q hq => absurd hq (h3 q), fun q1 q2 _ hq => absurd hq (h3 q1), fun h => by omega⟩
    unfold xHd at h
    repeat' split at h
    all_goals first | (have h := Option.some.inj h; subst h; exact fin (by show _ ≤ 6; omega) no) | (have h := Option.some.inj h; subst h; exact fin (by show _ ≤ 6; omega) (fun q hq => no12 (by omega) hq)) | exact absurd h (by simp)
  split at h
  · rename_i h6
    have g6 : ∀ q, ρ q = 3 → q < V.2.2.2.2.2.2.2.1 q ∧ V.2.2.2.2.2.2.2.1 q ≤ j := fun q hq => by
      rcases g q hq with z | z
      · exact z
      · omega
    unfold xSt at h
    split at h
    · split at h
      · have h := Option.some.inj h; subst h
        exact same (fun h => absurd (show 8 ≤ 6 from h) (by omega))
      · exact absurd h (by simp)
    split at h
    · split at h
      · exact absurd h (by simp)
      · rename_i oo te ag B' hB
        have h := Option.some.inj h
        subst h
        refine same (st' := if B' = [] then 13 else 6) (fun h1 h2 => ?_)
        exfalso
        split at h1 <;> split at h2 <;> omega
    split at h
    · rename_i ht
      have h := Option.some.inj h; subst h
      refine ⟨fun q hq => ?_, fun q1 q2 hlt h1 h2 => ?_, fun _ _ => ⟨Or.inl rfl, fun h => absurd rfl h⟩⟩
      · have hq' : upN ρ j 4 q = 3 := hq
        have hk : q ≠ j := fun hk => by rw [hk, uN_eq] at hq'; omega
        rw [uN_ne hk] at hq'
        exact A q hq'
      · have h1' : upN ρ j 4 q1 = 3 := h1
        have h2' : upN ρ j 4 q2 = 4 := h2
        have hk1 : q1 ≠ j := fun hk => by rw [hk, uN_eq] at h1'; omega
        rw [uN_ne hk1] at h1'
        by_cases hk : q2 = j
        · have := g6 q1 h1'
          refine Or.inr ⟨fun h => ?_, ?_⟩
          · have h : V.2.2.2.2.2.2.2.1 q1 = 0 := h
            omega
          · show V.2.2.2.2.2.2.2.1 q1 ≤ q2
            omega
        · rw [uN_ne hk] at h2'
          rcases B q1 q2 hlt h1' h2' with w | w
          · exact absurd w.2.2 id
          · exact Or.inr w
    split at h
    · have h := Option.some.inj h; subst h
      exact same (fun h => absurd (show 8 ≤ 7 from h) (by omega))
    repeat' split at h
    all_goals first | (have h := Option.some.inj h; subst h; exact same (fun _ _ => ⟨Or.inl rfl, fun h => absurd rfl h⟩)) | (have h := Option.some.inj h; subst h; exact same (fun _ _ => ⟨Or.inr rfl, fun h => absurd rfl h⟩)) | exact absurd h (by simp)
  split at h
  · rename_i h6 h7
    unfold xLet at h
    split at h
    · rename_i ht
      have h := Option.some.inj h; subst h
      have hα : V.2.2.2.2.2.2.2.1 j = 0 := by
        by_cases hα : V.2.2.2.2.2.2.2.1 j = 0
        · exact hα
        · have := i j hα
          omega
      refine ⟨fun q hq hne => ?_, fun q1 q2 hlt h1 h2 => ?_, fun _ _ => ⟨Or.inl rfl, fun _ => ⟨fun _ => rfl, fun h => absurd (show 8 = 9 ∨ 8 = 10 from h) (by omega), fun h => absurd (show 8 = 11 ∨ 8 = 12 from h) (by omega), fun q hq => ?_⟩⟩⟩
      · have hq' : upN ρ j 3 q = 3 := hq
        have hne' : V.2.2.2.2.2.2.2.1 q ≠ 0 := hne
        have hk : q ≠ j := fun hk => by rw [hk] at hne'; exact hne' hα
        rw [uN_ne hk] at hq'
        exact A q hq' hne'
      · have h1' : upN ρ j 3 q1 = 3 := h1
        have h2' : upN ρ j 3 q2 = 4 := h2
        have hk2 : q2 ≠ j := fun hk => by rw [hk, uN_eq] at h2'; omega
        rw [uN_ne hk2] at h2'
        have hq2 := (a q2 (by omega)).2.2
        rw [uN_ne (by omega)] at h1'
        rcases B q1 q2 hlt h1' h2' with w | w
        · exact absurd w.2.2 id
        · exact Or.inr w
      · have hq' : upN ρ j 3 q = 4 := hq
        have hk : q ≠ j := fun hk => by rw [hk, uN_eq] at hq'; omega
        rw [uN_ne hk] at hq'
        have := (a q (by omega)).2.2
        show q + 1 < j + 1
        omega
    · exact absurd h (by simp)
  split at h
  · rename_i h6 h7 h8
    split at h
    · have h := Option.some.inj h; subst h
      have C8 := C (by omega) (by omega)
      refine same (fun _ _ => ⟨C8.1, fun hln => ⟨⟨by omega, by omega, rfl⟩, by show (9 : Nat) ≠ 8; omega, fun _ => ?_, fun h => absurd (show 9 = 11 ∨ 9 = 12 from h) (by omega)⟩⟩)
      have := (C8.2 hln).1 h8
      omega
    · exact absurd h (by simp)
  rename_i h6 h7 h8
  split at h
  · exact absurd h (by simp)
  rename_i ca le cn oo F hfr
  split at h
  · rename_i h9
    have C8 := C (by omega) (by omega)
    have hj : V.2.2.1 ≠ 0 → V.2.2.1 + 1 ≤ j := fun hln => (C8.2 hln).2.1 h9
    unfold xOpd at h
    repeat' split at h
    all_goals first
      | (have h := Option.some.inj h; subst h; exact same (fun _ _ => ⟨C8.1, fun hln => ⟨⟨by omega, by omega, rfl⟩, by dsimp only; omega, fun _ => by have := hj hln; omega, fun _ => by have := hj hln; omega⟩⟩))
      | (have h := Option.some.inj h; subst h; exact hAl.keep (fun q hq => up_35 (by omega) (by omega) hq) (fun q hq => up_35 (by omega) (by omega) hq) (fun _ _ => ⟨C8.1, fun hln => ⟨⟨by omega, by omega, rfl⟩, by dsimp only; omega, fun _ => by have := hj hln; omega, fun _ => by have := hj hln; omega⟩⟩))
      | exact absurd h (by simp)
  rename_i h9
  split at h
  · rename_i h12
    have C8 := C (by omega) (by omega)
    have hj : V.2.2.1 ≠ 0 → V.2.2.1 + 2 ≤ j := fun hln => (C8.2 hln).2.2.1 (by omega)
    split at h
    · have h := Option.some.inj h; subst h
      exact hAl.keep (fun q hq => up_35 (t := 6) (by omega) (by omega) hq) (fun q hq => up_35 (t := 6) (by omega) (by omega) hq) (fun _ _ => ⟨C8.1, fun hln => ⟨⟨by omega, by omega, rfl⟩, by dsimp only; omega, fun _ => by have := hj hln; omega, fun h => absurd (show 10 = 11 ∨ 10 = 12 from h) (by omega)⟩⟩)
    · exact absurd h (by simp)
  split at h
  · rename_i h12 h11
    have C8 := C (by omega) (by omega)
    have hj : V.2.2.1 ≠ 0 → V.2.2.1 + 2 ≤ j := fun hln => (C8.2 hln).2.2.1 h11
    have go : ∀ {st' : Nat}, st' ≠ 8 → AL cl (j + 1) st' ρ V.2.1 V.2.2.1 V.2.2.2.2.2.2.2.1 := fun h8 => same (fun _ _ => ⟨C8.1, fun hln => ⟨⟨by omega, by omega, rfl⟩, h8, fun _ => by have := hj hln; omega, fun _ => by have := hj hln; omega⟩⟩)
    unfold xOpr at h
    split at h
    · have h := Option.some.inj h; subst h; exact go (by dsimp only; omega)
    split at h
    · split at h
      · have h := Option.some.inj h; subst h; exact go (by dsimp only; omega)
      · exact absurd h (by simp)
    split at h
    · unfold xEnd at h
      split at h
      · rename_i hen
        split at h
        · split at h
          · have h := Option.some.inj h; subst h
            exact same (fun h => absurd (show 8 ≤ 6 from h) (by omega))
          · exact absurd h (by simp)
        · rename_i h123
          have h := Option.some.inj h; subst h
          have h59 : cl j = 59 := by
            rcases C8.1 with z | z
            · omega
            · omega
          by_cases hln : V.2.2.1 = 0
          · have hα : (if V.2.2.1 = 0 then V.2.2.2.2.2.2.2.1 else upN V.2.2.2.2.2.2.2.1 (V.2.2.1 - 1) (j + 1)) = V.2.2.2.2.2.2.2.1 := if_pos hln
            show AL cl (j + 1) 6 ρ V.2.1 0 (if V.2.2.1 = 0 then V.2.2.2.2.2.2.2.1 else upN V.2.2.2.2.2.2.2.1 (V.2.2.1 - 1) (j + 1))
            rw [hα]
            exact same (fun h => absurd (show 8 ≤ 6 from h) (by omega))
          · have hα : (if V.2.2.1 = 0 then V.2.2.2.2.2.2.2.1 else upN V.2.2.2.2.2.2.2.1 (V.2.2.1 - 1) (j + 1)) = upN V.2.2.2.2.2.2.2.1 (V.2.2.1 - 1) (j + 1) := if_neg hln
            show AL cl (j + 1) 6 ρ V.2.1 0 (if V.2.2.1 = 0 then V.2.2.2.2.2.2.2.1 else upN V.2.2.2.2.2.2.2.1 (V.2.2.1 - 1) (j + 1))
            rw [hα]
            have hj' := hj hln
            have h4 := (C8.2 hln).2.2.2
            refine ⟨fun q hq hne => ?_, fun q1 q2 hlt h1 h2 => ?_, fun h => absurd (show 8 ≤ 6 from h) (by omega)⟩
            · by_cases hk : q = V.2.2.1 - 1
              · rw [hk, uN_eq, Nat.add_sub_cancel]
                exact ⟨by omega, h59⟩
              · rw [uN_ne hk] at hne ⊢
                exact A q hq hne
            · have h5 := h4 q2 h2
              rw [uN_ne (by omega)]
              rcases B q1 q2 hlt h1 h2 with w | w
              · exact absurd w.2.2 id
              · exact Or.inr w
      · exact absurd h (by simp)
    repeat' split at h
    all_goals first | (have h := Option.some.inj h; subst h; exact go (by dsimp only; omega)) | exact absurd h (by simp)
  · exact absurd h (by simp)
theorem aut_al {cl nm : Nat → Nat} {f : Nat} {c0 : Cds} : ∀ (i : Nat) (x : XS), aut0 cl nm f c0 i = some x → ALx cl (f + 1 + i) x := by
  intro i
  induction i with
  | zero =>
    intro x h
    have h := Option.some.inj h
    subst h
    exact ⟨fun q hq => absurd (show 0 = 3 from hq) (by omega), fun q1 q2 _ hq => absurd (show 0 = 3 from hq) (by omega), fun h => absurd (show 8 ≤ 0 from h) (by omega)⟩
  | succ i ih =>
    intro x h
    have h : (aut0 cl nm f c0 i).bind (stp cl nm f (f + 1 + i)) = some x := h
    cases h3 : aut0 cl nm f c0 i with
    | none => rw [h3] at h; exact absurd h (by simp)
    | some y =>
      rw [h3] at h
      obtain ⟨g1, g2⟩ := aut_ai _ _ h3
      exact stp_al (j := f + 1 + i) (aut_wf _ _ h3) (show f < f + 1 + i by omega) g2 g1 (ih y h3) h
/-- A let's place, its expression and its semicolon. -/
theorem let_ok {cl nm : Nat → Nat} {N : Nat} (cs : Nat → Cds) (hK : TK cl nm N) {D : Nat} (hD : D < N) (h : gR cl nm N cs D = 3) : D + 4 ≤ gSi cl nm N cs D ∧ gSi cl nm N cs D ≤ N ∧ 0 < D ∧ cl (gSi cl nm N cs D - 1) = 59 ∧ gUn cl nm N cs D ≤ N ∧ ∀ q, q < N → D < q → q < gSi cl nm N cs D → gR cl nm N cs q = 0 ∨ gR cl nm N cs q = 5 ∨ gR cl nm N cs q = 6 := by
  obtain ⟨p1, p2, p3⟩ := pt_ok hK hD
  have hA := gAW cs hK
  obtain ⟨a1, a2, a3, a4, a5, a6⟩ := hA.1 D hD
  obtain ⟨o1, o2, o3⟩ := a2 (by omega)
  obtain ⟨z1, z2, z3, z4, z5⟩ := a5 h
  have hb := (bd_ok hK).2.2.2.2.1 (pt cl N D + 1)
  obtain ⟨ok1, ok2, ok3⟩ := okP_t o1
  have hlt := (bd_ok hK).2.2.1 _ p1
  have hal := aut_al _ _ (show aut0 cl nm (bd cl N (pt cl N D)) (cs (pt cl N D)) (bd cl N (pt cl N D + 1) - (bd cl N (pt cl N D) + 1)) = some (Xp cl nm N cs (pt cl N D)) from ok2)
  obtain ⟨A, B, -⟩ := hal
  have hR := gR_ok o1
  have hsi : gSi cl nm N cs D = (Xp cl nm N cs (pt cl N D)).2.2.2.2.2.2.2.2.2.2.2.2.1 D := by
    unfold gSi
    rw [if_neg (by omega)]
  have hA3 := A D (by rw [← hR]; exact h) (by rw [← hsi]; omega)
  rw [← hsi] at hA3
  refine ⟨hA3.1, by omega, by omega, hA3.2, by omega, fun q hq h1 h2 => ?_⟩
  have hpq : pt cl N q = pt cl N D := pt_eq hK hq (by omega) (by omega)
  obtain ⟨b1, b2, b3, b4, b5, b6⟩ := hA.1 q hq
  rw [hpq] at b2 b3 b4 b5 b6
  have n1 : gR cl nm N cs q ≠ 1 := fun hh => by have := b3 hh; omega
  have n2 : gR cl nm N cs q ≠ 2 := fun hh => by
    have := (a6 (by omega)).2 q hq hpq hh
    omega
  have n3 : gR cl nm N cs q ≠ 3 := fun hh => by
    have := hA.2.2 D q hq h1 hpq.symm h hh
    omega
  have n4 : gR cl nm N cs q ≠ 4 := fun hh => by
    have hRq : gR cl nm N cs q = (Xp cl nm N cs (pt cl N D)).2.2.1 q := by
      rw [gR_ok (by rw [hpq]; exact o1), hpq]
    rcases B D q h1 (by rw [← hR]; exact h) (by rw [← hRq]; exact hh) with w | w
    · exact absurd w.2.2 id
    · rw [← hsi] at w
      omega
  omega
