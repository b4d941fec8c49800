/-! the steps keep what the code keeps -/
section
variable {cl nm : Nat → Nat} {W : Nat → Nat → Prop} {R Γ : Nat → Nat} {f b j : Nat}
theorem hgt_nil {st : Nat} {ρ γ : Nat → Nat} {c : Cds} {V : VS} (h : st ≠ 11) (h2 : st ≠ 12) : hgt cl j (st, [], ρ, γ, c, V) = 0 := by
  unfold hgt
  dsimp only
  rw [if_neg (by rintro (e | e); exact h e; exact h2 e.1)]
  rfl
theorem hgt_9 {st : Nat} {fr : List Fm} {ρ γ : Nat → Nat} {c : Cds} {V : VS} (h : st = 9 ∨ st = 10) : hgt cl j (st, fr, ρ, γ, c, V) = hS fr := by
  unfold hgt
  dsimp only
  rw [if_neg (by rintro (e | e); omega; have := e.1; omega)]
  rfl
theorem hgt_11 {fr : List Fm} {ρ γ : Nat → Nat} {c : Cds} {V : VS} : hgt cl j (11, fr, ρ, γ, c, V) = hS fr + 1 := by
  unfold hgt
  dsimp only
  rw [if_pos (Or.inl rfl)]
theorem hgt_12 {fr : List Fm} {ρ γ : Nat → Nat} {c : Cds} {V : VS} (h : ¬ (cl j = 40 ∧ fr.length ≤ 4)) : hgt cl j (12, fr, ρ, γ, c, V) = hS fr + 1 := by
  unfold hgt
  dsimp only
  rw [if_pos (Or.inr ⟨rfl, h⟩)]
theorem hgt_12p {fr : List Fm} {ρ γ : Nat → Nat} {c : Cds} {V : VS} (h : cl j = 40 ∧ fr.length ≤ 4) : hgt cl j (12, fr, ρ, γ, c, V) = hS fr := by
  unfold hgt
  dsimp only
  rw [if_neg (by rintro (e | e); exact absurd e (by decide); exact e.2 h)]
  rfl
theorem hgt_o {st : Nat} {fr : List Fm} {ρ γ : Nat → Nat} {c : Cds} {V : VS} (h : st = 11 ∨ st = 12) (h40 : cl j ≠ 40) : hgt cl j (st, fr, ρ, γ, c, V) = hS fr + 1 := by
  rcases h with h | h
  · rw [h]; exact hgt_11
  · rw [h]; exact hgt_12 (fun e => h40 e.1)
theorem Cv.wk {A : Nat → Ant} {c : Cds} {bl bl' : List (Nat × Nat × Nat)} (h : Cv W R Γ b A c bl) (hb : ∀ i, (∀ y, y ∈ bl' → y.2.1 ≠ i + 1) → ∀ y, y ∈ bl → y.2.1 ≠ i + 1) : Cv W R Γ b A c bl' := ⟨h.1, h.2.1, fun i h1 h2 h3 => h.2.2 i h1 h2 (hb i h3)⟩
theorem env_up {R σ α : Nat → Nat} {B : List (Nat × Nat × Nat)} {k v : Nat} (h : α k = 0) (q : Nat) : env R (upN σ k v) α B q ↔ env R σ α B q := by
  unfold env
  by_cases hk : q = k
  · rw [hk]
    constructor
    · rintro (e | e)
      · exact Or.inl e
      · exact absurd h e.1
    · rintro (e | e)
      · exact Or.inl e
      · exact absurd h e.1
  · rw [uN_ne hk]
theorem GI.hd {A : Nat → Ant} {st st' : Nat} {fr : List Fm} {ρ ρ' γ γ' : Nat → Nat} {c : Cds} {V : VS} (h : GI cl W R Γ f b j A (st, fr, ρ, γ, c, V)) (h1 : st ≤ 5) (h2 : st' ≤ 5) (hfr : fr = []) : GI cl W R Γ f b (j + 1) A (st', [], ρ', γ', c, V) := by
  subst hfr
  refine ⟨h.cv, ?_, h.bk, h.len, trivial, fun h => absurd h (by show ¬ 8 ≤ st'; omega), fun _ => h.b5 h1, fun h => absurd h (by show ¬ 6 ≤ st'; omega), fun h => absurd h (by show ¬ 9 ≤ st'; omega)⟩
  have := h.cur
  rw [hgt_nil (by omega) (by omega)] at this
  rw [hgt_nil (by omega) (by omega)]
  exact this
theorem opn_e {α σ ρ : Nat → Nat} {bl B0 : List (Nat × Nat × Nat)} {ln np te ag : Nat} {ω : Nat → Nat} {st : Nat} (hAI : AI cl f j st ρ B0 ln np σ α ω) : ∀ q, env R σ α ((j, te, ag) :: bl) q → env R σ α bl q := by
  obtain ⟨a, -, -, -, -, -, i, -, l, -, -, -⟩ := hAI
  intro q hq
  rcases hq with e | ⟨e, y, hy, e2⟩
  · exact Or.inl e
  · rcases List.mem_cons.mp hy with e3 | e3
    · rw [e3] at e2
      have e2' : j = σ q := e2
      have h1 := i q e
      have h2 := (l q h1).2.1
      have h3 := (a q (by omega)).2.2
      omega
    · exact Or.inr ⟨e, y, e3, e2⟩
theorem FH.cn {y : Fm} {F : List Fm} {ca le cn cn' : Nat} {o : List Nat} (h : FH R j (ca, le, cn, o) F) (hc : ca = 0 → cn' = 0) : FH R j (ca, le, cn', o) F := ⟨h.1, hc, h.2.2⟩
theorem stp_gi {A : Nat → Ant} {x x' : XS} (hs : St cl nm f j x x') (hfj : f < j) (hj : j < 240) (hwf : Wf x) (hAI : AIx cl f j x) (hb5 : x.1 ≤ 5 → xb x = []) (hbf : b ≤ f) (hRo : ∀ q, q < j + 1 → (pend cl (j + 1) x' → q + 1 ≠ j + 1) → R q = xr x' q) (hGa : ∀ t, t + 1 < j + 1 → t + 1 ∉ x'.2.1.map (fun y => y.1) → Γ t = xg x' t) (hW : ∀ q, W q j → env R (xsc x) (xal x) (xb x) q) (h : GI cl W R Γ f b j A x) : ∃ A', GI cl W R Γ f b (j + 1) A' x' ∧ Le A' A (xc x).length := by
  obtain ⟨w1, w2, w3, w4, w5⟩ := hwf
  refine hs _ ?_ ?_ ?_ ?_ ?_ ?_ ?_ ?_ ?_ ?_ ?_ ?_ ?_ ?_ ?_ ?_ ?_ ?_ ?_ ?_ ?_ ?_ ?_ ?_ ?_
  · intro _ _ _ _ _ eX eY _
    cases eX
    cases eY
    exact ⟨A, h.hd (by omega) (by omega) (w2 (Or.inl (by show 0 ≤ 8; omega))), Le.of (fun _ _ => rfl)⟩
  · intro _ _ _ _ _ eX eY _
    cases eX
    cases eY
    exact ⟨A, h.hd (by omega) (by omega) (w2 (Or.inl (by show 1 ≤ 8; omega))), Le.of (fun _ _ => rfl)⟩
  · intro fr ρ γ c bl en ln ag fin np σ α ω eX eY _
    cases eX
    cases eY
    have hfr : fr = [] := w2 (Or.inl (by show 5 ≤ 8; omega))
    have hbl : bl = [] := hb5 (by show 5 ≤ 5; omega)
    subst hfr hbl
    have hAI' : AI cl f j 5 ρ [] ln np σ α ω := hAI
    have hc := h.cur
    have hb := h.b5 (by show 5 ≤ 5; omega)
    have hp := hAI'.2.2.2.1.2.2.2.2.2.2 (by omega)
    obtain ⟨A', g1, g2, g3⟩ := h.cv.shr (env R σ α [(j, 0, 0)]) (fun q hq => by rw [hc]; exact opn_e hAI' q hq)
    refine ⟨A', ⟨g1.wk (fun i _ y hy => absurd hy List.not_mem_nil), ?_, ⟨trivial, fun y hy => absurd hy List.not_mem_nil, fun h => absurd rfl h, fun h => absurd rfl h⟩, by show 1 ≤ 4; omega, trivial, fun h => absurd h (by show ¬ 8 ≤ 6; omega), fun h => absurd h (by show ¬ 6 ≤ 5; omega), fun _ => ?_, fun h => absurd h (by show ¬ 9 ≤ 6; omega)⟩, g2⟩
    · refine g3.trans ?_
      rw [hc, hgt_nil (by omega) (by omega), hgt_nil (by omega) (by omega)]
      rfl
    · have hb' : c.length = b := hb
      show c.length + 0 + 0 + 5 ≤ j + 1
      omega
  · intro _ _ _ _ _ _ eX eY h1 _
    cases eX
    cases eY
    exact ⟨A, h.hd (by omega) (by omega) (w2 (Or.inl (by dsimp only; omega))), Le.of (fun _ _ => rfl)⟩
  · intro _ _ _ _ _ eX eY _
    cases eX
    cases eY
    exact ⟨A, h.hd (by omega) (by omega) (w2 (Or.inl (by show 3 ≤ 8; omega))), Le.of (fun _ _ => rfl)⟩
  · intro st fr ρ γ c bl en ln ag fin np σ α ω eX eY h1 _
    cases eX
    cases eY
    have hfr : fr = [] := w2 (Or.inl (by dsimp only; omega))
    have hbl : bl = [] := hb5 (by dsimp only; omega)
    subst hfr hbl
    have hα : α j = 0 := by
      have hAI' : AI cl f j st ρ [] ln np σ α ω := hAI
      obtain ⟨a, -, -, -, e, -, i, -, -, -, -, -⟩ := hAI'
      by_cases hz : α j = 0
      · exact hz
      · have := (a j (by rw [i j hz]; omega)).2.2
        omega
    have hc := h.cur
    obtain ⟨A', g1, g2, g3⟩ := h.cv.shr (env R (upN σ j f) α []) (fun q hq => by rw [hc]; exact (env_up hα q).mp hq)
    refine ⟨A', ⟨g1, ?_, trivial, h.len, trivial, fun h => absurd h (by show ¬ 8 ≤ 3; omega), fun _ => h.b5 (by dsimp only; omega), fun h => absurd h (by show ¬ 6 ≤ 3; omega), fun h => absurd h (by show ¬ 9 ≤ 3; omega)⟩, g2⟩
    refine g3.trans ?_
    rw [hc, hgt_nil (by omega) (by omega), hgt_nil (by omega) (by omega)]
  · intro fr ρ γ c bl en ln ag fin np σ α ω eX eY _ hb4
    cases eX
    cases eY
    have hfr : fr = [] := w2 (Or.inl (by show 6 ≤ 8; omega))
    subst hfr
    have hAI' : AI cl f j 6 ρ bl ln np σ α ω := hAI
    have hc := h.cur
    have hbu : c.length + 0 + 0 + 5 ≤ j := h.bu (by show 6 ≤ 6; omega)
    obtain ⟨A', g1, g2, g3⟩ := h.cv.shr (env R σ α ((j, 0, 0) :: bl)) (fun q hq => by rw [hc]; exact opn_e hAI' q hq)
    refine ⟨A', ⟨g1.wk (fun i hy y h => hy y (List.mem_cons_of_mem _ h)), ?_, ⟨h.bk.cg0 g2 (Nat.le_refl _), fun y hy => (hAI'.2.2.2.2.2.2.2.2.2.1 y hy).2, fun h => absurd rfl h, fun h => absurd rfl h⟩, by show bl.length + 1 ≤ 4; omega, trivial, fun h => absurd h (by show ¬ 8 ≤ 6; omega), fun h => absurd h (by show ¬ 6 ≤ 5; omega), fun _ => ?_, fun h => absurd h (by show ¬ 9 ≤ 6; omega)⟩, g2⟩
    · refine g3.trans ?_
      rw [hc, hgt_nil (by omega) (by omega), hgt_nil (by omega) (by omega)]
      show _ = (0, 0 + lp bl, _)
      rw [Nat.zero_add]
    · show c.length + 0 + 0 + 5 ≤ j + 1
      omega
  · intro fr ρ γ c o te ag0 bl en ln ag fin np σ α ω eX eY _
    cases eX
    cases eY
    have hfr : fr = [] := w2 (Or.inl (by show 6 ≤ 8; omega))
    subst hfr
    have hc : A c.length = (hgt cl j (6, [], ρ, γ, c, (o, te, ag0) :: bl, en, ln, ag, fin, np, σ, α, ω), (if ag0 = 0 then 0 else 1) + lp bl, env R σ α ((o, te, ag0) :: bl)) := h.cur
    rw [hgt_nil (by omega) (by omega)] at hc
    have hbu : c.length + 0 + 0 + 5 ≤ j := h.bu (by show 6 ≤ 6; omega)
    have hlen : bl.length + 1 ≤ 4 := h.len
    have hlp := lp_le bl
    have hcv : Cv W R Γ b A c ((o, te, ag0) :: bl) := h.cv
    obtain ⟨k1, k2, k3, k4⟩ : BK R σ α b c.length A ((o, te, ag0) :: bl) := h.bk
    have hsub : ∀ q, env R σ α bl q → env R σ α ((o, te, ag0) :: bl) q := fun q hq => by
      rcases hq with e | ⟨e, y, hy, e2⟩
      · exact Or.inl e
      · exact Or.inr ⟨e, y, List.mem_cons_of_mem _ hy, e2⟩
    have hst : ∀ n : Nat, (if bl = [] then 13 else 6) ≤ n → n < 6 → False := fun n h1 h2 => by
      split at h1 <;> omega
    obtain ⟨A1, g1, g2, g3⟩ : ∃ A1, Cv W R Γ b A1 (c ++ (if ag0 = 0 then [] else [(6, Int32.ofNat (ag0 - 1))])) ((o, te, ag0) :: bl) ∧ Le A1 A c.length ∧ A1 (c ++ (if ag0 = 0 then [] else [((6 : Int32), Int32.ofNat (ag0 - 1))])).length = (0, lp bl, env R σ α bl) := by
      by_cases ha : ag0 = 0
      · rw [if_pos ha, List.append_nil]
        obtain ⟨A1, g1, g2, g3⟩ := hcv.shr (env R σ α bl) (fun q hq => by rw [hc]; exact hsub q hq)
        refine ⟨A1, g1, g2, g3.trans ?_⟩
        rw [hc, if_pos ha, Nat.zero_add]
      · rw [if_neg ha]
        obtain ⟨z1, z2, z3, z4, z5, z6⟩ := k4 ha
        obtain ⟨A1, g1, g2, g3⟩ := hcv.app (p := (6, Int32.ofNat (ag0 - 1))) (0, lp bl, env R σ α bl) (by show 0 ≤ 118; omega) (by show lp bl ≤ 4; omega) (fun A' e1 e2 => .jmp (ag0 - 1) (by omega) (by omega) (by rw [e1 _ (by omega), e1 _ (Nat.le_refl _), z4, hc]) (by rw [e1 _ (by omega), e1 _ (Nat.le_refl _), z5, hc, if_neg ha]; show lp bl + 1 = 1 + lp bl; omega) (fun q hq => by rw [e1 _ (by omega)] at hq; rw [e1 _ (Nat.le_refl _), hc]; exact hsub q (z6 q hq)))
        exact ⟨A1, g1, Le.of g2, g3⟩
    have hle : c.length ≤ (c ++ (if ag0 = 0 then [] else [((6 : Int32), Int32.ofNat (ag0 - 1))])).length ∧ (c ++ (if ag0 = 0 then [] else [((6 : Int32), Int32.ofNat (ag0 - 1))])).length ≤ c.length + 1 := by
      rw [List.length_append]
      split
      · show c.length ≤ c.length + 0 ∧ c.length + 0 ≤ c.length + 1; omega
      · show c.length ≤ c.length + 1 ∧ c.length + 1 ≤ c.length + 1; omega
    have hcl : (clo c te ag0).length = (c ++ (if ag0 = 0 then [] else [((6 : Int32), Int32.ofNat (ag0 - 1))])).length := by
      unfold clo
      split
      · rfl
      · exact List.length_set ..
    have hcv' : Cv W R Γ b A1 (clo c te ag0) bl := by
      unfold clo
      by_cases ht : te = 0
      · rw [if_pos ht]
        refine g1.wk (fun i hy y hm => ?_)
        rcases List.mem_cons.mp hm with e | e
        · rw [e]; show te ≠ i + 1; omega
        · exact hy y e
      · rw [if_neg ht]
        obtain ⟨z1, z2, z3, z4, z5, z6⟩ := k3 ht
        have e := g2.1 (te - 1) (by omega)
        exact g1.set ht (by omega) (.tst _ (by omega) (Nat.le_refl _) (by rw [e]; exact z3) (g2.nx (by omega) z6) (by rw [g3]) (by rw [g3, e]; exact z4.symm) (fun q hq => by rw [g3] at hq; rw [e]; exact z5 q hq))
    refine ⟨A1, ⟨hcv', ?_, ?_, by show bl.length ≤ 4; omega, trivial, fun h1 h2 => ?_, fun h1 => absurd (hst 5 h1 (by omega)) id, fun _ => ?_, fun h1 h2 => ?_⟩, g2⟩
    · show A1 (clo c te ag0).length = _
      rw [hcl, g3]
      by_cases hb : bl = []
      · rw [if_pos hb, hgt_nil (by omega) (by omega)]
      · rw [if_neg hb, hgt_nil (by omega) (by omega)]
    · show BK R σ α b (clo c te ag0).length A1 bl
      rw [hcl]
      exact k1.cg0 g2 hle.1
    · have h1' : 8 ≤ (if bl = [] then 13 else 6) := h1
      have h2' : (if bl = [] then 13 else 6) ≤ 12 := h2
      split at h1' <;> split at h2' <;> omega
    · show (clo c te ag0).length + 0 + (if 9 ≤ (if bl = [] then 13 else 6) ∧ (if bl = [] then 13 else 6) ≤ 12 then 1 else 0) + 5 ≤ j + 1
      have hz : (if 9 ≤ (if bl = [] then 13 else 6) ∧ (if bl = [] then 13 else 6) ≤ 12 then 1 else 0) = 0 := by
        by_cases hb : bl = []
        · rw [if_pos hb, if_neg (by omega)]
        · rw [if_neg hb, if_neg (by omega)]
      rw [hz, hcl]
      omega
    · have h1' : 9 ≤ (if bl = [] then 13 else 6) := h1
      have h2' : (if bl = [] then 13 else 6) ≤ 12 := h2
      split at h1' <;> split at h2' <;> omega
  · intro fr ρ γ c bl en ln ag fin np σ α ω eX eY ht
    cases eX
    cases eY
    have hfr : fr = [] := w2 (Or.inl (by show 6 ≤ 8; omega))
    subst hfr
    have hbu : c.length + 0 + 0 + 5 ≤ j := h.bu (by show 6 ≤ 6; omega)
    have hR : R j = upN ρ j 4 j := hRo j (by omega) (fun hp => absurd hp.1 (by show (8 : Nat) ≠ 12; omega))
    rw [uN_eq] at hR
    have hc := h.cur
    refine ⟨A, ⟨h.cv, ?_, h.bk, h.len, trivial, fun _ _ => ⟨Or.inl ⟨rfl, Or.inl ⟨j, rfl, hj, Or.inl ⟨rfl, hR⟩⟩⟩, fun h => absurd rfl h⟩, fun h => absurd h (by show ¬ 8 ≤ 5; omega), fun _ => ?_, fun h => absurd h (by show ¬ 9 ≤ 8; omega)⟩, Le.of (fun _ _ => rfl)⟩
    · rw [hgt_nil (by omega) (by omega)] at hc ⊢
      exact hc
    · show c.length + 0 + 0 + 5 ≤ j + 1
      omega
  · intro fr ρ γ c V eX eY ht
    cases eX
    cases eY
    have hfr : fr = [] := w2 (Or.inl (by show 6 ≤ 8; omega))
    subst hfr
    have hbu : c.length + 0 + 0 + 5 ≤ j := h.bu (by show 6 ≤ 6; omega)
    have hc := h.cur
    refine ⟨A, ⟨h.cv, ?_, h.bk, h.len, trivial, fun h => absurd h (by show ¬ 8 ≤ 7; omega), fun h => absurd h (by show ¬ 7 ≤ 5; omega), fun _ => ?_, fun h => absurd h (by show ¬ 9 ≤ 7; omega)⟩, Le.of (fun _ _ => rfl)⟩
    · rw [hgt_nil (by omega) (by omega)] at hc ⊢
      exact hc
    · show c.length + 0 + 0 + 5 ≤ j + 1
      omega
  · intro fr ρ γ c bl en ln ag fin fi np σ α ω eX eY ht
    cases eX
    cases eY
    have hfr : fr = [] := w2 (Or.inl (by show 6 ≤ 8; omega))
    subst hfr
    have hbu : c.length + 0 + 0 + 5 ≤ j := h.bu (by show 6 ≤ 6; omega)
    have hp := hAI.2.2.2.1.2.2.2.2.2.2 (by show 5 ≤ 6; omega)
    have hc := h.cur
    refine ⟨A, ⟨h.cv, ?_, h.bk, h.len, ⟨⟨by show 0 < j + 1; omega, fun _ => rfl, fun t h => absurd h List.not_mem_nil, List.Pairwise.nil, fun h => absurd rfl h, fun _ => rfl⟩, fun h => absurd h (by dsimp only; omega), fun _ h => absurd rfl h, trivial⟩, fun _ _ => ⟨Or.inl ⟨rfl, Or.inr ⟨?_, rfl⟩⟩, fun h => absurd rfl h⟩, fun h => absurd h (by show ¬ 9 ≤ 5; omega), fun _ => ?_, fun _ _ => ?_⟩, Le.of (fun _ _ => rfl)⟩
    · rw [hgt_nil (by omega) (by omega)] at hc
      rw [hgt_9 (Or.inl rfl)]
      exact hc
    · rcases ht with e | e
      · exact Or.inl e.2
      · exact Or.inr e.2
    · show c.length + 0 + 1 + 5 ≤ j + 1
      omega
    · show 2 * 0 + 5 + 0 + f ≤ j + 1
      omega
  · intro fr ρ γ c bl en ln ag ag' fin np σ α ω eX eY ht
    cases eX
    cases eY
    have hfr : fr = [] := w2 (Or.inl (by show 6 ≤ 8; omega))
    subst hfr
    have hbu : c.length + 0 + 0 + 5 ≤ j := h.bu (by show 6 ≤ 6; omega)
    have hp := hAI.2.2.2.1.2.2.2.2.2.2 (by show 5 ≤ 6; omega)
    have hc : A c.length = (_, lp bl, env R σ α bl) := h.cur
    have hcb : b ≤ c.length := h.cv.1
    rw [hgt_nil (by omega) (by omega)] at hc
    refine ⟨A, ⟨h.cv, ?_, h.bk, h.len, ⟨⟨by show 0 < j + 1; omega, fun _ => rfl, fun t h => absurd h List.not_mem_nil, List.Pairwise.nil, fun h => absurd rfl h, fun _ => rfl⟩, fun h => absurd h (by dsimp only; omega), fun _ h => absurd rfl h, trivial⟩, fun _ _ => ⟨Or.inr ⟨rfl, rfl, Nat.le_refl _, fun ha => ?_⟩, fun h => absurd rfl h⟩, fun h => absurd h (by show ¬ 9 ≤ 5; omega), fun _ => ?_, fun _ _ => ?_⟩, Le.of (fun _ _ => rfl)⟩
    · rw [hgt_9 (Or.inl rfl)]
      exact hc
    · have ha' : ag' ≠ 0 := ha
      have e : ag' = c.length + 1 := by
        rcases ht with e | e
        · exact absurd e.2 ha'
        · exact e.2
      show b < ag' ∧ ag' ≤ c.length + 1 ∧ (A (ag' - 1)).1 = 0 ∧ (A (ag' - 1)).2.1 = lp bl ∧ ∀ q, (A (ag' - 1)).2.2 q → env R σ α bl q
      rw [e, Nat.add_sub_cancel, hc]
      exact ⟨by omega, Nat.le_refl _, rfl, rfl, fun _ h => h⟩
    · show c.length + 0 + 1 + 5 ≤ j + 1
      omega
    · show 2 * 0 + 5 + 0 + f ≤ j + 1
      omega
  · intro fr ρ γ c bl en ln ag fin np σ α ω eX eY ht
    cases eX
    cases eY
    have hfr : fr = [] := w2 (Or.inl (by show 7 ≤ 8; omega))
    subst hfr
    have hAI' : AI cl f j 7 ρ bl ln np σ α ω := hAI
    have hα : α j = 0 := by
      obtain ⟨a, -, -, -, e, -, i, -, -, -, -, -⟩ := hAI'
      by_cases hz : α j = 0
      · exact hz
      · have := (a j (by rw [i j hz]; omega)).2.2
        omega
    have hbu : c.length + 0 + 0 + 5 ≤ j := h.bu (by show 6 ≤ 7; omega)
    have hR : R j = upN ρ j 3 j := hRo j (by omega) (fun hp => absurd hp.1 (by show (8 : Nat) ≠ 12; omega))
    rw [uN_eq] at hR
    have hc := h.cur
    obtain ⟨A', g1, g2, g3⟩ := h.cv.shr (env R (upN σ j (bl.headD (0, 0, 0)).1) α bl) (fun q hq => by rw [hc]; exact (env_up hα q).mp hq)
    refine ⟨A', ⟨g1, ?_, BK.cg g2 (Nat.le_refl _) (fun B _ q => env_up hα q) h.bk, h.len, trivial, fun _ _ => ⟨Or.inl ⟨rfl, Or.inl ⟨j, rfl, hj, Or.inr ⟨rfl, hR⟩⟩⟩, fun _ => ?_⟩, fun h => absurd h (by show ¬ 8 ≤ 5; omega), fun _ => ?_, fun h => absurd h (by show ¬ 9 ≤ 8; omega)⟩, g2⟩
    · refine g3.trans ?_
      rw [hc, hgt_nil (by omega) (by omega), hgt_nil (by omega) (by omega)]
    · show upN σ j (bl.headD (0, 0, 0)).1 (j + 1 - 1) = _
      rw [Nat.add_sub_cancel, uN_eq]
    · show c.length + 0 + 0 + 5 ≤ j + 1
      omega
  · intro fr ρ γ c V eX eY ht
    cases eX
    cases eY
    have hfr : fr = [] := w2 (Or.inl (by show 8 ≤ 8; omega))
    subst hfr
    have hbu : c.length + 0 + 0 + 5 ≤ j := h.bu (by show 6 ≤ 8; omega)
    have hp := hAI.2.2.2.1.2.2.2.2.2.2 (by show 5 ≤ 8; omega)
    have hc := h.cur
    refine ⟨A, ⟨h.cv, ?_, h.bk, h.len, ⟨⟨by show 0 < j + 1; omega, fun _ => rfl, fun t h => absurd h List.not_mem_nil, List.Pairwise.nil, fun h => absurd rfl h, fun _ => rfl⟩, fun h => absurd h (by dsimp only; omega), fun _ h => absurd rfl h, trivial⟩, fun _ _ => (h.tm (by show 8 ≤ 8; omega) (by show 8 ≤ 12; omega)).le (Le.of (fun _ _ => rfl)) (Nat.le_refl _) (Nat.le_refl _), fun h => absurd h (by show ¬ 9 ≤ 5; omega), fun _ => ?_, fun _ _ => ?_⟩, Le.of (fun _ _ => rfl)⟩
    · rw [hgt_nil (by omega) (by omega)] at hc
      rw [hgt_9 (Or.inl rfl)]
      exact hc
    · show c.length + 0 + 1 + 5 ≤ j + 1
      omega
    · show 2 * 0 + 5 + 0 + f ≤ j + 1
      omega
  · intro ca le cn o F ρ γ c V eX eY ht
    cases eX
    cases eY
    obtain ⟨f1, f2, -, f4⟩ : FI R 10 j ((ca, le, cn, o) :: F) := h.fi
    obtain ⟨hca, hcn, ho⟩ : ca ≠ 0 ∧ cn = 0 ∧ o = [] := f2 rfl
    subst hcn ho
    have hcaj : ca < j := f1.1
    obtain ⟨hd1, hd2⟩ : (∀ z, z ∈ F → z.1 < ca) ∧ R (ca - 1) = 6 := f1.2.2.2.2.1 hca
    have hG : Γ (ca - 1) = upN γ (ca - 1) 0 (ca - 1) := hGa (ca - 1) (by omega) (fun hm => by
      obtain ⟨z, hz, e⟩ := List.mem_map.mp hm
      have := hd1 z hz
      omega)
    rw [uN_eq] at hG
    have hc : A c.length = (_, lp V.1, env R V.2.2.2.2.2.2.1 V.2.2.2.2.2.2.2.1 V.1) := h.cur
    rw [hgt_9 (Or.inr rfl)] at hc
    have hht : 2 * (0 + (0 - 1) + hS F) + 5 + 0 + f ≤ j := h.ht (by show 9 ≤ 10; omega) (by show 10 ≤ 12; omega)
    have hbu : c.length + (0 + (if ca = 0 then 0 else 1) + oS F) + 1 + 5 ≤ j := h.bu (by show 6 ≤ 10; omega)
    rw [if_neg hca] at hbu
    have hlp := (h.cv.2.1 c.length (Nat.le_refl _) h.cv.1).2
    have hhs : hS ((ca, le, 0, []) :: F) = hS F := by show 0 + (0 - 1) + hS F = hS F; omega
    rw [hhs] at hc
    obtain ⟨A', g1, g2, g3⟩ := h.cv.app (p := (3, Int32.ofNat (ca - 1))) (hS F + 1, lp V.1, env R V.2.2.2.2.2.2.1 V.2.2.2.2.2.2.2.1 V.1) (by show hS F + 1 ≤ 118; omega) (by rw [hc] at hlp; exact hlp) (fun A' e1 e2 => .cal (ca - 1) (by omega) hd2 (by rw [hG]; omega) (by
      have e1' : A' c.length = A c.length := e1 _ (Nat.le_refl _)
      have e2' : A' (c.length + 1) = _ := e2
      refine ⟨?_, ?_, fun q hq => ?_⟩
      · show (A' (c.length + 1)).1 = (A' c.length).1 - Γ (ca - 1) + 1
        rw [e2', e1', hc, hG]
        show hS F + 1 = hS F - 0 + 1
        omega
      · show (A' (c.length + 1)).2.1 = (A' c.length).2.1
        rw [e2', e1', hc]
      · have hq' : (A' (c.length + 1)).2.2 q := hq
        rw [e2'] at hq'
        show (A' c.length).2.2 q
        rw [e1', hc]
        exact hq'))
    refine ⟨A', ⟨g1, ?_, h.bk.cg0 (Le.of g2) (by show c.length ≤ (c ++ [_]).length; rw [lenc]; omega), h.len, f4.up.fi (by dsimp only; omega), fun _ _ => (h.tm (by show 8 ≤ 10; omega) (by show 10 ≤ 12; omega)).le (Le.of g2) (by show c.length ≤ (c ++ [_]).length; rw [lenc]; omega) (by show 9 ≤ 11; omega), fun h => absurd h (by show ¬ 11 ≤ 5; omega), fun _ => ?_, fun _ _ => ?_⟩, Le.of g2⟩
    · rw [hgt_11]
      exact g3
    · show (c ++ [_]).length + oS F + 1 + 5 ≤ j + 1
      rw [lenc]
      omega
    · show 2 * hS F + 5 + 1 + f ≤ j + 1
      omega
  · intro st ca le cn o F ρ γ c V eX eY h9 ht
    cases eX
    cases eY
    obtain ⟨f1, f2, f3, f4⟩ : FI R st j ((ca, le, cn, o) :: F) := h.fi
    have hcn : (if st = 10 then 1 else cn) - 1 = cn - 1 := by
      split
      · rename_i e
        have : cn = 0 := (f2 e).2.1
        omega
      · rfl
    have hc0 : ca = 0 → (if st = 10 then 1 else cn) = 0 := fun e => by
      rw [if_neg (fun e2 => (f2 e2).1 e)]
      exact f1.2.1 e
    have hc1 : ca ≠ 0 → 1 ≤ (if st = 10 then 1 else cn) := fun e => by
      split
      · omega
      · rename_i e2
        exact f3 e2 e
    have hc : A c.length = (_, lp V.1, env R V.2.2.2.2.2.2.1 V.2.2.2.2.2.2.2.1 V.1) := h.cur
    rw [hgt_9 h9] at hc
    have hht : 2 * hS ((ca, le, cn, o) :: F) + 5 + (if st = 11 ∨ st = 12 then 1 else 0) + f ≤ j := h.ht (by dsimp only; omega) (by dsimp only; omega)
    have hbu : c.length + oS ((ca, le, cn, o) :: F) + (if 9 ≤ st ∧ st ≤ 12 then 1 else 0) + 5 ≤ j := h.bu (by dsimp only; omega)
    rw [if_neg (by omega)] at hht
    rw [if_pos (by omega)] at hbu
    have hlp := (h.cv.2.1 c.length (Nat.le_refl _) h.cv.1).2
    have hhs : hS ((ca, le, if st = 10 then 1 else cn, o) :: F) = hS ((ca, le, cn, o) :: F) := by
      show o.length + ((if st = 10 then 1 else cn) - 1) + hS F = o.length + (cn - 1) + hS F
      rw [hcn]
    obtain ⟨A', g1, g2, g3⟩ := h.cv.app (p := (0, Int32.ofNat (nm j))) (hS ((ca, le, cn, o) :: F) + 1, lp V.1, env R V.2.2.2.2.2.2.1 V.2.2.2.2.2.2.2.1 V.1) (by show hS ((ca, le, cn, o) :: F) + 1 ≤ 118; omega) (by rw [hc] at hlp; exact hlp) (fun A' e1 e2 => .psh _ (by
      have e1' : A' c.length = A c.length := e1 _ (Nat.le_refl _)
      have e2' : A' (c.length + 1) = _ := e2
      refine ⟨?_, ?_, fun q hq => ?_⟩
      · show (A' (c.length + 1)).1 = (A' c.length).1 + 1
        rw [e2', e1', hc]
      · show (A' (c.length + 1)).2.1 = (A' c.length).2.1
        rw [e2', e1', hc]
      · have hq' : (A' (c.length + 1)).2.2 q := hq
        rw [e2'] at hq'
        show (A' c.length).2.2 q
        rw [e1', hc]
        exact hq'))
    refine ⟨A', ⟨g1, ?_, h.bk.cg0 (Le.of g2) (by show c.length ≤ (c ++ [_]).length; rw [lenc]; omega), h.len, ⟨(f1.cn (y := (0, 0, 0, [])) hc0).up, fun h => absurd h (by dsimp only; omega), fun _ => hc1, f4.up⟩, fun _ _ => (h.tm (by dsimp only; omega) (by dsimp only; omega)).le (Le.of g2) (by show c.length ≤ (c ++ [_]).length; rw [lenc]; omega) (by show 9 ≤ 11; omega), fun h => absurd h (by show ¬ 11 ≤ 5; omega), fun _ => ?_, fun _ _ => ?_⟩, Le.of g2⟩
    · rw [hgt_11, hhs]
      exact g3
    · show (c ++ [_]).length + oS ((ca, le, cn, o) :: F) + 1 + 5 ≤ j + 1
      rw [lenc]
      omega
    · show 2 * hS ((ca, le, if st = 10 then 1 else cn, o) :: F) + 5 + 1 + f ≤ j + 1
      rw [hhs]
      omega
  · intro st ca le cn o F ρ γ c V eX eY h9 ht h40
    cases eX
    cases eY
    obtain ⟨f1, f2, f3, f4⟩ : FI R st j ((ca, le, cn, o) :: F) := h.fi
    have hR : R j = upN ρ j 5 j := hRo j (by omega) (fun hp => absurd ⟨hp.2.1, by have h4 : F.length + 1 ≤ 4 := hp.2.2; omega⟩ h40)
    rw [uN_eq] at hR
    have hcn : (if st = 10 then 1 else cn) - 1 = cn - 1 := by
      split
      · rename_i e
        have : cn = 0 := (f2 e).2.1
        omega
      · rfl
    have hc0 : ca = 0 → (if st = 10 then 1 else cn) = 0 := fun e => by
      rw [if_neg (fun e2 => (f2 e2).1 e)]
      exact f1.2.1 e
    have hc1 : ca ≠ 0 → 1 ≤ (if st = 10 then 1 else cn) := fun e => by
      split
      · omega
      · rename_i e2
        exact f3 e2 e
    have hc : A c.length = (_, lp V.1, env R V.2.2.2.2.2.2.1 V.2.2.2.2.2.2.2.1 V.1) := h.cur
    rw [hgt_9 h9] at hc
    have hht : 2 * hS ((ca, le, cn, o) :: F) + 5 + (if st = 11 ∨ st = 12 then 1 else 0) + f ≤ j := h.ht (by dsimp only; omega) (by dsimp only; omega)
    have hbu : c.length + oS ((ca, le, cn, o) :: F) + (if 9 ≤ st ∧ st ≤ 12 then 1 else 0) + 5 ≤ j := h.bu (by dsimp only; omega)
    rw [if_neg (by omega)] at hht
    rw [if_pos (by omega)] at hbu
    have hlp := (h.cv.2.1 c.length (Nat.le_refl _) h.cv.1).2
    have hhs : hS ((ca, le, if st = 10 then 1 else cn, o) :: F) = hS ((ca, le, cn, o) :: F) := by
      show o.length + ((if st = 10 then 1 else cn) - 1) + hS F = o.length + (cn - 1) + hS F
      rw [hcn]
    obtain ⟨A', g1, g2, g3⟩ := h.cv.app (p := (1, Int32.ofNat j)) (hS ((ca, le, cn, o) :: F) + 1, lp V.1, env R V.2.2.2.2.2.2.1 V.2.2.2.2.2.2.2.1 V.1) (by show hS ((ca, le, cn, o) :: F) + 1 ≤ 118; omega) (by rw [hc] at hlp; exact hlp) (fun A' e1 e2 => .lod j hj hR (fun q hq => by
        have e1' : A' c.length = A c.length := e1 _ (Nat.le_refl _)
        show (A' c.length).2.2 q
        rw [e1', hc]
        exact hW q hq) (by
      have e1' : A' c.length = A c.length := e1 _ (Nat.le_refl _)
      have e2' : A' (c.length + 1) = _ := e2
      refine ⟨?_, ?_, fun q hq => ?_⟩
      · show (A' (c.length + 1)).1 = (A' c.length).1 + 1
        rw [e2', e1', hc]
      · show (A' (c.length + 1)).2.1 = (A' c.length).2.1
        rw [e2', e1', hc]
      · have hq' : (A' (c.length + 1)).2.2 q := hq
        rw [e2'] at hq'
        show (A' c.length).2.2 q
        rw [e1', hc]
        exact hq'))
    refine ⟨A', ⟨g1, ?_, h.bk.cg0 (Le.of g2) (by show c.length ≤ (c ++ [_]).length; rw [lenc]; omega), h.len, ⟨(f1.cn (y := (0, 0, 0, [])) hc0).up, fun h => absurd h (by dsimp only; omega), fun _ => hc1, f4.up⟩, fun _ _ => (h.tm (by dsimp only; omega) (by dsimp only; omega)).le (Le.of g2) (by show c.length ≤ (c ++ [_]).length; rw [lenc]; omega) (by show 9 ≤ 12; omega), fun h => absurd h (by show ¬ 12 ≤ 5; omega), fun _ => ?_, fun _ _ => ?_⟩, Le.of g2⟩
    · rw [hgt_12 (fun e => h40 ⟨e.1, by have h4 : F.length + 1 ≤ 4 := e.2; omega⟩), hhs]
      exact g3
    · show (c ++ [_]).length + oS ((ca, le, cn, o) :: F) + 1 + 5 ≤ j + 1
      rw [lenc]
      omega
    · show 2 * hS ((ca, le, if st = 10 then 1 else cn, o) :: F) + 5 + 1 + f ≤ j + 1
      rw [hhs]
      omega
  · intro st ca le cn o F ρ γ c V eX eY h9 ht h40 hF
    cases eX
    cases eY
    obtain ⟨f1, f2, f3, f4⟩ : FI R st j ((ca, le, cn, o) :: F) := h.fi
    have hcn : (if st = 10 then 1 else cn) - 1 = cn - 1 := by
      split
      · rename_i e
        have : cn = 0 := (f2 e).2.1
        omega
      · rfl
    have hc0 : ca = 0 → (if st = 10 then 1 else cn) = 0 := fun e => by
      rw [if_neg (fun e2 => (f2 e2).1 e)]
      exact f1.2.1 e
    have hc1 : ca ≠ 0 → 1 ≤ (if st = 10 then 1 else cn) := fun e => by
      split
      · omega
      · rename_i e2
        exact f3 e2 e
    have hc : A c.length = (_, lp V.1, env R V.2.2.2.2.2.2.1 V.2.2.2.2.2.2.2.1 V.1) := h.cur
    rw [hgt_9 h9] at hc
    have hht : 2 * hS ((ca, le, cn, o) :: F) + 5 + (if st = 11 ∨ st = 12 then 1 else 0) + f ≤ j := h.ht (by dsimp only; omega) (by dsimp only; omega)
    have hbu : c.length + oS ((ca, le, cn, o) :: F) + (if 9 ≤ st ∧ st ≤ 12 then 1 else 0) + 5 ≤ j := h.bu (by dsimp only; omega)
    rw [if_neg (by omega)] at hht
    rw [if_pos (by omega)] at hbu
    have hhs : hS ((ca, le, if st = 10 then 1 else cn, o) :: F) = hS ((ca, le, cn, o) :: F) := by
      show o.length + ((if st = 10 then 1 else cn) - 1) + hS F = o.length + (cn - 1) + hS F
      rw [hcn]
    refine ⟨A, ⟨h.cv, ?_, h.bk, h.len, ⟨(f1.cn (y := (0, 0, 0, [])) hc0).up, fun h => absurd h (by dsimp only; omega), fun _ => hc1, f4.up⟩, fun _ _ => (h.tm (by dsimp only; omega) (by dsimp only; omega)).le (Le.of (fun _ _ => rfl)) (Nat.le_refl _) (by show 9 ≤ 12; omega), fun h => absurd h (by show ¬ 12 ≤ 5; omega), fun _ => ?_, fun _ _ => ?_⟩, Le.of (fun _ _ => rfl)⟩
    · rw [hgt_12p ⟨h40, by show F.length + 1 ≤ 4; omega⟩, hhs]
      exact hc
    · show c.length + oS ((ca, le, cn, o) :: F) + 1 + 5 ≤ j + 1
      omega
    · show 2 * hS ((ca, le, if st = 10 then 1 else cn, o) :: F) + 5 + 1 + f ≤ j + 1
      rw [hhs]
      omega
  · intro st ca le cn o F ρ γ c V eX eY h9 ht hF
    cases eX
    cases eY
    obtain ⟨f1, f2, f3, f4⟩ : FI R st j ((ca, le, cn, o) :: F) := h.fi
    have hcn : (if st = 10 then 1 else cn) - 1 = cn - 1 := by
      split
      · rename_i e
        have : cn = 0 := (f2 e).2.1
        omega
      · rfl
    have hc0 : ca = 0 → (if st = 10 then 1 else cn) = 0 := fun e => by
      rw [if_neg (fun e2 => (f2 e2).1 e)]
      exact f1.2.1 e
    have hc1 : ca ≠ 0 → 1 ≤ (if st = 10 then 1 else cn) := fun e => by
      split
      · omega
      · rename_i e2
        exact f3 e2 e
    have hc : A c.length = (_, lp V.1, env R V.2.2.2.2.2.2.1 V.2.2.2.2.2.2.2.1 V.1) := h.cur
    rw [hgt_9 h9] at hc
    have hht : 2 * hS ((ca, le, cn, o) :: F) + 5 + (if st = 11 ∨ st = 12 then 1 else 0) + f ≤ j := h.ht (by dsimp only; omega) (by dsimp only; omega)
    have hbu : c.length + oS ((ca, le, cn, o) :: F) + (if 9 ≤ st ∧ st ≤ 12 then 1 else 0) + 5 ≤ j := h.bu (by dsimp only; omega)
    rw [if_neg (by omega)] at hht
    rw [if_pos (by omega)] at hbu
    have hhs : hS ((0, 0, 0, []) :: (ca, le, if st = 10 then 1 else cn, o) :: F) = hS ((ca, le, cn, o) :: F) := by
      show 0 + (0 - 1) + (o.length + ((if st = 10 then 1 else cn) - 1) + hS F) = o.length + (cn - 1) + hS F
      rw [hcn]
      omega
    refine ⟨A, ⟨h.cv, ?_, h.bk, h.len, ⟨⟨by show 0 < j + 1; omega, fun _ => rfl, fun t h => absurd h List.not_mem_nil, List.Pairwise.nil, fun h => absurd rfl h, fun _ => rfl⟩, fun h => absurd h (by dsimp only; omega), fun _ h => absurd rfl h, (f1.cn (y := (0, 0, 0, [])) hc0).up, hc1, f4.up⟩, fun _ _ => (h.tm (by dsimp only; omega) (by dsimp only; omega)).le (Le.of (fun _ _ => rfl)) (Nat.le_refl _) (by show 9 ≤ 9; omega), fun h => absurd h (by show ¬ 9 ≤ 5; omega), fun _ => ?_, fun _ _ => ?_⟩, Le.of (fun _ _ => rfl)⟩
    · rw [hgt_9 (Or.inl rfl), hhs]
      exact hc
    · show c.length + (0 + 0 + oS ((ca, le, cn, o) :: F)) + 1 + 5 ≤ j + 1
      omega
    · show 2 * hS ((0, 0, 0, []) :: (ca, le, if st = 10 then 1 else cn, o) :: F) + 5 + 0 + f ≤ j + 1
      rw [hhs]
      omega
  · intro ca le cn o F ρ γ c V eX eY ht hF
    cases eX
    cases eY
    obtain ⟨f1, -, f3, f4⟩ : FI R 12 j ((ca, le, cn, o) :: F) := h.fi
    have hR : R (j - 1) = upN ρ (j - 1) 6 (j - 1) := hRo (j - 1) (by omega) (fun hp => absurd hp.1 (by show (10 : Nat) ≠ 12; omega))
    rw [uN_eq] at hR
    have hc : A c.length = (_, lp V.1, env R V.2.2.2.2.2.2.1 V.2.2.2.2.2.2.2.1 V.1) := h.cur
    rw [hgt_12p ⟨ht, by show F.length + 1 ≤ 4; omega⟩] at hc
    have hht : 2 * hS ((ca, le, cn, o) :: F) + 5 + 1 + f ≤ j := h.ht (by show 9 ≤ 12; omega) (by show 12 ≤ 12; omega)
    have hbu : c.length + oS ((ca, le, cn, o) :: F) + 1 + 5 ≤ j := h.bu (by show 6 ≤ 12; omega)
    refine ⟨A, ⟨h.cv, ?_, h.bk, h.len, ⟨⟨by show j < j + 1; omega, fun _ => rfl, fun t h => absurd h List.not_mem_nil, List.Pairwise.nil, fun _ => ⟨fun z hz => ?_, hR⟩, fun h => absurd h (List.cons_ne_nil _ _)⟩, fun _ => ⟨by show j ≠ 0; omega, rfl, rfl⟩, fun h => absurd rfl h, f1.up, f3 (by decide), f4.up⟩, fun _ _ => (h.tm (by show 8 ≤ 12; omega) (by show 12 ≤ 12; omega)).le (Le.of (fun _ _ => rfl)) (Nat.le_refl _) (by show 9 ≤ 10; omega), fun h => absurd h (by show ¬ 10 ≤ 5; omega), fun _ => ?_, fun _ _ => ?_⟩, Le.of (fun _ _ => rfl)⟩
    · rw [hgt_9 (Or.inr rfl)]
      show A c.length = (0 + (0 - 1) + hS ((ca, le, cn, o) :: F), _, _)
      rw [show 0 + (0 - 1) + hS ((ca, le, cn, o) :: F) = hS ((ca, le, cn, o) :: F) by omega]
      exact hc
    · rcases List.mem_cons.mp hz with e | e
      · rw [e]; exact f1.1
      · exact f4.lt z e
    · show c.length + (0 + (if j = 0 then 0 else 1) + oS ((ca, le, cn, o) :: F)) + 1 + 5 ≤ j + 1
      rw [if_neg (by omega)]
      omega
    · show 2 * (0 + (0 - 1) + hS ((ca, le, cn, o) :: F)) + 5 + 0 + f ≤ j + 1
      omega
  · intro st t le' ca le cn o F ρ γ c V eX eY h9 ht ht2
    cases eX
    cases eY
    obtain ⟨f1, -, f3, f4⟩ : FI R st j ((ca, le, cn, o) :: F) := h.fi
    obtain ⟨p1, p2, p3, p4⟩ := pw_dw (l := rk t) f1.2.2.2.1
    have p4' : (tw (rk t) o).length + (dw (rk t) o).length = o.length := p4
    have hc : A c.length = (_, lp V.1, env R V.2.2.2.2.2.2.1 V.2.2.2.2.2.2.2.1 V.1) := h.cur
    rw [hgt_o h9 (by omega)] at hc
    have hht : 2 * (o.length + (cn - 1) + hS F) + 5 + (if st = 11 ∨ st = 12 then 1 else 0) + f ≤ j := h.ht (by dsimp only; omega) (by dsimp only; omega)
    have hbu : c.length + (o.length + (if ca = 0 then 0 else 1) + oS F) + (if 9 ≤ st ∧ st ≤ 12 then 1 else 0) + 5 ≤ j := h.bu (by dsimp only; omega)
    rw [if_pos h9] at hht
    rw [if_pos (show 9 ≤ st ∧ st ≤ 12 by omega)] at hbu
    have hhs : hS ((ca, le, cn, o) :: F) = o.length + (cn - 1) + hS F := rfl
    rw [hhs] at hc
    obtain ⟨A', g1, g2, g3⟩ := h.cv.ops (tw (rk t) o) A c (fun u hu => f1.2.2.1 u (p3 u hu)) (by rw [hc]; show (tw (rk t) o).length + 1 ≤ o.length + (cn - 1) + hS F + 1; omega)
    have hlen : (c ++ oi (tw (rk t) o)).length = c.length + (tw (rk t) o).length := by rw [List.length_append, oi_len]
    refine ⟨A', ⟨g1, ?_, h.bk.cg0 (Le.of g2) (by show c.length ≤ (c ++ oi (tw (rk t) o)).length; omega), h.len, ⟨⟨Nat.lt_succ_of_lt f1.1, f1.2.1, fun u hu => ?_, List.pairwise_cons.mpr ⟨fun u hu => (p2 u hu).2, p1⟩, f1.2.2.2.2⟩, fun h => absurd h (by dsimp only; omega), fun _ => f3 (by omega), f4.up⟩, fun _ _ => (h.tm (by dsimp only; omega) (by dsimp only; omega)).le (Le.of g2) (by show c.length ≤ (c ++ oi (tw (rk t) o)).length; omega) (by show 9 ≤ 9; omega), fun h => absurd h (by show ¬ 9 ≤ 5; omega), fun _ => ?_, fun _ _ => ?_⟩, Le.of g2⟩
    · rw [hgt_9 (Or.inl rfl)]
      refine g3.trans ?_
      rw [hc]
      show (o.length + (cn - 1) + hS F + 1 - (tw (rk t) o).length, _, _) = ((dw (rk t) o).length + 1 + (cn - 1) + hS F, _, _)
      rw [show o.length + (cn - 1) + hS F + 1 - (tw (rk t) o).length = (dw (rk t) o).length + 1 + (cn - 1) + hS F by omega]
    · rcases List.mem_cons.mp hu with e | e
      · rw [e]; exact ht2
      · exact f1.2.2.1 u (p2 u e).1
    · show (c ++ oi (tw (rk t) o)).length + ((dw (rk t) o).length + 1 + (if ca = 0 then 0 else 1) + oS F) + 1 + 5 ≤ j + 1
      omega
    · show 2 * ((dw (rk t) o).length + 1 + (cn - 1) + hS F) + 5 + 0 + f ≤ j + 1
      omega
  · intro st ca le cn o ρ γ c bl ln ag fin np σ α ω eX eY h9 ht hb4
    cases eX
    cases eY
    obtain ⟨f1, -, f3, f4⟩ : FI R st j [(ca, le, cn, o)] := h.fi
    have hca : ca = 0 := f1.2.2.2.2.2 rfl
    have hcn : cn = 0 := f1.2.1 hca
    subst hca hcn
    have hAI' : AI cl f j st ρ bl ln np σ α ω := hAI
    have htm : TI R σ α b c.length A st bl 123 ln ag fin := h.tm (by dsimp only; omega) (by dsimp only; omega)
    have hag : ag ≠ 0 → b < ag ∧ ag ≤ c.length + 1 ∧ (A (ag - 1)).1 = 0 ∧ (A (ag - 1)).2.1 = lp bl ∧ ∀ q, (A (ag - 1)).2.2 q → env R σ α bl q := by
      rcases htm.1 with e | e
      · exact absurd e.1 (by decide)
      · exact e.2.2.2
    have hc : A c.length = (_, lp bl, env R σ α bl) := h.cur
    rw [hgt_o h9 (by omega)] at hc
    have hhs : hS [(0, le, 0, o)] = o.length := by show o.length + (0 - 1) + 0 = o.length; omega
    rw [hhs] at hc
    have hbu : c.length + (o.length + 0 + 0) + (if 9 ≤ st ∧ st ≤ 12 then 1 else 0) + 5 ≤ j := h.bu (by dsimp only; omega)
    rw [if_pos (show 9 ≤ st ∧ st ≤ 12 by omega)] at hbu
    have hlp := lp_le bl
    have hb0 : b ≤ c.length := h.cv.1
    obtain ⟨A1, g1, g2, g3⟩ := h.cv.ops o A c f1.2.2.1 (by rw [hc]; show o.length + 1 ≤ o.length + 1; omega)
    rw [hc] at g3
    have g3' : A1 (c ++ oi o).length = (1, lp bl, env R σ α bl) := by
      rw [g3]
      show (o.length + 1 - o.length, _, _) = _
      rw [show o.length + 1 - o.length = 1 by omega]
    have hlen : (c ++ oi o).length = c.length + o.length := by rw [List.length_append, oi_len]
    have hsub : ∀ q, env R σ α ((j, c.length + o.length + 1, ag) :: bl) q → env R σ α bl q := opn_e hAI'
    -- the test
    have k1 : Cv W R Γ b (upA A1 ((c ++ oi o).length + 1) (0, lp bl, env R σ α ((j, c.length + o.length + 1, ag) :: bl))) (c ++ oi o ++ [(4, 0)]) ((j, c.length + o.length + 1, ag) :: bl) := g1.gen (by show 0 ≤ 118; omega) (by show lp bl ≤ 4; omega) (fun i _ hy y hm => hy y (List.mem_cons_of_mem _ hm)) (fun hy => absurd (by rw [hlen]) (hy _ (List.mem_cons_self ..)))
    have k2 : ∀ k, k ≤ c.length + o.length → upA A1 ((c ++ oi o).length + 1) (0, lp bl, env R σ α ((j, c.length + o.length + 1, ag) :: bl)) k = A1 k := fun k hk => uA_ne (by omega)
    have k3 : upA A1 ((c ++ oi o).length + 1) (0, lp bl, env R σ α ((j, c.length + o.length + 1, ag) :: bl)) (c.length + o.length + 1) = (0, lp bl, env R σ α ((j, c.length + o.length + 1, ag) :: bl)) := by rw [← hlen]; exact uA_eq
    revert k1 k2 k3
    generalize upA A1 ((c ++ oi o).length + 1) (0, lp bl, env R σ α ((j, c.length + o.length + 1, ag) :: bl)) = A2
    intro k1 k2 k3
    have hlen2 : (c ++ oi o ++ [((4 : Int32), (0 : Int32))]).length = c.length + o.length + 1 := by rw [lenc, hlen]
    have k4 : A2 (c.length + o.length) = (1, lp bl, env R σ α bl) := by rw [k2 _ (Nat.le_refl _), ← hlen]; exact g3'
    have hnx : Nx A2 (c.length + o.length) 0 := ⟨by rw [k3], by rw [k3, k4], fun q hq => by rw [k3] at hq; rw [k4]; exact hsub q hq⟩
    have fin2 : ∀ (A3 : Nat → Ant) (c3 : Cds), Cv W R Γ b A3 c3 ((j, c.length + o.length + 1, ag) :: bl) → (∀ k, k ≤ c.length + o.length + 1 → A3 k = A2 k) → A3 c3.length = (0, (if ag = 0 then 0 else 1) + lp bl, env R σ α ((j, c.length + o.length + 1, ag) :: bl)) → c.length + o.length + 1 ≤ c3.length → c3.length ≤ c.length + o.length + 2 → GI cl W R Γ f b (j + 1) A3 (6, [], ρ, γ, c3, (j, c.length + o.length + 1, ag) :: bl, 123, ln, ag, fin, np, σ, α, ω) ∧ Le A3 A c.length := by
      intro A3 c3 m1 m2 m3 m4 m5
      have hle : Le A3 A c.length := Le.of (fun k hk => (m2 k (by omega)).trans ((k2 k (by omega)).trans (g2 k hk)))
      refine ⟨⟨m1, ?_, ⟨h.bk.cg0 hle (by show c.length ≤ c3.length; omega), fun y hy => (hAI'.2.2.2.2.2.2.2.2.2.1 y hy).2, fun _ => ⟨by omega, m4, ?_, ?_, fun q hq => ?_, ?_⟩, fun ha => ?_⟩, by show bl.length + 1 ≤ 4; omega, trivial, fun h => absurd h (by show ¬ 8 ≤ 6; omega), fun h => absurd h (by show ¬ 6 ≤ 5; omega), fun _ => ?_, fun h => absurd h (by show ¬ 9 ≤ 6; omega)⟩, hle⟩
      · rw [hgt_nil (by omega) (by omega)]; exact m3
      · rw [Nat.add_sub_cancel, m2 _ (by omega), k4]
      · rw [Nat.add_sub_cancel, m2 _ (by omega), k4]
      · rw [Nat.add_sub_cancel, m2 _ (by omega), k4]; exact hq
      · rw [Nat.add_sub_cancel]
        unfold Nx
        rw [m2 _ (Nat.le_refl _), m2 (c.length + o.length) (by omega)]
        exact hnx
      · obtain ⟨z1, z2, z3, z4, z5⟩ := hag ha
        have e := (hle.at (k := ag - 1) (by omega))
        exact ⟨by omega, z1, by show ag ≤ c3.length; omega, e.1.trans z3, e.2.1.trans z4, fun q hq => z5 q (e.2.2 q hq)⟩
      · show c3.length + 0 + 0 + 5 ≤ j + 1
        omega
    by_cases ha : ag = 0
    · rw [if_pos ha, List.append_nil]
      exact ⟨A2, fin2 A2 _ k1 (fun _ _ => rfl) (by rw [hlen2, k3, if_pos ha, Nat.zero_add]) (by omega) (by omega)⟩
    · rw [if_neg ha]
      obtain ⟨A3, m1, m2, m3⟩ := k1.app (p := (5, 0)) (0, 1 + lp bl, env R σ α ((j, c.length + o.length + 1, ag) :: bl)) (by show 0 ≤ 118; omega) (by show 1 + lp bl ≤ 4; omega) (fun A' e1 e2 => by
        have e1' : A' (c ++ oi o ++ [((4 : Int32), (0 : Int32))]).length = (0, lp bl, env R σ α ((j, c.length + o.length + 1, ag) :: bl)) := by rw [e1 _ (Nat.le_refl _), hlen2, k3]
        refine .cou ?_ ?_ (fun q hq => ?_)
        · rw [e2, e1']
        · rw [e2, e1']; show 1 + lp bl = lp bl + 1; omega
        · rw [e2] at hq; rw [e1']; exact hq)
      exact ⟨A3, fin2 A3 _ m1 (fun k hk => m2 k (by rw [hlen2]; exact hk)) (by rw [m3, if_neg ha]) (by rw [lenc, hlen2]; omega) (by rw [lenc, hlen2]; omega)⟩
  · intro st ca le cn o ρ γ c bl en ln ag fin np σ α ω eX eY h9 ht he
    cases eX
    cases eY
    obtain ⟨f1, -, f3, f4⟩ : FI R st j [(ca, le, cn, o)] := h.fi
    have hca : ca = 0 := f1.2.2.2.2.2 rfl
    have hcn : cn = 0 := f1.2.1 hca
    subst hca hcn
    have htm : TI R σ α b c.length A st bl en ln ag fin := h.tm (by dsimp only; omega) (by dsimp only; omega)
    have htm1 : ∀ _ : Unit, en = 59 ∧ ((∃ t, fin = (2, Int32.ofNat t) ∧ t < 240 ∧ (ln = 0 ∧ R t = 4 ∨ ln = t + 1 ∧ R t = 3)) ∨ (fin = (7, 0) ∨ fin = (8, 0)) ∧ ln = 0) := fun _ => by
      rcases htm.1 with e | e
      · exact e
      · exact absurd e.1 he
    have hen59 : en = 59 := (htm1 ()).1
    have hc : A c.length = (_, lp bl, env R σ α bl) := h.cur
    rw [hgt_o h9 (by omega)] at hc
    have hhs : hS [(0, le, 0, o)] = o.length := by show o.length + (0 - 1) + 0 = o.length; omega
    rw [hhs] at hc
    have hbu : c.length + (o.length + 0 + 0) + (if 9 ≤ st ∧ st ≤ 12 then 1 else 0) + 5 ≤ j := h.bu (by dsimp only; omega)
    rw [if_pos (show 9 ≤ st ∧ st ≤ 12 by omega)] at hbu
    have hlp := lp_le bl
    have hl4 : bl.length ≤ 4 := h.len
    obtain ⟨A1, g1, g2, g3⟩ := h.cv.ops o A c f1.2.2.1 (by rw [hc]; show o.length + 1 ≤ o.length + 1; omega)
    rw [hc] at g3
    have g3' : A1 (c ++ oi o).length = (1, lp bl, env R σ α bl) := by
      rw [g3]
      show (o.length + 1 - o.length, _, _) = _
      rw [show o.length + 1 - o.length = 1 by omega]
    have hlen : (c ++ oi o).length = c.length + o.length := by rw [List.length_append, oi_len]
    have hal : ∀ q, q + 1 ≠ ln → (if ln = 0 then α else upN α (ln - 1) (j + 1)) q = α q := fun q hq => by
      split
      · rfl
      · exact uN_ne (by omega)
    have hbk : BK R σ α b c.length A bl := h.bk
    obtain ⟨⟨o1, te1, ag1⟩, B, hB⟩ : ∃ B0 B, bl = B0 :: B := by
      have hbl : bl ≠ [] := w1 (by dsimp only; omega) (by dsimp only; omega)
      cases hv : bl with
      | nil => exact absurd hv hbl
      | cons a b => exact ⟨a, b, rfl⟩
    have hE : ∀ B', (∀ y, y ∈ B' → y ∈ bl.tail) → ∀ q, env R σ (if ln = 0 then α else upN α (ln - 1) (j + 1)) B' q ↔ env R σ α B' q := by
      intro B' hB' q
      unfold env
      by_cases hq : q + 1 = ln
      · have hs0 : σ q = o1 := by
          have := htm.2 (by omega)
          rw [← hq, Nat.add_sub_cancel] at this
          rw [this, hB]
          rfl
        have no : ¬ ∃ y, y ∈ B' ∧ y.1 = σ q := by
          rintro ⟨y, hy, e⟩
          have hy2 := hB' y hy
          rw [hB] at hy2 hbk
          have := hbk.2.1 y hy2
          omega
        constructor
        · rintro (e | e)
          · exact Or.inl e
          · exact absurd e.2 no
        · rintro (e | e)
          · exact Or.inl e
          · exact absurd e.2 no
      · rw [hal q hq]
    have hEn : ∀ q, env R σ (if ln = 0 then α else upN α (ln - 1) (j + 1)) bl q → env R σ α bl q ∨ q + 1 = ln := by
      intro q hq
      by_cases hq1 : q + 1 = ln
      · exact Or.inr hq1
      · unfold env at hq
        rw [hal q hq1] at hq
        exact Or.inl hq
    obtain ⟨A2, k1, k2, k3⟩ := g1.app (p := fin) (0, lp bl, env R σ (if ln = 0 then α else upN α (ln - 1) (j + 1)) bl) (by show 0 ≤ 118; omega) (by show lp bl ≤ 4; omega) (fun A' e1 e2 => by
      have e1' : A' (c ++ oi o).length = (1, lp bl, env R σ α bl) := by rw [e1 _ (Nat.le_refl _), g3']
      rcases (htm1 ()).2 with ⟨t, e, ht240, hl⟩ | ⟨e, hl⟩
      · rw [e]
        refine .sto t ht240 (by omega) (by rw [e1']) (by rw [e2]) (by rw [e2, e1']) (fun q hq => ?_)
        rw [e2] at hq
        rw [e1']
        rcases hEn q hq with w | w
        · exact Or.inl w
        · exact Or.inr ⟨by omega, by omega⟩
      · have hN : Nx A' (c ++ oi o).length 0 := ⟨by rw [e2], by rw [e2, e1'], fun q hq => by
          rw [e2] at hq
          rw [e1']
          rcases hEn q hq with w | w
          · exact w
          · omega⟩
        rcases e with e | e
        · rw [e]; exact .prt (by rw [e1']) hN
        · rw [e]; exact .ret (by rw [e1']))
    have hle : Le A2 A c.length := Le.of (fun k hk => (k2 k (by omega)).trans (g2 k hk))
    refine ⟨A2, ⟨k1, ?_, BK.cg hle (by show c.length ≤ (c ++ oi o ++ [fin]).length; rw [lenc, hlen]; omega) hE h.bk, h.len, trivial, fun h => absurd h (by show ¬ 8 ≤ 6; omega), fun h => absurd h (by show ¬ 6 ≤ 5; omega), fun _ => ?_, fun h => absurd h (by show ¬ 9 ≤ 6; omega)⟩, hle⟩
    · rw [hgt_nil (by omega) (by omega)]; exact k3
    · show (c ++ oi o ++ [fin]).length + 0 + 0 + 5 ≤ j + 1
      rw [lenc, hlen]
      omega
  · intro st ca le cn o F ρ γ c V eX eY h9 ht hF
    cases eX
    cases eY
    obtain ⟨f1, -, f3, f4⟩ : FI R st j ((ca, le, cn, o) :: F) := h.fi
    have hc : A c.length = (_, lp V.1, env R V.2.2.2.2.2.2.1 V.2.2.2.2.2.2.2.1 V.1) := h.cur
    rw [hgt_o h9 (by omega)] at hc
    have hht : 2 * (o.length + (cn - 1) + hS F) + 5 + (if st = 11 ∨ st = 12 then 1 else 0) + f ≤ j := h.ht (by dsimp only; omega) (by dsimp only; omega)
    have hbu : c.length + (o.length + (if ca = 0 then 0 else 1) + oS F) + (if 9 ≤ st ∧ st ≤ 12 then 1 else 0) + 5 ≤ j := h.bu (by dsimp only; omega)
    rw [if_pos h9] at hht
    rw [if_pos (show 9 ≤ st ∧ st ≤ 12 by omega)] at hbu
    have hhs : hS ((ca, le, cn, o) :: F) = o.length + (cn - 1) + hS F := rfl
    rw [hhs] at hc
    have hlp := (h.cv.2.1 c.length (Nat.le_refl _) h.cv.1).2
    rw [hc] at hlp
    have hlp' : lp V.1 ≤ 4 := hlp
    obtain ⟨A1, g1, g2, g3⟩ := h.cv.ops o A c f1.2.2.1 (by rw [hc]; show o.length + 1 ≤ o.length + (cn - 1) + hS F + 1; omega)
    rw [hc] at g3
    have g3' : A1 (c ++ oi o).length = (cn - 1 + hS F + 1, lp V.1, env R V.2.2.2.2.2.2.1 V.2.2.2.2.2.2.2.1 V.1) := by
      rw [g3]
      show (o.length + (cn - 1) + hS F + 1 - o.length, _, _) = _
      rw [show o.length + (cn - 1) + hS F + 1 - o.length = cn - 1 + hS F + 1 by omega]
    have hlen : (c ++ oi o).length = c.length + o.length := by rw [List.length_append, oi_len]
    have fin2 : ∀ (A3 : Nat → Ant) (c3 : Cds) (γ' : Nat → Nat), Cv W R Γ b A3 c3 V.1 → (∀ k, k ≤ c.length → A3 k = A k) → A3 c3.length = (hS F + 1, lp V.1, env R V.2.2.2.2.2.2.1 V.2.2.2.2.2.2.2.1 V.1) → c.length ≤ c3.length → c3.length ≤ c.length + o.length + (if ca = 0 then 0 else 1) → GI cl W R Γ f b (j + 1) A3 (11, F, ρ, γ', c3, V) ∧ Le A3 A c.length := by
      intro A3 c3 γ' m1 m2 m3 m4 m5
      refine ⟨⟨m1, ?_, h.bk.cg0 (Le.of m2) m4, h.len, f4.up.fi (by dsimp only; omega), fun _ _ => (h.tm (by dsimp only; omega) (by dsimp only; omega)).le (Le.of m2) m4 (by show 9 ≤ 11; omega), fun h => absurd h (by show ¬ 11 ≤ 5; omega), fun _ => ?_, fun _ _ => ?_⟩, Le.of m2⟩
      · rw [hgt_11]; exact m3
      · show c3.length + oS F + 1 + 5 ≤ j + 1
        omega
      · show 2 * hS F + 5 + 1 + f ≤ j + 1
        omega
    by_cases hca : ca = 0
    · have hcn : cn = 0 := f1.2.1 hca
      rw [if_pos hca, if_pos hca, List.append_nil]
      exact ⟨A1, fin2 A1 _ _ g1 g2 (by rw [g3', hcn, show 0 - 1 + hS F + 1 = hS F + 1 by omega]) (by omega) (by omega)⟩
    · have hcn : 1 ≤ cn := f3 (by omega) hca
      have hcaj : ca < j := f1.1
      obtain ⟨hd1, hd2⟩ : (∀ z, z ∈ F → z.1 < ca) ∧ R (ca - 1) = 6 := f1.2.2.2.2.1 hca
      have hG : Γ (ca - 1) = (if ca = 0 then γ else upN γ (ca - 1) cn) (ca - 1) := hGa (ca - 1) (by omega) (fun hm => by
        obtain ⟨z, hz, e⟩ := List.mem_map.mp hm
        have := hd1 z hz
        omega)
      rw [if_neg hca, uN_eq] at hG
      rw [if_neg hca, if_neg hca]
      obtain ⟨A2, k1, k2, k3⟩ := g1.app (p := (3, Int32.ofNat (ca - 1))) (hS F + 1, lp V.1, env R V.2.2.2.2.2.2.1 V.2.2.2.2.2.2.2.1 V.1) (by show hS F + 1 ≤ 118; omega) hlp' (fun A' e1 e2 => by
        have e1' : A' (c ++ oi o).length = _ := (e1 _ (Nat.le_refl _)).trans g3'
        refine .cal (ca - 1) (by omega) hd2 (by rw [hG, e1']; show cn ≤ cn - 1 + hS F + 1; omega) ⟨?_, by rw [e2, e1'], fun q hq => by rw [e2] at hq; rw [e1']; exact hq⟩
        rw [e2, e1', hG]
        show hS F + 1 = cn - 1 + hS F + 1 - cn + 1
        omega)
      exact ⟨A2, fin2 A2 _ _ k1 (fun k hk => (k2 k (by omega)).trans (g2 k hk)) k3 (by rw [lenc, hlen]; omega) (by rw [lenc, hlen, if_neg hca]; omega)⟩
  · intro st ca le cn o F ρ γ c V eX eY h9 ht hF hca
    cases eX
    cases eY
    obtain ⟨f1, -, f3, f4⟩ : FI R st j ((ca, le, cn, o) :: F) := h.fi
    have hcn : 1 ≤ cn := f3 (by omega) hca
    have hc : A c.length = (_, lp V.1, env R V.2.2.2.2.2.2.1 V.2.2.2.2.2.2.2.1 V.1) := h.cur
    rw [hgt_o h9 (by omega)] at hc
    have hht : 2 * (o.length + (cn - 1) + hS F) + 5 + (if st = 11 ∨ st = 12 then 1 else 0) + f ≤ j := h.ht (by dsimp only; omega) (by dsimp only; omega)
    have hbu : c.length + (o.length + (if ca = 0 then 0 else 1) + oS F) + (if 9 ≤ st ∧ st ≤ 12 then 1 else 0) + 5 ≤ j := h.bu (by dsimp only; omega)
    rw [if_pos h9] at hht
    rw [if_pos (show 9 ≤ st ∧ st ≤ 12 by omega)] at hbu
    have hhs : hS ((ca, le, cn, o) :: F) = o.length + (cn - 1) + hS F := rfl
    rw [hhs] at hc
    obtain ⟨A1, g1, g2, g3⟩ := h.cv.ops o A c f1.2.2.1 (by rw [hc]; show o.length + 1 ≤ o.length + (cn - 1) + hS F + 1; omega)
    rw [hc] at g3
    have hlen : (c ++ oi o).length = c.length + o.length := by rw [List.length_append, oi_len]
    refine ⟨A1, ⟨g1, ?_, h.bk.cg0 (Le.of g2) (by show c.length ≤ (c ++ oi o).length; omega), h.len, ⟨⟨Nat.lt_succ_of_lt f1.1, fun e => absurd e hca, fun t h => absurd h List.not_mem_nil, List.Pairwise.nil, f1.2.2.2.2⟩, fun h => absurd h (by dsimp only; omega), fun _ _ => by show 1 ≤ cn + 1; omega, f4.up⟩, fun _ _ => (h.tm (by dsimp only; omega) (by dsimp only; omega)).le (Le.of g2) (by show c.length ≤ (c ++ oi o).length; omega) (by show 9 ≤ 9; omega), fun h => absurd h (by show ¬ 9 ≤ 5; omega), fun _ => ?_, fun _ _ => ?_⟩, Le.of g2⟩
    · rw [hgt_9 (Or.inl rfl)]
      refine g3.trans ?_
      show (o.length + (cn - 1) + hS F + 1 - o.length, _, _) = (0 + (cn + 1 - 1) + hS F, _, _)
      rw [show o.length + (cn - 1) + hS F + 1 - o.length = 0 + (cn + 1 - 1) + hS F by omega]
    · show (c ++ oi o).length + (0 + (if ca = 0 then 0 else 1) + oS F) + 1 + 5 ≤ j + 1
      omega
    · show 2 * (0 + (cn + 1 - 1) + hS F) + 5 + 0 + f ≤ j + 1
      omega
end
