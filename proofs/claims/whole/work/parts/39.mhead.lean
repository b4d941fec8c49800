/-! the model's statements and heads -/
section
variable {cl nm sk : Nat → Nat} {N f m p : Nat} {r : RS} {j : Nat} {ρ γ : Nat → Nat} {c : Cds} {V : VS}
theorem mo_go {r : RS} {I : Nat → Int32} {bl : List (Nat × Nat × Nat)} {en ln np st st' : Nat} {σ α ω : Nat → Nat} (hst' : st' ≤ 7) (hI : ∀ i, i ≠ 10 → I i = r.2.1 i) (h : MZ cl nm sk N f p r j st [] ρ γ bl en ln np σ α ω) : MXk cl nm sk N f p (r.1, va_up I 6 (Int32.ofNat st'), r.2.2) (j + 1) (st', [], ρ, γ, c, bl, en, ln, V.2.2.2.1, V.2.2.2.2.1, np, σ, α, ω) := by
  obtain ⟨hM, h16, -, hB, hE, hL, hRo, hGi, hSc, hSi, hUn, h19, hnp, h12⟩ := id h
  exact ⟨rfl, h.same (fun i _ _ _ => rfl) (hI 3 (by decide)) rfl (by show st' ≤ 13; omega) (hB.cg (hI 7 (by decide)) rfl (by omega)) (fun a => absurd (show 9 ≤ st' from a) (by omega)) (fun a => absurd (show 8 ≤ st' from a) (by omega)) (fun k h => h) (fun a h => absurd h List.not_mem_nil) (by show st' ≠ 12; omega)⟩
theorem mo_hd1 {r : RS} {bl : List (Nat × Nat × Nat)} {en ln np st : Nat} {σ α ω : Nat → Nat} (h : MZ cl nm sk N f p r j st [] ρ γ bl en ln np σ α ω) : MXk cl nm sk N f p (va_up r.1 9 (upd (r.1 9) j 1), va_up r.2.1 6 1, r.2.2) (j + 1) (1, [], upN ρ j 1, γ, c, bl, en, ln, V.2.2.2.1, V.2.2.2.2.1, np, σ, α, ω) := by
  obtain ⟨hM, h16, -, hB, hE, hL, hRo, hGi, hSc, hSi, hUn, h19, hnp, h12⟩ := id h
  exact ⟨rfl, h.role (a := 1) (t := 1) (fun i a => up_ne a) rfl rfl (by omega) (by omega) (by omega) (by omega) rfl rfl (by show 1 ≤ 13; omega) (hB.cg rfl rfl (by omega)) (fun a => absurd (show 9 ≤ 1 from a) (by omega)) (fun a => absurd (show 8 ≤ 1 from a) (by omega)) (fun k h => h) (fun a h => absurd h List.not_mem_nil) (fun a => absurd (show 1 = 12 from a) (by omega))⟩
theorem mo_asg {r : RS} {bl : List (Nat × Nat × Nat)} {en ln np st : Nat} {σ α ω : Nat → Nat} {y : Int32 × Int32} (h : MZ cl nm sk N f p r j st [] ρ γ bl en ln np σ α ω) : MXk cl nm sk N f p (va_up r.1 9 (upd (r.1 9) j 4), va_up (va_up r.2.1 10 (-1)) 6 8, r.2.2) (j + 1) (8, [], upN ρ j 4, γ, c, bl, 59, 0, 0, y, np, σ, α, ω) := by
  obtain ⟨hM, h16, -, hB, hE, hL, hRo, hGi, hSc, hSi, hUn, h19, hnp, h12⟩ := id h
  exact ⟨rfl, h.role (a := 4) (t := 4) (fun i a => up_ne a) rfl rfl (by omega) (by omega) (by omega) (by omega) rfl rfl (by show 8 ≤ 13; omega) (hB.cg rfl rfl (by omega)) (fun a => absurd (show 9 ≤ 8 from a) (by omega)) (fun _ _ => ⟨rfl, by show 0 ≤ j + 1; omega, fun a => absurd rfl a⟩) (fun k h => h) (fun a h => absurd h List.not_mem_nil) (fun a => absurd (show 8 = 12 from a) (by omega))⟩
theorem mo_let {r : RS} {o te ag : Nat} {B : List (Nat × Nat × Nat)} {en ln np st : Nat} {σ α ω : Nat → Nat} {y : Int32 × Int32} (hfj : f < j) (h : MZ cl nm sk N f p r j st [] ρ γ ((o, te, ag) :: B) en ln np σ α ω) : MXk cl nm sk N f p (va_up (va_up r.1 9 (upd (r.1 9) j 3)) 13 (upd (r.1 13) j (Int32.ofNat o)), va_up (va_up r.2.1 10 (Int32.ofNat j)) 6 8, r.2.2) (j + 1) (8, [], upN ρ j 3, γ, c, (o, te, ag) :: B, 59, j + 1, 0, y, np, upN σ j o, α, ω) := by
  obtain ⟨hM, h16, -, hB, hE, hL, hRo, hGi, hSc, hSi, hUn, h19, hnp, h12⟩ := h
  have h0 := hRo.2.1 j (Nat.le_refl _)
  obtain ⟨b1, b2, b3, b4, b5, b6, b7, b8⟩ := id hB
  have b4' : f < o := b4
  have b5' : o < j := b5
  have b6' : ω o = 0 := b6
  refine ⟨rfl, hM.cg rfl rfl rfl rfl rfl, h16, by show 8 ≤ 13; omega, hB.cg rfl rfl (by omega), fun a => absurd (show 9 ≤ 8 from a) (by omega), fun _ _ => ⟨rfl, by show j + 1 ≤ j + 1; omega, fun _ => by show f + 1 < j + 1; omega⟩, hRo.st rfl rfl (by omega), hGi.st rfl (fun k h => h) (fun a h => absurd h List.not_mem_nil) (by omega) h0, ⟨fun k a b c' => ?_, fun k c' => ?_⟩, hSi.cg rfl, ⟨fun k a b => ?_, fun k hk => hUn.2 k (by omega)⟩, h19, by show np ≤ j + 1; omega, fun a => absurd (show 8 = 12 from a) (by omega)⟩
  · show upd (r.1 13) j (Int32.ofNat o) k = Int32.ofNat (upN σ j o k)
    by_cases hk : k = j
    · rw [hk, ud_eq, uN_eq]
    · have c2 : upN ρ j 3 k = 2 ∨ upN ρ j 3 k = 3 := c'
      rw [uN_ne hk] at c2
      rw [ud_ne hk, uN_ne hk]; exact hSc.1 k a b c2
  · show f ≤ upN σ j o k ∧ upN σ j o k < k
    by_cases hk : k = j
    · rw [hk, uN_eq]; exact ⟨by omega, by omega⟩
    · have c2 : upN ρ j 3 k = 3 := c'
      rw [uN_ne hk] at c2
      rw [uN_ne hk]; exact hSc.2 k c2
  · show r.1 15 k = if upN ρ j 3 k = 3 then Int32.ofNat (ω (upN σ j o k)) else 0
    by_cases hk : k = j
    · rw [hk, uN_eq, uN_eq, if_pos rfl, b6', ← hk, hUn.1 k a b, hk, if_neg (by omega)]; rfl
    · rw [uN_ne hk, uN_ne hk]; exact hUn.1 k a b
theorem mo_prm {r : RS} {bl : List (Nat × Nat × Nat)} {en ln np st : Nat} {σ α ω : Nat → Nat} (hnpj : np ≤ 240) (h : MZ cl nm sk N f p r j st [] ρ γ bl en ln np σ α ω) : MXk cl nm sk N f p (va_up (va_up (va_up r.1 9 (upd (r.1 9) j 2)) 13 (upd (r.1 13) j (Int32.ofNat f))) 19 (upd (r.1 19) p (Int32.ofNat (np + 1))), va_up r.2.1 6 3, r.2.2) (j + 1) (3, [], upN ρ j 2, γ, c, bl, en, ln, V.2.2.2.1, V.2.2.2.2.1, np + 1, upN σ j f, α, ω) := by
  obtain ⟨hM, h16, -, hB, hE, hL, hRo, hGi, hSc, hSi, hUn, h19, hnp, h12⟩ := h
  have h0 := hRo.2.1 j (Nat.le_refl _)
  refine ⟨rfl, hM.cg rfl rfl rfl rfl rfl, h16, by show 3 ≤ 13; omega, hB.cg rfl rfl (by omega), fun a => absurd (show 9 ≤ 3 from a) (by omega), fun a => absurd (show 8 ≤ 3 from a) (by omega), hRo.st rfl rfl (by omega), hGi.st rfl (fun k h => h) (fun a h => absurd h List.not_mem_nil) (by omega) h0, ⟨fun k a b c' => ?_, fun k c' => ?_⟩, hSi.cg rfl, ⟨fun k a b => ?_, fun k hk => hUn.2 k (by omega)⟩, ud_eq, by show np + 1 ≤ j + 1; omega, fun a => absurd (show 3 = 12 from a) (by omega)⟩
  · show upd (r.1 13) j (Int32.ofNat f) k = Int32.ofNat (upN σ j f k)
    by_cases hk : k = j
    · rw [hk, ud_eq, uN_eq]
    · have c2 : upN ρ j 2 k = 2 ∨ upN ρ j 2 k = 3 := c'
      rw [uN_ne hk] at c2
      rw [ud_ne hk, uN_ne hk]; exact hSc.1 k a b c2
  · show f ≤ upN σ j f k ∧ upN σ j f k < k
    have c2 : upN ρ j 2 k = 3 := c'
    have hk : k ≠ j := fun hk => by rw [hk, uN_eq] at c2; omega
    rw [uN_ne hk] at c2
    rw [uN_ne hk]; exact hSc.2 k c2
  · show r.1 15 k = if upN ρ j 2 k = 3 then Int32.ofNat (ω (upN σ j f k)) else 0
    by_cases hk : k = j
    · rw [hk, uN_eq, if_neg (by omega), ← hk, hUn.1 k a b, hk, if_neg (by omega)]
    · rw [uN_ne hk, uN_ne hk]; exact hUn.1 k a b
theorem mo_cls {r r' : RS} {o te ag : Nat} {B : List (Nat × Nat × Nat)} {en ln np st : Nat} {σ α ω : Nat → Nat} (hjN : j ≤ N) (hN : N ≤ 240) (hst : st = 6) (h : MZ cl nm sk N f p r j st [] ρ γ ((o, te, ag) :: B) en ln np σ α ω) (hA : ∀ i, i ≠ 15 → r'.1 i = r.1 i) (h15 : ∀ k, r'.1 15 k = if o ≤ k ∧ k < j ∧ r.1 9 k = 3 ∧ r.1 13 k = Int32.ofNat o then Int32.ofNat j else r.1 15 k) (h7 : r'.2.1 7 = Int32.ofNat B.length) (h6 : r'.2.1 6 = Int32.ofNat (if B = [] then 13 else 6)) (h3 : r'.2.1 3 = r.2.1 3) (hl : r'.2.2 = r.2.2) : MXk cl nm sk N f p r' (j + 1) (if B = [] then 13 else 6, [], ρ, γ, c, B, en, ln, V.2.2.2.1, V.2.2.2.2.1, np, σ, α, upN ω o j) := by
  obtain ⟨hM, h16, -, hB, hE, hL, hRo, hGi, hSc, hSi, hUn, h19, hnp, h12⟩ := h
  obtain ⟨b1, b2, b3, b4, b5, b6, b7, b8⟩ := id hB
  have b4' : f < o := b4
  have b5' : o < j := b5
  have b2' : B.length + 1 ≤ 4 := b2
  have hst' : (if B = [] then 13 else 6) = 13 ∨ (if B = [] then 13 else 6) = 6 := by
    split
    · exact Or.inl rfl
    · exact Or.inr rfl
  refine ⟨h6, hM.cg h3 hl (hA 5 (by decide)) (hA 6 (by decide)) (hA 2 (by decide)), by rw [hA 16 (by decide)]; exact h16, by show (if B = [] then 13 else 6) ≤ 13; omega, ⟨h7, by show B.length ≤ 4; omega, b8.cg (fun i _ => by rw [hA 21 (by decide)]) (fun y hy h0 => ?_) (by omega)⟩, fun a a2 => absurd (show 9 ≤ (if B = [] then 13 else 6) from a) (by have : (if B = [] then 13 else 6) ≤ 12 := a2; omega), fun a a2 => absurd (show 8 ≤ (if B = [] then 13 else 6) from a) (by have : (if B = [] then 13 else 6) ≤ 12 := a2; omega), hRo.cg (hA 9 (by decide)) (by omega), hGi.cg (hA 12 (by decide)) (fun k h => h) (fun a h => absurd h List.not_mem_nil), hSc.cg (hA 13 (by decide)), hSi.cg (hA 14 (by decide)), ⟨fun k a b => ?_, fun k hk => ?_⟩, by rw [hA 19 (by decide)]; exact h19, by show np ≤ j + 1; omega, fun a => absurd (show (if B = [] then 13 else 6) = 12 from a) (by omega)⟩
  · have : y.1 < o := b7 y hy
    exact (uN_ne (show y.1 ≠ o by omega)).trans h0
  · rw [h15 k, hRo.1 k a b]
    show _ = if ρ k = 3 then Int32.ofNat (upN ω o j (σ k)) else 0
    have hr6 := hRo.2.2 k
    have q3 : (Int32.ofNat (ρ k) = 3) = (ρ k = 3) := o_eq (b := 3) (by omega) (by omega)
    simp only [q3]
    by_cases h3 : ρ k = 3
    · obtain ⟨s1, s2⟩ := hSc.2 k h3
      have hkj : k < j := by
        by_cases hk : k < j
        · exact hk
        · have := hRo.2.1 k (by omega)
          omega
      rw [hSc.1 k a b (Or.inr h3), if_pos h3]
      by_cases ho : σ k = o
      · rw [ho, uN_eq, if_pos ⟨by omega, hkj, h3, rfl⟩]
      · rw [uN_ne ho, if_neg (fun h => ho ((o_eq (by omega) (by omega)).mp h.2.2.2)), hUn.1 k a b, if_pos h3]
    · rw [if_neg (fun h => h3 h.2.2.1), if_neg h3, hUn.1 k a b, if_neg h3]
  · show upN ω o j k = 0
    exact (uN_ne (show k ≠ o by omega)).trans (hUn.2 k (by omega))
end
