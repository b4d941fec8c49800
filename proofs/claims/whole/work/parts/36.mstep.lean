/-! the model's steps -/
theorem nb0 : vp_nar .boolean 0 = 0 := by decide
theorem nb1 : vp_nar .boolean 1 = 1 := by decide
theorem mob_yes {r : RS} {n : Nat} {a : Int32} (h7 : r.2.1 7 = Int32.ofNat n) (hn : n < 4) : f_Mo_openBlock a r = some (1, (va_up r.1 21 (upd (r.1 21) n a), va_up (va_up r.2.1 7 (Int32.ofNat (n + 1))) 6 6, r.2.2)) := by
  unfold f_Mo_openBlock f_Mo_goesTo
  rw [h7, if_neg (show ¬ Int32.ofNat n = 4 by intro h; have := (o_eq (b := 4) (by omega) (by omega)).mp h; omega), if_pos (o_inb (by omega) (by omega)), o_nat (by omega), onat1 (by omega), Option.bind_some]
  dsimp only
  rw [isb1]; rfl
theorem mob_no {r : RS} {a : Int32} (h7 : r.2.1 7 = Int32.ofNat 4) : f_Mo_openBlock a r = some (0, r) := by
  unfold f_Mo_openBlock
  rw [h7, if_pos (show Int32.ofNat 4 = 4 from rfl)]
theorem mex {r : RS} {a : Int32} : f_Mo_expression a r = some (1, (va_up r.1 23 (upd (r.1 23) 0 0), va_up (va_up (va_up r.2.1 9 a) 8 0) 6 9, r.2.2)) := by
  unfold f_Mo_expression f_Mo_goesTo
  rw [nb0, Option.bind_some]
  dsimp only
  rw [isb1]; rfl
theorem mof_yes {r : RS} {n : Nat} {a : Int32} (h8 : r.2.1 8 = Int32.ofNat n) (hn : n < 4) : f_Mo_openFrame a r = some (1, (va_up (va_up r.1 22 (upd (r.1 22) (n + 1) a)) 23 (upd (r.1 23) (n + 1) 0), va_up (va_up r.2.1 8 (Int32.ofNat (n + 1))) 6 (if 0 ≤ a then 10 else 9), r.2.2)) := by
  unfold f_Mo_openFrame f_Mo_goesTo
  rw [h8, if_neg (show ¬ Int32.ofNat n = 4 by intro h; have := (o_eq (b := 4) (by omega) (by omega)).mp h; omega), onat1 (by omega), if_pos (o_inb (by omega) (by omega)), if_pos (o_inb (by omega) (by omega)), o_nat (by omega), nb0]
  simp only [Option.bind_some, isb1, ↓reduceIte]
  split <;> rfl
theorem mof_no {r : RS} {a : Int32} (h8 : r.2.1 8 = Int32.ofNat 4) : f_Mo_openFrame a r = some (0, r) := by
  unfold f_Mo_openFrame
  rw [h8, if_pos (show Int32.ofNat 4 = 4 from rfl)]
theorem mcf {r : RS} {n : Nat} (h8 : r.2.1 8 = Int32.ofNat (n + 1)) : f_Mo_closeFrame r = some (1, (r.1, va_up (va_up r.2.1 8 (Int32.ofNat n)) 6 11, r.2.2)) := by
  unfold f_Mo_closeFrame f_Mo_goesTo
  rw [h8, (show Int32.ofNat (n + 1) - 1 = Int32.ofNat n from o_sub (a := n + 1) (b := 1) (by omega)), Option.bind_some]
  dsimp only
  rw [isb1]; rfl
/-- What a step must answer. -/
def MO (cl nm sk : Nat → Nat) (N f m p : Nat) (r : RS) (j : Nat) (x : XS) (res : Option (Int32 × RS)) : Prop := ∃ (q : Int32) (r' : RS), res = some (q, r') ∧ FrP p f m r r' ∧ ((∃ x', stp cl nm f j x = some x' ∧ q = 1 ∧ MXk cl nm sk N f p r' (j + 1) x') ∨ stp cl nm f j x = none ∧ q = 0)
theorem MO.bd {cl nm sk : Nat → Nat} {N f m p : Nat} {r : RS} {j : Nat} {x : XS} {res : Option (Int32 × RS)} (h : MO cl nm sk N f m p r j x res) : MO cl nm sk N f m p r j x (res.bind (fun q => if isb q.1 then some (q.1, q.2) else none)) := by
  obtain ⟨q, r', h1, h2, h3⟩ := h
  refine ⟨q, r', ?_, h2, h3⟩
  rw [h1, Option.bind_some]
  dsimp only
  rcases h3 with ⟨x', -, rfl, -⟩ | ⟨-, rfl⟩
  · rw [isb1]; rfl
  · rw [isb0]; rfl
theorem MO.bc {cl nm sk : Nat → Nat} {N f m p : Nat} {r : RS} {j : Nat} {x : XS} {res : Option (Int32 × RS)} (h : MO cl nm sk N f m p r j x res) : MO cl nm sk N f m p r j x (res.bind (fun q => if q.1 = 0 then some (0, q.2) else some (1, q.2))) := by
  obtain ⟨q, r', h1, h2, h3⟩ := h
  refine ⟨q, r', ?_, h2, h3⟩
  rw [h1, Option.bind_some]
  dsimp only
  rcases h3 with ⟨x', -, rfl, -⟩ | ⟨-, rfl⟩
  · rw [if_neg ne10]
  · rw [if_pos rfl]
/-- One changed cell within the part. -/
theorem FrP.one {p f m : Nat} {r r' : RS} (hA : ∀ i, i ≠ 9 → i ≠ 12 → i ≠ 13 → i ≠ 14 → i ≠ 15 → i ≠ 19 → i ≠ 21 → i ≠ 22 → i ≠ 23 → r'.1 i = r.1 i) (hI : ∀ i, i ≠ 6 → i ≠ 7 → i ≠ 8 → i ≠ 9 → i ≠ 10 → r'.2.1 i = r.2.1 i) (hl : r'.2.2 = r.2.2) (hk : ∀ i k, i ≠ 19 → i ≠ 21 → i ≠ 22 → i ≠ 23 → ¬ (f ≤ k ∧ k < m) → r'.1 i k = r.1 i k) (h19 : ∀ k, k ≠ p → r'.1 19 k = r.1 19 k) : FrP p f m r r' := ⟨hA, hI, hl, fun k h => ⟨hk 9 k (by decide) (by decide) (by decide) (by decide) h, hk 12 k (by decide) (by decide) (by decide) (by decide) h, hk 13 k (by decide) (by decide) (by decide) (by decide) h, hk 14 k (by decide) (by decide) (by decide) (by decide) h, hk 15 k (by decide) (by decide) (by decide) (by decide) h⟩, h19⟩
theorem FrP.ints {p f m : Nat} {r r' : RS} (hA : ∀ i, i ≠ 21 → i ≠ 22 → i ≠ 23 → r'.1 i = r.1 i) (hI : ∀ i, i ≠ 6 → i ≠ 7 → i ≠ 8 → i ≠ 9 → i ≠ 10 → r'.2.1 i = r.2.1 i) (hl : r'.2.2 = r.2.2) : FrP p f m r r' := FrP.one (fun i _ _ _ _ _ _ a b c => hA i a b c) hI hl (fun i k _ a b c _ => congrFun (hA i a b c) k) (fun k _ => congrFun (hA 19 (by decide) (by decide) (by decide)) k)
theorem FrP.cell {p f m : Nat} {r r' : RS} {i0 k0 : Nat} {v : Int32} (hi : i0 = 9 ∨ i0 = 12 ∨ i0 = 13 ∨ i0 = 14 ∨ i0 = 15) (hA : r'.1 = va_up r.1 i0 (upd (r.1 i0) k0 v)) (hk : f ≤ k0 ∧ k0 < m) (hI : ∀ i, i ≠ 6 → i ≠ 7 → i ≠ 8 → i ≠ 9 → i ≠ 10 → r'.2.1 i = r.2.1 i) (hl : r'.2.2 = r.2.2) : FrP p f m r r' := by
  refine FrP.one (fun i a b c e g _ _ _ _ => ?_) hI hl (fun i k _ _ _ _ h => ?_) (fun k _ => ?_)
  · rw [hA]; exact up_ne (by omega)
  · rw [hA]
    by_cases h2 : i = i0
    · subst h2; rw [up_eq]; exact ud_ne (fun h3 => h (by rw [h3]; exact hk))
    · rw [up_ne h2]
  · rw [hA]; exact congrFun (up_ne (by omega)) k
section
variable {cl nm sk : Nat → Nat} {N f m p : Nat} {r : RS} {j : Nat} {ρ γ : Nat → Nat} {c : Cds} {V : VS}
/-- A number stands for an operand. -/
theorem mo_num {r : RS} {ca le cn : Nat} {o : List Nat} {F : List Fm} {bl : List (Nat × Nat × Nat)} {en ln np st : Nat} {σ α ω : Nat → Nat} (h9 : st = 9 ∨ st = 11 ∨ st = 12) {st' : Nat} (hst' : st' = 9 ∨ st' = 11) {le' : Nat} {o' : List Nat} (hle : le' ≤ 1) {A' : Nat → Nat → Int32} (hA' : ∀ i, i ≠ 23 → A' i = r.1 i) (h23 : ∀ i, i ≠ F.length → A' 23 i = r.1 23 i) (h23b : A' 23 F.length = Int32.ofNat le') (h : MZ cl nm sk N f p r j st ((ca, le, cn, o) :: F) ρ γ bl en ln np σ α ω) : MXk cl nm sk N f p (A', va_up r.2.1 6 (Int32.ofNat st'), r.2.2) (j + 1) (st', (ca, le', cn, o') :: F, ρ, γ, c, bl, en, ln, V.2.2.2.1, V.2.2.2.2.1, np, σ, α, ω) := by
  obtain ⟨hM, h16, -, hB, hE, hL, hrest⟩ := id h
  obtain ⟨e1, e2, e3, e4, e5, ⟨f1, f2, f3, f4, f5, f6, f7, f8⟩, -⟩ := hE (by omega) (by omega)
  refine ⟨rfl, h.same (fun i _ _ a => hA' i a) rfl rfl (by show st' ≤ 13; omega) (hB.cg rfl (hA' 21 (by decide)) (by omega)) (fun _ _ => ⟨List.cons_ne_nil _ _, e2, e3, e4, e5, ⟨?_, h23b, hle, by show ca < j + 1; have : ca < j := f4; omega, f5, ?_, f7, ?_⟩, fun h => ?_⟩) (fun _ _ => ?_) (fun k h => h) (fun a h _ => h) (by show st' ≠ 12; omega)⟩
  · show F ≠ [] → A' 22 F.length = pm ca
    rw [hA' 22 (by decide)]; exact f1
  · show ca ≠ 0 → f < ca ∧ cn < j + 1 ∧ A' 12 (ca - 1) = Int32.ofNat cn
    rw [hA' 12 (by decide)]
    exact fun h => ⟨(f6 h).1, Nat.lt_succ_of_lt (f6 h).2.1, (f6 h).2.2⟩
  · exact f8.cg (fun i hi => ⟨congrFun (hA' 22 (by decide)) i, h23 i (by omega)⟩) (fun y _ _ => congrFun (hA' 12 (by decide)) _) (by omega)
  · have : st' = 10 := h
    omega
  · obtain ⟨g1, g2, g3⟩ := hL (by omega) (by omega)
    exact ⟨g1, by show ln ≤ j + 1; omega, g3⟩
theorem mo_name {r : RS} {ca le cn : Nat} {o : List Nat} {F : List Fm} {bl : List (Nat × Nat × Nat)} {en ln np st : Nat} {σ α ω : Nat → Nat} (h9 : st = 9) (hfj : f < j) (h : MZ cl nm sk N f p r j st ((ca, le, cn, o) :: F) ρ γ bl en ln np σ α ω) : MXk cl nm sk N f p (va_up r.1 9 (upd (r.1 9) j 5), va_up r.2.1 6 12, r.2.2) (j + 1) (12, (ca, le, cn, o) :: F, upN ρ j 5, γ, c, bl, en, ln, V.2.2.2.1, V.2.2.2.2.1, np, σ, α, ω) := by
  obtain ⟨hM, h16, -, hB, hE, hL, hrest⟩ := id h
  obtain ⟨e1, e2, e3, e4, e5, e6, -⟩ := hE (by omega) (by omega)
  refine ⟨rfl, h.role (a := 5) (t := 5) (fun i a => up_ne a) rfl rfl (by omega) (by omega) (by omega) (by omega) rfl rfl (by show 12 ≤ 13; omega) (hB.cg rfl rfl (by omega)) (fun _ _ => ⟨List.cons_ne_nil _ _, e2, e3, e4, e5, e6.cg (fun i _ => ⟨rfl, rfl⟩) (fun _ _ _ => rfl) (by omega), fun h => absurd (show (12 : Nat) = 10 from h) (by omega)⟩) (fun _ _ => ?_) (fun k h => h) (fun a h _ => h) (fun _ => ⟨rfl, hfj⟩)⟩
  obtain ⟨g1, g2, g3⟩ := hL (by omega) (by omega)
  exact ⟨g1, by show ln ≤ j + 1; omega, g3⟩
theorem MF.lt {f : Nat} {r : RS} {j : Nat} : ∀ {fr : List Fm}, MF f r j fr → ∀ y, y ∈ fr → y.1 < j := by
  intro fr
  induction fr with
  | nil => intro _ y hy; exact absurd hy List.not_mem_nil
  | cons x fr ih =>
    intro hx y hy
    rcases List.mem_cons.mp hy with h5 | h5
    · rw [h5]; exact hx.2.2.2.1
    · exact ih hx.2.2.2.2.2.2.2 y h5
theorem mo_par {r : RS} {ca le cn : Nat} {o : List Nat} {F : List Fm} {bl : List (Nat × Nat × Nat)} {en ln np st : Nat} {σ α ω : Nat → Nat} (hst : st = 9) (hF : F.length ≤ 3) (h : MZ cl nm sk N f p r j st ((ca, le, cn, o) :: F) ρ γ bl en ln np σ α ω) : MXk cl nm sk N f p (va_up (va_up r.1 22 (upd (r.1 22) (F.length + 1) (-1))) 23 (upd (r.1 23) (F.length + 1) 0), va_up (va_up r.2.1 8 (Int32.ofNat (F.length + 1))) 6 9, r.2.2) (j + 1) (9, (0, 0, 0, []) :: (ca, le, cn, o) :: F, ρ, γ, c, bl, en, ln, V.2.2.2.1, V.2.2.2.2.1, np, σ, α, ω) := by
  obtain ⟨hM, h16, -, hB, hE, hL, hRo, hGi, hSc, hSi, hUn, h19, hnp, h12⟩ := id h
  obtain ⟨e1, e2, e3, e4, e5, e6, -⟩ := hE (by omega) (by omega)
  obtain ⟨g1, g2, g3⟩ := hL (by omega) (by omega)
  have hMF : MF f (va_up (va_up r.1 22 (upd (r.1 22) (F.length + 1) (-1))) 23 (upd (r.1 23) (F.length + 1) 0), va_up (va_up r.2.1 8 (Int32.ofNat (F.length + 1))) 6 9, r.2.2) (j + 1) ((0, 0, 0, []) :: (ca, le, cn, o) :: F) := by
    refine ⟨fun _ => ud_eq, ud_eq, by show 0 ≤ 1; omega, by show 0 < j + 1; omega, fun _ => rfl, fun h1 => absurd rfl h1, fun y hy h1 => absurd rfl h1, ?_⟩
    refine e6.cg (fun i hi => ?_) (fun y _ _ => rfl) (by omega)
    rw [List.length_cons] at hi
    exact ⟨ud_ne (by omega), ud_ne (by omega)⟩
  refine ⟨rfl, h.same (fun i _ a b => (up_ne b).trans (up_ne a)) rfl rfl (by show 9 ≤ 13; omega) (hB.cg rfl rfl (by omega)) (fun _ _ => ⟨List.cons_ne_nil _ _, by show F.length + 1 + 1 ≤ 5; omega, rfl, e4, e5, hMF, fun h => absurd (show (9 : Nat) = 10 from h) (by omega)⟩) (fun _ _ => ⟨g1, by show ln ≤ j + 1; omega, g3⟩) (fun k h h1 => h (List.mem_cons_of_mem _ h1)) (fun a h h0 => by
    rcases List.mem_cons.mp h with h1 | h1
    · exact absurd h1 h0
    · exact h1) (by show (9 : Nat) ≠ 12; omega)⟩
theorem mo_call {r : RS} {ca le cn : Nat} {o : List Nat} {F : List Fm} {bl : List (Nat × Nat × Nat)} {en ln np st : Nat} {σ α ω : Nat → Nat} (hst : st = 12) (hF : F.length ≤ 3) (hjN : j ≤ N) (h : MZ cl nm sk N f p r j st ((ca, le, cn, o) :: F) ρ γ bl en ln np σ α ω) : MXk cl nm sk N f p (va_up (va_up (va_up r.1 9 (upd (r.1 9) (j - 1) 6)) 22 (upd (r.1 22) (F.length + 1) (Int32.ofNat (j - 1)))) 23 (upd (r.1 23) (F.length + 1) 0), va_up (va_up r.2.1 8 (Int32.ofNat (F.length + 1))) 6 10, r.2.2) (j + 1) (10, (j, 0, 0, []) :: (ca, le, cn, o) :: F, upN ρ (j - 1) 6, γ, c, bl, en, ln, V.2.2.2.1, V.2.2.2.2.1, np, σ, α, ω) := by
  obtain ⟨hM, h16, -, hB, hE, hL, hRo, hGi, hSc, hSi, hUn, h19, hnp, h12⟩ := id h
  obtain ⟨e1, e2, e3, e4, e5, e6, -⟩ := hE (by omega) (by omega)
  obtain ⟨g1, g2, g3⟩ := hL (by omega) (by omega)
  obtain ⟨z1, z2⟩ := h12 hst
  have hpm : Int32.ofNat (j - 1) = pm j := by
    obtain ⟨t, rfl⟩ : ∃ t, j = t + 1 := ⟨j - 1, by omega⟩
    rfl
  have hMF : MF f (va_up (va_up (va_up r.1 9 (upd (r.1 9) (j - 1) 6)) 22 (upd (r.1 22) (F.length + 1) (Int32.ofNat (j - 1)))) 23 (upd (r.1 23) (F.length + 1) 0), va_up (va_up r.2.1 8 (Int32.ofNat (F.length + 1))) 6 10, r.2.2) (j + 1) ((j, 0, 0, []) :: (ca, le, cn, o) :: F) := by
    refine ⟨fun _ => ud_eq.trans hpm, ud_eq, by show 0 ≤ 1; omega, by show j < j + 1; omega, fun h1 => absurd h1 (List.cons_ne_nil _ _), fun _ => ⟨by show f < j; omega, by show 0 < j + 1; omega, hGi.2.1 (j - 1) (by omega) (by omega) (by omega)⟩, fun y hy _ => e6.lt y hy, ?_⟩
    refine e6.cg (fun i hi => ?_) (fun y _ _ => rfl) (by omega)
    rw [List.length_cons] at hi
    exact ⟨ud_ne (by omega), ud_ne (by omega)⟩
  have hRo' : MRo N f (va_up (va_up (va_up r.1 9 (upd (r.1 9) (j - 1) 6)) 22 (upd (r.1 22) (F.length + 1) (Int32.ofNat (j - 1)))) 23 (upd (r.1 23) (F.length + 1) 0), va_up (va_up r.2.1 8 (Int32.ofNat (F.length + 1))) 6 10, r.2.2) (j + 1) (upN ρ (j - 1) 6) := by
    refine ⟨fun k a b => ?_, fun k hk => by rw [uN_ne (by omega)]; exact hRo.2.1 k (by omega), fun k => by
      by_cases hk : k = j - 1
      · rw [hk, uN_eq]; omega
      · rw [uN_ne hk]; exact hRo.2.2 k⟩
    show upd (r.1 9) (j - 1) 6 k = _
    by_cases hk : k = j - 1
    · subst hk; rw [ud_eq, uN_eq]; rfl
    · rw [ud_ne hk, uN_ne hk]; exact hRo.1 k a b
  refine ⟨rfl, hM.cg rfl rfl rfl rfl rfl, h16, by show 10 ≤ 13; omega, hB.cg rfl rfl (by omega), fun _ _ => ⟨List.cons_ne_nil _ _, by show F.length + 1 + 1 ≤ 5; omega, rfl, e4, e5, hMF, fun _ => ⟨j, 0, [], (ca, le, cn, o) :: F, rfl, by omega⟩⟩, fun _ _ => ⟨g1, by show ln ≤ j + 1; omega, g3⟩, hRo', ⟨fun k a b c' e => ?_, fun k a b c' => ?_, fun a ha h0 => ?_⟩, ⟨fun k a b c' => ?_, fun k c' => ?_⟩, hSi, ⟨fun k a b => ?_, fun k hk => hUn.2 k (by omega)⟩, h19, by show np ≤ j + 1; omega, fun h => absurd (show (10 : Nat) = 12 from h) (by omega)⟩
  · have hk : k ≠ j - 1 := fun hk => e (by rw [hk, show j - 1 + 1 = j by omega]; exact List.mem_cons_self ..)
    have c2 : upN ρ (j - 1) 6 k = 6 := c'
    rw [uN_ne hk] at c2
    exact hGi.1 k a b c2 (fun h1 => e (List.mem_cons_of_mem _ h1))
  · have c2 : upN ρ (j - 1) 6 k ≠ 6 := c'
    have hk : k ≠ j - 1 := fun hk => c2 (by rw [hk, uN_eq])
    rw [uN_ne hk] at c2
    exact hGi.2.1 k a b c2
  · show upN ρ (j - 1) 6 (a - 1) = 6
    rcases List.mem_cons.mp ha with h1 | h1
    · have h1' : a = j := h1
      rw [h1', uN_eq]
    · have h6 := hGi.2.2 a h1 h0
      have hk : a - 1 ≠ j - 1 := fun hk => by rw [hk, z1] at h6; omega
      rw [uN_ne hk]; exact h6
  · have c2 : upN ρ (j - 1) 6 k = 2 ∨ upN ρ (j - 1) 6 k = 3 := c'
    have hk : k ≠ j - 1 := fun hk => by rw [hk, uN_eq] at c2; omega
    rw [uN_ne hk] at c2
    exact hSc.1 k a b c2
  · have c2 : upN ρ (j - 1) 6 k = 3 := c'
    have hk : k ≠ j - 1 := fun hk => by rw [hk, uN_eq] at c2; omega
    rw [uN_ne hk] at c2
    exact hSc.2 k c2
  · show r.1 15 k = if upN ρ (j - 1) 6 k = 3 then _ else _
    by_cases hk : k = j - 1
    · rw [hk, uN_eq, if_neg (by omega), ← hk, hUn.1 k a b, if_neg (by rw [hk]; omega)]
    · rw [uN_ne hk]; exact hUn.1 k a b
theorem mo_arg {r : RS} {ca le : Nat} {o : List Nat} {F : List Fm} {bl : List (Nat × Nat × Nat)} {en ln np st : Nat} {σ α ω : Nat → Nat} (hst : st = 10) (hca : ca ≠ 0) (hjN : j ≤ N) (h : MZ cl nm sk N f p r j st ((ca, le, 0, o) :: F) ρ γ bl en ln np σ α ω) : MZ cl nm sk N f p (va_up r.1 12 (upd (r.1 12) (ca - 1) 1), r.2.1, r.2.2) j 9 ((ca, le, 1, o) :: F) ρ γ bl en ln np σ α ω := by
  obtain ⟨hM, h16, -, hB, hE, hL, hRo, hGi, hSc, hSi, hUn, h19, hnp, h12⟩ := h
  obtain ⟨e1, e2, e3, e4, e5, ⟨f1, f2, f3, f4, f5, f6, f7, f8⟩, -⟩ := hE (by omega) (by omega)
  obtain ⟨q1, q2, q3⟩ := f6 hca
  have q1' : f < ca := q1
  have f4' : ca < j := f4
  refine ⟨hM.cg rfl rfl rfl rfl rfl, h16, by omega, hB.cg rfl rfl (Nat.le_refl _), fun _ _ => ⟨List.cons_ne_nil _ _, e2, e3, e4, e5, ⟨f1, f2, f3, f4, f5, fun _ => ⟨q1, by show 1 < j; omega, ud_eq⟩, f7, f8.cg (fun i _ => ⟨rfl, rfl⟩) (fun y hy hy0 => ?_) (Nat.le_refl _)⟩, fun h => absurd (show (9 : Nat) = 10 from h) (by omega)⟩, fun _ _ => hL (by omega) (by omega), hRo.cg rfl (Nat.le_refl _), ⟨fun k a b c' e => ?_, fun k a b c' => ?_, hGi.2.2⟩, hSc.cg rfl, hSi.cg rfl, hUn.cg rfl (Nat.le_refl _), h19, hnp, fun h => absurd (show (9 : Nat) = 12 from h) (by omega)⟩
  · have := f7 y hy hca
    have this' : y.1 < ca := this
    exact ud_ne (by omega)
  · have hk : k ≠ ca - 1 := fun hk => e (by rw [hk, show ca - 1 + 1 = ca by omega]; exact List.mem_cons_self ..)
    show upd (r.1 12) (ca - 1) 1 k = _
    rw [ud_ne hk]
    exact hGi.1 k a b c' e
  · have hk : k ≠ ca - 1 := fun hk => c' (by rw [hk]; exact hGi.2.2 ca (List.mem_cons_self ..) hca)
    show upd (r.1 12) (ca - 1) 1 k = _
    rw [ud_ne hk]
    exact hGi.2.1 k a b c'
theorem mo_close {r : RS} {ca le cn : Nat} {o : List Nat} {F : List Fm} {bl : List (Nat × Nat × Nat)} {en ln np st : Nat} {σ α ω : Nat → Nat} (hst : 10 ≤ st) (hst2 : st ≤ 12) (hF : F ≠ []) (h : MZ cl nm sk N f p r j st ((ca, le, cn, o) :: F) ρ γ bl en ln np σ α ω) : MXk cl nm sk N f p (r.1, va_up (va_up r.2.1 8 (Int32.ofNat (F.length - 1))) 6 11, r.2.2) (j + 1) (11, F, ρ, if ca = 0 then γ else upN γ (ca - 1) cn, c, bl, en, ln, V.2.2.2.1, V.2.2.2.2.1, np, σ, α, ω) := by
  obtain ⟨hM, h16, -, hB, hE, hL, hRo, hGi, hSc, hSi, hUn, h19, hnp, h12⟩ := h
  obtain ⟨e1, e2, e3, e4, e5, ⟨f1, f2, f3, f4, f5, f6, f7, f8⟩, -⟩ := hE (by omega) (by omega)
  obtain ⟨g1, g2, g3⟩ := hL (by omega) (by omega)
  have hFl : F.length + 1 ≤ 5 := e2
  refine ⟨rfl, hM.cg rfl rfl rfl rfl rfl, h16, by show 11 ≤ 13; omega, hB.cg rfl rfl (by omega), fun _ _ => ⟨hF, by show F.length ≤ 5; omega, rfl, e4, e5, f8.cg (fun i _ => ⟨rfl, rfl⟩) (fun _ _ _ => rfl) (by omega), fun h => absurd (show (11 : Nat) = 10 from h) (by omega)⟩, fun _ _ => ⟨g1, by show ln ≤ j + 1; omega, g3⟩, hRo.cg rfl (by omega), ⟨fun k a b c' e => ?_, hGi.2.1, fun a ha h0 => hGi.2.2 a (List.mem_cons_of_mem _ ha) h0⟩, hSc, hSi, hUn.cg rfl (by omega), h19, by show np ≤ j + 1; omega, fun h => absurd (show (11 : Nat) = 12 from h) (by omega)⟩
  show r.1 12 k = Int32.ofNat ((if ca = 0 then γ else upN γ (ca - 1) cn) k)
  by_cases hca : ca = 0
  · rw [if_pos hca]
    refine hGi.1 k a b c' (fun h1 => ?_)
    rcases List.mem_cons.mp h1 with h2 | h2
    · have h2' : k + 1 = ca := h2
      omega
    · exact e h2
  · rw [if_neg hca]
    by_cases hk : k = ca - 1
    · rw [hk, uN_eq]; exact (f6 hca).2.2
    · rw [uN_ne hk]
      refine hGi.1 k a b c' (fun h1 => ?_)
      rcases List.mem_cons.mp h1 with h2 | h2
      · have h2' : k + 1 = ca := h2
        omega
      · exact e h2
theorem mo_comma {r : RS} {ca le cn : Nat} {o : List Nat} {F : List Fm} {bl : List (Nat × Nat × Nat)} {en ln np st : Nat} {σ α ω : Nat → Nat} (hst : 11 ≤ st) (hst2 : st ≤ 12) (hca : ca ≠ 0) (h : MZ cl nm sk N f p r j st ((ca, le, cn, o) :: F) ρ γ bl en ln np σ α ω) : MXk cl nm sk N f p (va_up (va_up r.1 12 (upd (r.1 12) (ca - 1) (Int32.ofNat (cn + 1)))) 23 (upd (r.1 23) F.length 0), va_up r.2.1 6 9, r.2.2) (j + 1) (9, (ca, 0, cn + 1, []) :: F, ρ, γ, c, bl, en, ln, V.2.2.2.1, V.2.2.2.2.1, np, σ, α, ω) := by
  obtain ⟨hM, h16, -, hB, hE, hL, hRo, hGi, hSc, hSi, hUn, h19, hnp, h12⟩ := h
  obtain ⟨e1, e2, e3, e4, e5, ⟨f1, f2, f3, f4, f5, f6, f7, f8⟩, -⟩ := hE (by omega) (by omega)
  obtain ⟨g1, g2, g3⟩ := hL (by omega) (by omega)
  obtain ⟨q1, q2, q3⟩ := f6 hca
  have q2' : cn < j := q2
  have f4' : ca < j := f4
  refine ⟨rfl, hM.cg rfl rfl rfl rfl rfl, h16, by show 9 ≤ 13; omega, hB.cg rfl rfl (by omega), fun _ _ => ⟨List.cons_ne_nil _ _, e2, e3, e4, e5, ⟨f1, ud_eq, by show 0 ≤ 1; omega, by show ca < j + 1; omega, f5, fun _ => ⟨q1, by show cn + 1 < j + 1; omega, ud_eq⟩, f7, f8.cg (fun i hi => ⟨rfl, ud_ne (by omega)⟩) (fun y hy hy0 => ?_) (by omega)⟩, fun h => absurd (show (9 : Nat) = 10 from h) (by omega)⟩, fun _ _ => ⟨g1, by show ln ≤ j + 1; omega, g3⟩, hRo.cg rfl (by omega), ⟨fun k a b c' e => ?_, fun k a b c' => ?_, hGi.2.2⟩, hSc.cg rfl, hSi.cg rfl, hUn.cg rfl (by omega), h19, by show np ≤ j + 1; omega, fun h => absurd (show (9 : Nat) = 12 from h) (by omega)⟩
  · have this' : y.1 < ca := f7 y hy hca
    exact ud_ne (by omega)
  · have hk : k ≠ ca - 1 := fun hk => e (by rw [hk, show ca - 1 + 1 = ca by omega]; exact List.mem_cons_self ..)
    exact (ud_ne hk).trans (hGi.1 k a b c' e)
  · have hk : k ≠ ca - 1 := fun hk => c' (by rw [hk]; exact hGi.2.2 ca (List.mem_cons_self ..) hca)
    exact (ud_ne hk).trans (hGi.2.1 k a b c')
theorem mo_semi {r : RS} {fr : List Fm} {bl : List (Nat × Nat × Nat)} {en ln np st : Nat} {σ α ω : Nat → Nat} (hfr : ∀ k, k + 1 ∉ fr.map (fun y => y.1)) (hst : 11 ≤ st) (hst2 : st ≤ 12) (h : MZ cl nm sk N f p r j st fr ρ γ bl en ln np σ α ω) : MXk cl nm sk N f p (if ln = 0 then r.1 else va_up r.1 14 (upd (r.1 14) (ln - 1) (Int32.ofNat (j + 1))), va_up r.2.1 6 6, r.2.2) (j + 1) (6, [], ρ, γ, c, bl, en, 0, V.2.2.2.1, V.2.2.2.2.1, np, σ, if ln = 0 then α else upN α (ln - 1) (j + 1), ω) := by
  obtain ⟨hM, h16, -, hB, hE, hL, hRo, hGi, hSc, hSi, hUn, h19, hnp, h12⟩ := id h
  by_cases hl : ln = 0
  · rw [if_pos hl, if_pos hl]
    exact ⟨rfl, h.same (fun i _ _ _ => rfl) rfl rfl (by show 6 ≤ 13; omega) (hB.cg rfl rfl (by omega)) (fun h => absurd (show 9 ≤ 6 from h) (by omega)) (fun h => absurd (show 8 ≤ 6 from h) (by omega)) (fun k _ => hfr k) (fun a h => absurd h List.not_mem_nil) (by show (6 : Nat) ≠ 12; omega)⟩
  · rw [if_neg hl, if_neg hl]
    refine ⟨rfl, hM.cg rfl rfl rfl rfl rfl, h16, by show 6 ≤ 13; omega, hB.cg rfl rfl (by omega), fun h => absurd (show 9 ≤ 6 from h) (by omega), fun h => absurd (show 8 ≤ 6 from h) (by omega), hRo.cg rfl (by omega), hGi.cg rfl (fun k _ => hfr k) (fun a h => absurd h List.not_mem_nil), hSc.cg rfl, fun k a b => ?_, hUn.cg rfl (by omega), h19, by show np ≤ j + 1; omega, fun h => absurd (show (6 : Nat) = 12 from h) (by omega)⟩
    show upd (r.1 14) (ln - 1) (Int32.ofNat (j + 1)) k = Int32.ofNat (upN α (ln - 1) (j + 1) k)
    by_cases hk : k = ln - 1
    · rw [hk, ud_eq, uN_eq]
    · rw [ud_ne hk, uN_ne hk]; exact hSi k a b
theorem mo_blk {r : RS} {fr : List Fm} {I : Nat → Int32} {bl : List (Nat × Nat × Nat)} {en ln np st te ag : Nat} {σ α ω : Nat → Nat} (hfr : ∀ k, k + 1 ∉ fr.map (fun y => y.1)) (hI : ∀ i, i ≠ 10 → I i = r.2.1 i) (hbl : bl.length < 4) (hfj : f < j) (h : MZ cl nm sk N f p r j st fr ρ γ bl en ln np σ α ω) : MXk cl nm sk N f p (va_up r.1 21 (upd (r.1 21) bl.length (Int32.ofNat j)), va_up (va_up I 7 (Int32.ofNat (bl.length + 1))) 6 6, r.2.2) (j + 1) (6, [], ρ, γ, c, (j, te, ag) :: bl, en, ln, V.2.2.2.1, V.2.2.2.2.1, np, σ, α, ω) := by
  obtain ⟨hM, h16, -, hB, hE, hL, hRo, hGi, hSc, hSi, hUn, h19, hnp, h12⟩ := id h
  refine ⟨rfl, h.same (fun i a _ _ => up_ne a) (hI 3 (by decide)) rfl (by show 6 ≤ 13; omega) ⟨rfl, by show bl.length + 1 ≤ 4; omega, ud_eq, hfj, by show j < j + 1; omega, hUn.2 j (Nat.le_refl _), fun y hy => ?_, hB.2.2.cg (fun i hi => ud_ne (by omega)) (fun _ _ h => h) (by omega)⟩ (fun h => absurd (show 9 ≤ 6 from h) (by omega)) (fun h => absurd (show 8 ≤ 6 from h) (by omega)) (fun k _ => hfr k) (fun a h => absurd h List.not_mem_nil) (by show (6 : Nat) ≠ 12; omega)⟩
  have : ∀ {bl : List (Nat × Nat × Nat)}, MBk f r ω j bl → ∀ y, y ∈ bl → y.1 < j := by
    intro bl
    induction bl with
    | nil => intro _ y hy; exact absurd hy List.not_mem_nil
    | cons x bl ih =>
      intro hx y hy
      rcases List.mem_cons.mp hy with h5 | h5
      · rw [h5]; exact hx.2.2.1
      · exact ih hx.2.2.2.2.2 y h5
  exact this hB.2.2 y hy
theorem mo_exp {r : RS} {fr : List Fm} {I : Nat → Int32} {bl : List (Nat × Nat × Nat)} {en en' ln ln' np st : Nat} {σ α ω : Nat → Nat} (hfr : ∀ k, k + 1 ∉ fr.map (fun y => y.1)) (hI : ∀ i, i ≠ 10 → I i = r.2.1 i) (hI10 : I 10 = pm ln' ∧ ln' ≤ j ∧ (ln' ≠ 0 → f + 1 < ln')) (hen : en' = 59 ∨ en' = 123) (hj0 : 0 < j) (h : MZ cl nm sk N f p r j st fr ρ γ bl en ln np σ α ω) : MXk cl nm sk N f p (va_up r.1 23 (upd (r.1 23) 0 0), va_up (va_up (va_up I 9 (Int32.ofNat en')) 8 0) 6 9, r.2.2) (j + 1) (9, [(0, 0, 0, [])], ρ, γ, c, bl, en', ln', V.2.2.2.1, V.2.2.2.2.1, np, σ, α, ω) := by
  obtain ⟨hM, h16, -, hB, hE, hL, hRo, hGi, hSc, hSi, hUn, h19, hnp, h12⟩ := id h
  refine ⟨rfl, h.same (fun i _ _ a => up_ne a) (hI 3 (by decide)) rfl (by show 9 ≤ 13; omega) (hB.cg (hI 7 (by decide)) rfl (by omega)) (fun _ _ => ⟨List.cons_ne_nil _ _, by show 1 ≤ 5; omega, rfl, rfl.trans rfl, hen, ⟨fun h => absurd rfl h, rfl, by show 0 ≤ 1; omega, by show 0 < j + 1; omega, fun _ => rfl, fun h => absurd rfl h, fun y hy => absurd hy List.not_mem_nil, trivial⟩, fun h => absurd (show (9 : Nat) = 10 from h) (by omega)⟩) (fun _ _ => ⟨rfl.trans (hI10.1), by have := hI10.2.1; show ln' ≤ j + 1; omega, hI10.2.2⟩) (fun k _ => hfr k) (fun a h h0 => absurd (List.mem_singleton.mp h) h0) (by show (9 : Nat) ≠ 12; omega)⟩
end
