/-! the model's steps within an expression -/
theorem opd_ok {cl nm sk : Nat → Nat} {N f m p : Nat} {r : RS} {j st ca le cn : Nat} {o : List Nat} {F : List Fm} {ρ γ : Nat → Nat} {c : Cds} {V : VS} (hK : TK cl nm N) (hfj : f < j) (hjm : j < m) (hmN : m ≤ N) (hst : st = 9 ∨ st = 10) (hX : MXk cl nm sk N f p r j (st, (ca, le, cn, o) :: F, ρ, γ, c, V)) : MO cl nm sk N f m p r j (st, (ca, le, cn, o) :: F, ρ, γ, c, V) (f_Mo_operand (Int32.ofNat j) r) := by
  have hN := hK.1
  obtain ⟨h6, hZ⟩ := hX
  have h6 : r.2.1 6 = Int32.ofNat st := h6
  obtain ⟨hM, h16, -, hB, hE, hL, hRo, hGi, hSc, hSi, hUn, h19, hnp, h12⟩ := id hZ
  obtain ⟨e1, e2, e3, e4, e5, ⟨f1, f2, f3, f4, f5, f6, f7, f8⟩, e7⟩ := hE (by show 9 ≤ st; omega) (by show st ≤ 12; omega)
  obtain ⟨t5, -⟩ := hM.2.2 j (by omega)
  have hkl := kk_le (cl j)
  have q3 : (Int32.ofNat (kk (cl j)) = 3) = (cl j = 300) := by
    rw [show ((3 : Int32) = Int32.ofNat 3) from rfl, o_eq (by omega) (by omega)]; exact propext kk_3
  have q2 : (Int32.ofNat (kk (cl j)) = 2) = (cl j = 200) := by
    rw [show ((2 : Int32) = Int32.ofNat 2) from rfl, o_eq (by omega) (by omega)]; exact propext kk_2
  have ib : inb (Int32.ofNat j) 240 = true := o_inb (by omega) (by omega)
  have e3' : r.2.1 8 = Int32.ofNat F.length := e3
  have hFl : F.length + 1 ≤ 5 := e2
  have hstep : stp cl nm f j (st, (ca, le, cn, o) :: F, ρ, γ, c, V) = xOpd cl nm j st ca le cn o F ρ γ c V := stp_opd hst
  have tail : ∀ (r1 : RS) (cn1 : Nat), cn1 = (if st = 10 then 1 else cn) → FrP p f m r r1 → MZ cl nm sk N f p r1 j 9 ((ca, le, cn1, o) :: F) ρ γ V.1 V.2.1 V.2.2.1 V.2.2.2.2.2.1 V.2.2.2.2.2.2.1 V.2.2.2.2.2.2.2.1 V.2.2.2.2.2.2.2.2 → ¬ (st = 10 ∧ cl j = 41) → MO cl nm sk N f m p r j (st, (ca, le, cn, o) :: F, ρ, γ, c, V) (if cl j = 300 then some (1, (r1.1, va_up r1.2.1 6 11, r1.2.2)) else if cl j = 200 then some (1, (va_up r1.1 9 (upd (r1.1 9) j 5), va_up r1.2.1 6 12, r1.2.2)) else if cl j = 40 then (f_Mo_openFrame (-1) r1).bind (fun q => if q.1 = 0 then some (0, q.2) else some (1, q.2)) else some (0, r1)) := by
    intro r1 cn1 hcn hfr h1 h41
    obtain ⟨-, -, -, -, hE1, -⟩ := id h1
    obtain ⟨-, -, e31, -⟩ := hE1 (by omega) (by omega)
    have e31 : r1.2.1 8 = Int32.ofNat F.length := e31
    by_cases h300 : cl j = 300
    · rw [if_pos h300]
      refine ⟨1, _, rfl, hfr.tr (FrP.ints (fun i _ _ _ => rfl) (fun i a _ _ _ _ => up_ne a) rfl), Or.inl ⟨_, ?_, rfl, mo_num (V := V) (Or.inl rfl) (st' := 11) (Or.inr rfl) (le' := le) (o' := o) (c := c ++ [(0, Int32.ofNat (nm j))]) f3 (A' := r1.1) (fun _ _ => rfl) (fun _ _ => rfl) ?_ h1⟩⟩
      · rw [hstep]
        unfold xOpd
        rw [if_neg h41, if_pos h300, ← hcn]
      · obtain ⟨-, -, -, -, -, ⟨-, g2, -⟩, -⟩ := hE1 (by omega) (by omega)
        exact g2
    rw [if_neg h300]
    by_cases h200 : cl j = 200
    · rw [if_pos h200]
      refine ⟨1, _, rfl, hfr.tr (FrP.cell (Or.inl rfl) rfl ⟨by omega, hjm⟩ (fun i a _ _ _ _ => up_ne a) rfl), Or.inl ⟨_, ?_, rfl, mo_name (V := V) (c := if cl (j + 1) = 40 ∧ F.length ≤ 3 then c else c ++ [(1, Int32.ofNat j)]) rfl hfj h1⟩⟩
      rw [hstep]
      unfold xOpd
      rw [if_neg h41, if_neg h300, if_pos h200, ← hcn]
    rw [if_neg h200]
    by_cases h40 : cl j = 40
    · rw [if_pos h40]
      by_cases hF3 : F.length ≤ 3
      · rw [mof_yes e31 (by omega), Option.bind_some]
        dsimp only
        rw [if_neg ne10, if_neg (show ¬ (0 : Int32) ≤ -1 by decide)]
        refine ⟨1, _, rfl, hfr.tr (FrP.ints (fun i _ a b => (up_ne b).trans (up_ne a)) (fun i a _ b _ _ => (up_ne a).trans (up_ne b)) rfl), Or.inl ⟨_, ?_, rfl, mo_par (V := V) (c := c) rfl hF3 h1⟩⟩
        rw [hstep]
        unfold xOpd
        rw [if_neg h41, if_neg h300, if_neg h200, if_pos ⟨h40, hF3⟩, ← hcn]
      · have : F.length = 4 := by omega
        rw [mof_no (by rw [e31, this]), Option.bind_some]
        dsimp only
        rw [if_pos rfl]
        refine ⟨0, r1, rfl, hfr, Or.inr ⟨?_, rfl⟩⟩
        rw [hstep]
        unfold xOpd
        rw [if_neg h41, if_neg h300, if_neg h200, if_neg (fun h => hF3 h.2)]
    · rw [if_neg h40]
      refine ⟨0, r1, rfl, hfr, Or.inr ⟨?_, rfl⟩⟩
      rw [hstep]
      unfold xOpd
      rw [if_neg h41, if_neg h300, if_neg h200, if_neg (fun h => h40 h.1)]
  rcases hst with rfl | rfl
  · have hi := is_ok (t := 40) (a2 := 40) hK hM (show j < N by omega) rfl (by omega) (by omega)
    have h := tail r cn (by rw [if_neg (by omega)]) FrP.rf hZ (by omega)
    unfold f_Mo_operand f_Mo_goesTo
    simp only [h6, show ¬ (Int32.ofNat 9 = 10) by decide, ↓reduceIte, ib, o_nat (show j < 2147483648 by omega), t5, q3, q2, hi, Option.bind_some, isb1]
    by_cases h40 : cl j = 40
    · simp only [h40, ↓reduceIte, ne10] at h ⊢
      exact h
    · simp only [h40, ↓reduceIte] at h ⊢
      exact h
  · obtain ⟨ca', le', o', F', hz1, hz2⟩ := e7 rfl
    obtain ⟨hz3, hz4⟩ := List.cons.inj hz1
    have hca : ca = ca' := congrArg (fun y : Fm => y.1) hz3
    have hcn : cn = 0 := congrArg (fun y : Fm => y.2.2.1) hz3
    subst hca hcn
    have hF0 : F ≠ [] := fun h => hz2 (f5 h)
    have e22 : r.1 22 F.length = Int32.ofNat (ca - 1) := by
      have : r.1 22 F.length = pm ca := f1 hF0
      rw [this]
      obtain ⟨t, rfl⟩ : ∃ t, ca = t + 1 := ⟨ca - 1, by omega⟩
      rfl
    have f4' : ca < j := f4
    have f6' : f < ca := (f6 hz2).1
    have hi41 := is_ok (t := 41) (a2 := 41) hK hM (show j < N by omega) rfl (by omega) (by omega)
    by_cases h41 : cl j = 41
    · unfold f_Mo_operand
      simp only [h6, show (Int32.ofNat 10 = 10) from rfl, ↓reduceIte, hi41, h41, Option.bind_some, ne10]
      obtain ⟨n, hn⟩ : ∃ n, F.length = n + 1 := ⟨F.length - 1, by have := List.length_pos_iff.mpr hF0; omega⟩
      rw [mcf (by rw [e3', hn]), Option.bind_some]
      dsimp only
      rw [isb1]
      have := mo_close (V := V) (c := c ++ [(3, Int32.ofNat (ca - 1))]) (by omega) (by omega) hF0 hZ
      rw [if_neg hz2, hn, Nat.add_sub_cancel] at this
      refine ⟨1, _, rfl, FrP.ints (fun i _ _ _ => rfl) (fun i a _ b _ _ => (up_ne a).trans (up_ne b)) rfl, Or.inl ⟨_, ?_, rfl, this⟩⟩
      rw [hstep]
      unfold xOpd
      rw [if_pos ⟨rfl, h41⟩]
    · have h1 := mo_arg (p := p) rfl hz2 (by omega) hZ
      have hfr : FrP p f m r (va_up r.1 12 (upd (r.1 12) (ca - 1) 1), r.2.1, r.2.2) := FrP.cell (Or.inr (Or.inl rfl)) rfl ⟨by omega, by omega⟩ (fun _ _ _ _ _ _ => rfl) rfl
      have h := tail _ 1 (by rw [if_pos rfl]) hfr h1 (fun h => h41 h.2)
      have hM1 := h1.1
      have hi := is_ok (t := 40) (a2 := 40) hK hM1 (show j < N by omega) rfl (by omega) (by omega)
      unfold f_Mo_operand f_Mo_goesTo
      simp only [h6, show (Int32.ofNat 10 = 10) from rfl, ↓reduceIte, hi41, h41, Option.bind_some, e3', o_inb (show F.length < 5 by omega) (show F.length < 2147483648 by omega), o_nat (show F.length < 2147483648 by omega), e22, o_inb (show ca - 1 < 240 by omega) (show ca - 1 < 2147483648 by omega), o_nat (show ca - 1 < 2147483648 by omega), ib, o_nat (show j < 2147483648 by omega), t5, q3, q2, hi, isb1]
      by_cases h40 : cl j = 40
      · simp only [h40, ↓reduceIte, ne10] at h ⊢
        exact h
      · simp only [h40, ↓reduceIte] at h ⊢
        exact h
theorem opr_ok {cl nm sk : Nat → Nat} {N f m p : Nat} {r : RS} {j st ca le cn : Nat} {o : List Nat} {F : List Fm} {ρ γ : Nat → Nat} {c : Cds} {V : VS} (hK : TK cl nm N) (hfj : f < j) (hjm : j < m) (hmN : m ≤ N) (hst : st = 11 ∨ st = 12) (h40 : ¬ (st = 12 ∧ cl j = 40)) (hX : MXk cl nm sk N f p r j (st, (ca, le, cn, o) :: F, ρ, γ, c, V)) : MO cl nm sk N f m p r j (st, (ca, le, cn, o) :: F, ρ, γ, c, V) (f_Mo_operator (Int32.ofNat j) r) := by
  have hN := hK.1
  obtain ⟨h6, hZ⟩ := hX
  have h6 : r.2.1 6 = Int32.ofNat st := h6
  obtain ⟨hM, h16, -, hB, hE, hL, hRo, hGi, hSc, hSi, hUn, h19, hnp, h12⟩ := id hZ
  obtain ⟨e1, e2, e3, e4, e5, ⟨f1, f2, f3, f4, f5, f6, f7, f8⟩, -⟩ := hE (by show 9 ≤ st; omega) (by show st ≤ 12; omega)
  have e3' : r.2.1 8 = Int32.ofNat F.length := e3
  have e4' : r.2.1 9 = Int32.ofNat V.2.1 := e4
  have e5' : V.2.1 = 59 ∨ V.2.1 = 123 := e5
  have hFl : F.length + 1 ≤ 5 := e2
  have f2' : r.1 23 F.length = Int32.ofNat le := f2
  have f3' : le ≤ 1 := f3
  have hstep : stp cl nm f j (st, (ca, le, cn, o) :: F, ρ, γ, c, V) = xOpr j (cl j) ca le cn o F ρ γ c V := stp_opr hst h40
  have h43 := is_ok (t := 43) (a2 := 43) hK hM (show j < N by omega) rfl (by omega) (by omega)
  have h45 := is_ok (t := 45) (a2 := 45) hK hM (show j < N by omega) rfl (by omega) (by omega)
  have h42 := is_ok (t := 42) (a2 := 42) hK hM (show j < N by omega) rfl (by omega) (by omega)
  have h60 := is_ok (t := 60) (a2 := 60) hK hM (show j < N by omega) rfl (by omega) (by omega)
  have h41 := is_ok (t := 41) (a2 := 41) hK hM (show j < N by omega) rfl (by omega) (by omega)
  have h44 := is_ok (t := 44) (a2 := 44) hK hM (show j < N by omega) rfl (by omega) (by omega)
  have hen := is_ok (t := V.2.1) (a2 := r.2.1 9) hK hM (show j < N by omega) e4' (by omega) (by omega)
  unfold f_Mo_operator
  simp only [h43, h45, h42, h60, h41, h44, Option.bind_some]
  have ops : cl j = 43 ∨ cl j = 45 ∨ cl j = 42 → MO cl nm sk N f m p r j (st, (ca, le, cn, o) :: F, ρ, γ, c, V) ((f_Mo_goesTo 9 r).bind (fun q => if isb q.1 then some (q.1, q.2) else none)) := by
    intro h
    refine MO.bd ⟨1, (r.1, va_up r.2.1 6 9, r.2.2), rfl, FrP.ints (fun i _ _ _ => rfl) (fun i a _ _ _ _ => up_ne a) rfl, Or.inl ⟨_, ?_, rfl, mo_num (V := V) (Or.inr hst) (st' := 9) (Or.inl rfl) (le' := le) (o' := cl j :: dw (rk (cl j)) o) (c := c ++ oi (tw (rk (cl j)) o)) f3 (A' := r.1) (fun _ _ => rfl) (fun _ _ => rfl) f2' hZ⟩⟩
    rw [hstep]
    unfold xOpr
    rw [if_pos h]
  by_cases c43 : cl j = 43
  · simp only [if_pos c43, ↓reduceIte, ne10]
    exact ops (Or.inl c43)
  by_cases c45 : cl j = 45
  · simp only [if_neg c43, if_pos c45, ↓reduceIte, ne10]
    exact ops (Or.inr (Or.inl c45))
  by_cases c42 : cl j = 42
  · simp only [if_neg c43, if_neg c45, if_pos c42, ↓reduceIte, ne10]
    exact ops (Or.inr (Or.inr c42))
  by_cases c60 : cl j = 60
  · simp only [if_neg c43, if_neg c45, if_neg c42, if_pos c60, ↓reduceIte, ne10, e3', o_inb (show F.length < 5 by omega) (show F.length < 2147483648 by omega), o_nat (show F.length < 2147483648 by omega), f2', nb1]
    by_cases hle : le = 0
    · rw [if_pos (by rw [hle]; rfl)]
      refine MO.bc ⟨1, (va_up r.1 23 (upd (r.1 23) F.length 1), va_up r.2.1 6 9, r.2.2), rfl, FrP.ints (fun i _ _ a => up_ne a) (fun i a _ _ _ _ => up_ne a) rfl, Or.inl ⟨_, ?_, rfl, mo_num (V := V) (Or.inr hst) (st' := 9) (Or.inl rfl) (le' := 1) (o' := 60 :: dw 1 o) (c := c ++ oi (tw 1 o)) (by omega) (A' := va_up r.1 23 (upd (r.1 23) F.length 1)) (fun i a => up_ne a) (fun i a => ud_ne a) ud_eq hZ⟩⟩
      rw [hstep]
      unfold xOpr
      rw [if_neg (by omega), if_pos c60, if_pos hle, c60]
    · rw [if_neg (by intro h; exact hle ((o_eq (b := 0) (by omega) (by omega)).mp h))]
      refine ⟨0, _, rfl, FrP.ints (fun i _ _ a => up_ne a) (fun i a _ _ _ _ => rfl) rfl, Or.inr ⟨?_, rfl⟩⟩
      rw [hstep]
      unfold xOpr
      rw [if_neg (by omega), if_pos c60, if_neg hle]
  simp only [if_neg c43, if_neg c45, if_neg c42, if_neg c60, ↓reduceIte]
  by_cases hF : F = []
  · subst hF
    have hca : ca = 0 := f5 rfl
    rw [if_pos (show r.2.1 8 ≤ 0 by rw [e3']; decide), hen, Option.bind_some]
    dsimp only
    have hnone : ∀ k, k + 1 ∉ ([(ca, le, cn, o)] : List Fm).map (fun y => y.1) := fun k h => by
      have := List.mem_singleton.mp h
      have this' : k + 1 = ca := this
      omega
    by_cases hc : cl j = V.2.1
    · rw [if_pos hc, if_neg ne10, e4']
      rcases e5' with h59 | h123
      · rw [h59, if_neg (show ¬ Int32.ofNat 59 = 123 by decide)]
        obtain ⟨g1, g2, g3⟩ := hL (by show 8 ≤ st; omega) (by show st ≤ 12; omega)
        have g1' : r.2.1 10 = pm V.2.2.1 := g1
        have g2' : V.2.2.1 ≤ j := g2
        have g3' : V.2.2.1 ≠ 0 → f + 1 < V.2.2.1 := g3
        have := mo_semi (V := V) (c := c ++ oi o ++ [V.2.2.2.2.1]) hnone (by omega) (by omega) hZ
        have hx : stp cl nm f j (st, [(ca, le, cn, o)], ρ, γ, c, V) = some (6, [], ρ, γ, c ++ oi o ++ [V.2.2.2.2.1], V.1, V.2.1, 0, V.2.2.2.1, V.2.2.2.2.1, V.2.2.2.2.2.1, V.2.2.2.2.2.2.1, (if V.2.2.1 = 0 then V.2.2.2.2.2.2.2.1 else upN V.2.2.2.2.2.2.2.1 (V.2.2.1 - 1) (j + 1)), V.2.2.2.2.2.2.2.2) := by
          rw [hstep]
          unfold xOpr
          rw [if_neg (by omega), if_neg c60, if_pos rfl]
          unfold xEnd
          rw [if_pos hc, if_neg (by omega)]
        by_cases hl : V.2.2.1 = 0
        · rw [if_pos (show r.2.1 10 < 0 by rw [g1', hl]; decide)]
          rw [if_pos hl] at this
          exact MO.bd ⟨1, _, rfl, FrP.ints (fun i _ _ _ => rfl) (fun i a _ _ _ _ => up_ne a) rfl, Or.inl ⟨_, hx, rfl, this⟩⟩
        · have g4 : r.2.1 10 = Int32.ofNat (V.2.2.1 - 1) := by
            rw [g1']
            obtain ⟨t, ht⟩ : ∃ t, V.2.2.1 = t + 1 := ⟨V.2.2.1 - 1, by omega⟩
            rw [ht]; rfl
          have g5 := g3' hl
          rw [g4, if_neg (show ¬ Int32.ofNat (V.2.2.1 - 1) < 0 by rw [i_lt, onat (by omega), n0]; omega), if_pos (o_inb (by omega) (by omega)), o_nat (by omega), onat1 (by omega)]
          rw [if_neg hl] at this
          exact MO.bd ⟨1, _, rfl, FrP.cell (Or.inr (Or.inr (Or.inr (Or.inl rfl)))) rfl ⟨by omega, by omega⟩ (fun i a _ _ _ _ => up_ne a) rfl, Or.inl ⟨_, hx, rfl, this⟩⟩
      · rw [h123, if_pos (show Int32.ofNat 123 = 123 from rfl)]
        obtain ⟨b1, b2, b3⟩ := id hB
        have b1' : r.2.1 7 = Int32.ofNat V.1.length := b1
        have b2' : V.1.length ≤ 4 := b2
        by_cases hb4 : V.1.length < 4
        · rw [mob_yes b1' hb4]
          refine MO.bd ⟨1, _, rfl, FrP.ints (fun i a _ _ => up_ne a) (fun i a b _ _ _ => (up_ne a).trans (up_ne b)) rfl, Or.inl ⟨_, ?_, rfl, mo_blk (V := V) (I := r.2.1) (c := c ++ oi o ++ [(4, 0)] ++ (if V.2.2.2.1 = 0 then [] else [(5, 0)])) (te := c.length + o.length + 1) (ag := V.2.2.2.1) hnone (fun _ _ => rfl) hb4 hfj hZ⟩⟩
          rw [hstep]
          unfold xOpr
          rw [if_neg (by omega), if_neg c60, if_pos rfl]
          unfold xEnd
          rw [if_pos hc, if_pos (by omega), if_pos hb4]
        · have : V.1.length = 4 := by omega
          rw [mob_no (by rw [b1', this])]
          refine MO.bd ⟨0, r, rfl, FrP.rf, Or.inr ⟨?_, rfl⟩⟩
          rw [hstep]
          unfold xOpr
          rw [if_neg (by omega), if_neg c60, if_pos rfl]
          unfold xEnd
          rw [if_pos hc, if_pos (by omega), if_neg hb4]
    · rw [if_neg hc, if_pos rfl]
      refine ⟨0, r, rfl, FrP.rf, Or.inr ⟨?_, rfl⟩⟩
      rw [hstep]
      unfold xOpr
      rw [if_neg (by omega), if_neg c60, if_pos rfl]
      unfold xEnd
      rw [if_neg hc]
  · have hpos := List.length_pos_iff.mpr hF
    rw [if_neg (show ¬ r.2.1 8 ≤ 0 by rw [e3', i_le, onat (by omega), n0]; omega)]
    by_cases c41 : cl j = 41
    · simp only [if_pos c41, ↓reduceIte, ne10]
      obtain ⟨n, hn⟩ : ∃ n, F.length = n + 1 := ⟨F.length - 1, by omega⟩
      rw [mcf (by rw [e3', hn])]
      have := mo_close (V := V) (c := c ++ oi o ++ (if ca = 0 then [] else [(3, Int32.ofNat (ca - 1))])) (by omega) (by omega) hF hZ
      rw [hn, Nat.add_sub_cancel] at this
      refine MO.bd ⟨1, _, rfl, FrP.ints (fun i _ _ _ => rfl) (fun i a _ b _ _ => (up_ne a).trans (up_ne b)) rfl, Or.inl ⟨_, ?_, rfl, this⟩⟩
      rw [hstep]
      unfold xOpr
      rw [if_neg (by omega), if_neg c60, if_neg hF, if_pos c41]
    · by_cases c44 : cl j = 44
      · have e22 : r.1 22 F.length = pm ca := f1 hF
        simp only [if_neg c41, if_pos c44, ↓reduceIte, ne10, e3', o_inb (show F.length < 5 by omega) (show F.length < 2147483648 by omega), o_nat (show F.length < 2147483648 by omega), e22]
        by_cases hca : ca = 0
        · rw [if_neg (show ¬ (0 : Int32) ≤ pm ca by rw [hca]; decide)]
          refine ⟨0, r, rfl, FrP.rf, Or.inr ⟨?_, rfl⟩⟩
          rw [hstep]
          unfold xOpr
          rw [if_neg (by omega), if_neg c60, if_neg hF, if_neg c41, if_neg (fun h => h.2 hca)]
        · have hpm : pm ca = Int32.ofNat (ca - 1) := by
            obtain ⟨t, rfl⟩ : ∃ t, ca = t + 1 := ⟨ca - 1, by omega⟩
            rfl
          have f4' : ca < j := f4
          have f6' : f < ca := (f6 hca).1
          have f62 : cn < j := (f6 hca).2.1
          have f63 : r.1 12 (ca - 1) = Int32.ofNat cn := (f6 hca).2.2
          simp only [hpm, show (0 : Int32) ≤ Int32.ofNat (ca - 1) by rw [i_le, onat (by omega), n0]; omega, ↓reduceIte, o_inb (show ca - 1 < 240 by omega) (show ca - 1 < 2147483648 by omega), o_nat (show ca - 1 < 2147483648 by omega), bindv, f63, nb0, o_p1]
          refine MO.bd ⟨1, _, rfl, ?_, Or.inl ⟨_, ?_, rfl, mo_comma (V := V) (c := c ++ oi o) (by omega) (by omega) hca hZ⟩⟩
          · exact (FrP.cell (i0 := 12) (Or.inr (Or.inl rfl)) (r' := (va_up r.1 12 (upd (r.1 12) (ca - 1) (Int32.ofNat (cn + 1))), r.2.1, r.2.2)) rfl ⟨by omega, by omega⟩ (fun _ _ _ _ _ _ => rfl) rfl).tr (FrP.ints (fun i _ _ a => up_ne a) (fun i a _ _ _ _ => up_ne a) rfl)
          · rw [hstep]
            unfold xOpr
            rw [if_neg (by omega), if_neg c60, if_neg hF, if_neg c41, if_pos ⟨c44, hca⟩]
      · simp only [if_neg c41, if_neg c44, ↓reduceIte]
        refine ⟨0, r, rfl, FrP.rf, Or.inr ⟨?_, rfl⟩⟩
        rw [hstep]
        unfold xOpr
        rw [if_neg (by omega), if_neg c60, if_neg hF, if_neg c41, if_neg (fun h => c44 h.1)]
