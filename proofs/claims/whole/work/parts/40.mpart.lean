/-! a step of the model, whatever its state -/
theorem nil0 (k : Nat) : k + 1 ∉ ([] : List Fm).map (fun y => y.1) := List.not_mem_nil
theorem stm_ok {cl nm sk : Nat → Nat} {N f m p : Nat} {r : RS} {j : Nat} {ρ γ : Nat → Nat} {c : Cds} {V : VS} (hK : TK cl nm N) (hfj : f < j) (hjm : j < m) (hmN : m ≤ N) (hbl : V.1 ≠ []) (hX : MXk cl nm sk N f p r j (6, [], ρ, γ, c, V)) : MO cl nm sk N f m p r j (6, [], ρ, γ, c, V) (f_Mo_statement (Int32.ofNat j) r) := by
  have hN := hK.1
  obtain ⟨h6, hZ⟩ := hX
  obtain ⟨hM, h16, -, hB, hE, hL, hRo, hGi, hSc, hSi, hUn, h19, hnp, h12⟩ := id hZ
  have hM1 : MTok cl nm sk N (r.1, va_up r.2.1 10 (-1), r.2.2) := hM.cg rfl rfl rfl rfl rfl
  have h123 := is_ok (t := 123) (a2 := 123) hK hM1 (show j < N by omega) rfl (by omega) (by omega)
  have h125 := is_ok (t := 125) (a2 := 125) hK hM1 (show j < N by omega) rfl (by omega) (by omega)
  have hstep : stp cl nm f j (6, [], ρ, γ, c, V) = xSt j (cl j) ρ γ c V := rfl
  obtain ⟨b1, b2, b3⟩ := id hB
  have b1' : (r.1, va_up r.2.1 10 (-1), r.2.2).2.1 7 = Int32.ofNat V.1.length := b1
  have b2' : V.1.length ≤ 4 := b2
  have ib : inb (Int32.ofNat j) 240 = true := o_inb (by omega) (by omega)
  obtain ⟨t5, -⟩ := hM.2.2 j (by omega)
  have hkl := kk_le (cl j)
  have hc := hK.2.1 j
  have q2 : (Int32.ofNat (kk (cl j)) = 2) = (cl j = 200) := by
    rw [show ((2 : Int32) = Int32.ofNat 2) from rfl, o_eq (by omega) (by omega)]; exact propext kk_2
  have q1 : (Int32.ofNat (kk (cl j)) = 1) = (400 ≤ cl j) := by
    rw [show ((1 : Int32) = Int32.ofNat 1) from rfl, o_eq (by omega) (by omega)]
    exact propext ⟨fun h => by have := kk_1.mp h; omega, fun h => kk_1.mpr (by omega)⟩
  have fr10 : FrP p f m r (r.1, va_up r.2.1 10 (-1), r.2.2) := FrP.ints (fun _ _ _ _ => rfl) (fun i _ _ _ _ a => up_ne a) rfl
  have hI10 : ∀ i, i ≠ 10 → va_up r.2.1 10 (-1) i = r.2.1 i := fun i a => up_ne a
  unfold f_Mo_statement
  rw [h123, Option.bind_some]
  dsimp only
  by_cases c123 : cl j = 123
  · rw [if_pos c123, if_neg ne10]
    by_cases hb4 : V.1.length < 4
    · rw [mob_yes b1' hb4]
      refine MO.bd ⟨1, _, rfl, FrP.ints (fun i a _ _ => up_ne a) (fun i a b _ _ e => (up_ne a).trans ((up_ne b).trans (up_ne e))) rfl, Or.inl ⟨_, ?_, rfl, mo_blk (V := V) (r := r) (I := va_up r.2.1 10 (-1)) (c := c) (te := 0) (ag := 0) nil0 hI10 hb4 hfj hZ⟩⟩
      rw [hstep]
      unfold xSt
      rw [if_pos c123, if_pos hb4]
    · have : V.1.length = 4 := by omega
      rw [mob_no (by rw [b1', this])]
      refine MO.bd ⟨0, _, rfl, fr10, Or.inr ⟨?_, rfl⟩⟩
      rw [hstep]
      unfold xSt
      rw [if_pos c123, if_neg hb4]
  rw [if_neg c123, if_pos rfl, h125, Option.bind_some]
  dsimp only
  by_cases c125 : cl j = 125
  · rw [if_pos c125, if_neg ne10]
    obtain ⟨⟨o, te, ag⟩, B, hBv⟩ : ∃ B0 B, V.1 = B0 :: B := by
      cases hv : V.1 with
      | nil => exact absurd hv hbl
      | cons a b => exact ⟨a, b, rfl⟩
    rw [hBv] at b1' b2'
    have hZ' : MZ cl nm sk N f p r j 6 [] ρ γ ((o, te, ag) :: B) V.2.1 V.2.2.1 V.2.2.2.2.2.1 V.2.2.2.2.2.2.1 V.2.2.2.2.2.2.2.1 V.2.2.2.2.2.2.2.2 := by
      rw [← hBv]; exact hZ
    obtain ⟨-, -, -, ⟨-, -, z1, z2, z3, -⟩, -⟩ := id hZ'
    have z1' : r.1 21 B.length = Int32.ofNat o := z1
    have z2' : f < o := z2
    have z3' : o < j := z3
    have b1'' : va_up r.2.1 10 (-1) 7 = Int32.ofNat (B.length + 1) := b1'
    have e7 : va_up r.2.1 10 (-1) 7 - 1 = Int32.ofNat B.length := by
      rw [b1'']
      exact o_sub (a := B.length + 1) (b := 1) (by omega)
    rw [List.length_cons] at b2'
    obtain ⟨r', e1, e2, e3, e4, e5⟩ := cb_loop (N := N) (j := j) (o := o) (n := B.length) (by omega) (by omega) (j - o) o (r.1, va_up (va_up r.2.1 10 (-1)) 7 (Int32.ofNat B.length), r.2.2) (99999 - (j - o)) rfl (by omega) rfl
    rw [show 99999 - (j - o) + (j - o) + 1 = 100000 by omega] at e1
    have hcl : f_Mo_closeBlock (Int32.ofNat j) (r.1, va_up r.2.1 10 (-1), r.2.2) = some (1, r') := by
      unfold f_Mo_closeBlock
      dsimp only
      rw [e7, if_pos (o_inb (by omega) (by omega)), o_nat (by omega), z1']
      exact e1
    have hB0 : (if B.length = 0 then (13 : Int32) else 6) = Int32.ofNat (if B = [] then 13 else 6) := by
      by_cases hB : B = []
      · rw [if_pos hB, if_pos (by rw [hB]; rfl)]; rfl
      · rw [if_neg hB, if_neg (fun h => hB (List.length_eq_zero_iff.mp h))]; rfl
    rw [hcl]
    refine MO.bd ⟨1, r', rfl, ?_, Or.inl ⟨_, ?_, rfl, mo_cls (V := V) (c := (if te = 0 then c ++ (if ag = 0 then [] else [(6, Int32.ofNat (ag - 1))]) else (c ++ (if ag = 0 then [] else [(6, Int32.ofNat (ag - 1))])).set (te - 1) (4, Int32.ofNat (c ++ (if ag = 0 then [] else [((6 : Int32), Int32.ofNat (ag - 1))])).length))) (show j ≤ N by omega) hN rfl hZ' e2 e3 (by rw [e4]; rfl) (by rw [e4, hB0]; rfl) (by rw [e4]; rfl) e5⟩⟩
    · refine FrP.one (fun i _ _ _ _ a _ _ _ _ => e2 i a) (fun i a b _ _ e => by rw [e4]; exact (up_ne a).trans ((up_ne b).trans (up_ne e))) e5 (fun i k _ _ _ _ h => ?_) (fun k _ => congrFun (e2 19 (by decide)) k)
      by_cases hi : i = 15
      · subst hi
        rw [e3 k, if_neg (fun h1 => h ⟨by omega, by omega⟩)]
      · rw [e2 i hi]
    · rw [hstep]
      unfold xSt
      rw [if_neg c123, if_pos c125, hBv]
  rw [if_neg c125, if_pos rfl]
  simp only [ib, ↓reduceIte, o_nat (show j < 2147483648 by omega), t5, q2, q1]
  by_cases c200 : cl j = 200
  · rw [if_pos c200]
    refine MO.bd ⟨1, _, rfl, FrP.cell (Or.inl rfl) rfl ⟨by omega, hjm⟩ (fun i a _ _ _ e => (up_ne a).trans (up_ne e)) rfl, Or.inl ⟨_, ?_, rfl, mo_asg (c := c) (y := (2, Int32.ofNat j)) hZ⟩⟩
    rw [hstep]
    unfold xSt
    rw [if_neg c123, if_neg c125, if_pos c200]
  rw [if_neg c200]
  by_cases c400 : 400 ≤ cl j
  · rw [if_pos c400, kwT hK hM1 (show j < N by omega) c400, Option.bind_some]
    dsimp only
    have p1 : (Int32.ofNat (cl j - 400) = 1) = (cl j = 401) := by
      rw [show ((1 : Int32) = Int32.ofNat 1) from rfl, o_eq (by omega) (by omega)]; exact propext (by omega)
    have p2 : (Int32.ofNat (cl j - 400) = 2) = (cl j = 402) := by
      rw [show ((2 : Int32) = Int32.ofNat 2) from rfl, o_eq (by omega) (by omega)]; exact propext (by omega)
    have p3 : (Int32.ofNat (cl j - 400) = 3) = (cl j = 403) := by
      rw [show ((3 : Int32) = Int32.ofNat 3) from rfl, o_eq (by omega) (by omega)]; exact propext (by omega)
    have p4 : (Int32.ofNat (cl j - 400) = 4) = (cl j = 404) := by
      rw [show ((4 : Int32) = Int32.ofNat 4) from rfl, o_eq (by omega) (by omega)]; exact propext (by omega)
    have p5 : (Int32.ofNat (cl j - 400) = 5) = (cl j = 405) := by
      rw [show ((5 : Int32) = Int32.ofNat 5) from rfl, o_eq (by omega) (by omega)]; exact propext (by omega)
    simp only [p1, p2, p3, p4, p5, mex]
    have exf : ∀ e : Int32, FrP p f m r (va_up r.1 23 (upd (r.1 23) 0 0), va_up (va_up (va_up (va_up r.2.1 10 (-1)) 9 e) 8 0) 6 9, r.2.2) := fun e => FrP.ints (fun i _ _ a => up_ne a) (fun i a _ b e g => (up_ne a).trans ((up_ne b).trans ((up_ne e).trans (up_ne g)))) rfl
    by_cases c401 : cl j = 401
    · rw [if_pos c401]
      refine MO.bd ⟨1, _, rfl, FrP.ints (fun _ _ _ _ => rfl) (fun i a _ _ _ e => (up_ne a).trans (up_ne e)) rfl, Or.inl ⟨_, ?_, rfl, mo_go (V := V) (r := r) (I := va_up r.2.1 10 (-1)) (c := c) (st' := 7) (by omega) hI10 hZ⟩⟩
      rw [hstep]
      unfold xSt
      rw [if_neg c123, if_neg c125, if_neg c200, if_pos c401]
    rw [if_neg c401]
    by_cases c404 : cl j = 404
    · rw [if_pos c404]
      refine MO.bd ⟨1, _, rfl, exf _, Or.inl ⟨_, ?_, rfl, mo_exp (V := (V.1, 59, 0, 0, (7, 0), V.2.2.2.2.2)) (en' := 59) (ln' := 0) (I := va_up r.2.1 10 (-1)) (c := c) nil0 hI10 ⟨rfl, by omega, fun h => absurd rfl h⟩ (Or.inl rfl) (by omega) hZ⟩⟩
      rw [hstep]
      unfold xSt
      rw [if_neg c123, if_neg c125, if_neg c200, if_neg c401, if_pos c404]
    rw [if_neg c404]
    by_cases c405 : cl j = 405
    · rw [if_pos c405]
      refine MO.bd ⟨1, _, rfl, exf _, Or.inl ⟨_, ?_, rfl, mo_exp (V := (V.1, 59, 0, 0, (8, 0), V.2.2.2.2.2)) (en' := 59) (ln' := 0) (I := va_up r.2.1 10 (-1)) (c := c) nil0 hI10 ⟨rfl, by omega, fun h => absurd rfl h⟩ (Or.inl rfl) (by omega) hZ⟩⟩
      rw [hstep]
      unfold xSt
      rw [if_neg c123, if_neg c125, if_neg c200, if_neg c401, if_neg c404, if_pos c405]
    rw [if_neg c405]
    by_cases c402 : cl j = 402
    · rw [if_pos c402]
      refine MO.bc ⟨1, _, rfl, exf _, Or.inl ⟨_, ?_, rfl, mo_exp (V := (V.1, 123, 0, 0, V.2.2.2.2)) (en' := 123) (ln' := 0) (I := va_up r.2.1 10 (-1)) (c := c) nil0 hI10 ⟨rfl, by omega, fun h => absurd rfl h⟩ (Or.inr rfl) (by omega) hZ⟩⟩
      rw [hstep]
      unfold xSt
      rw [if_neg c123, if_neg c125, if_neg c200, if_neg c401, if_neg c404, if_neg c405, if_pos c402]
    rw [if_neg c402]
    by_cases c403 : cl j = 403
    · rw [if_pos c403]
      refine MO.bc ⟨1, _, rfl, exf _, Or.inl ⟨_, ?_, rfl, mo_exp (V := (V.1, 123, 0, c.length + 1, V.2.2.2.2)) (en' := 123) (ln' := 0) (I := va_up r.2.1 10 (-1)) (c := c) nil0 hI10 ⟨rfl, by omega, fun h => absurd rfl h⟩ (Or.inr rfl) (by omega) hZ⟩⟩
      rw [hstep]
      unfold xSt
      rw [if_neg c123, if_neg c125, if_neg c200, if_neg c401, if_neg c404, if_neg c405, if_neg c402, if_pos c403]
    rw [if_neg c403]
    refine ⟨0, _, rfl, fr10, Or.inr ⟨?_, rfl⟩⟩
    rw [hstep]
    unfold xSt
    rw [if_neg c123, if_neg c125, if_neg c200, if_neg c401, if_neg c404, if_neg c405, if_neg c402, if_neg c403]
  · rw [if_neg c400]
    refine ⟨0, _, rfl, fr10, Or.inr ⟨?_, rfl⟩⟩
    rw [hstep]
    unfold xSt
    rw [if_neg c123, if_neg c125, if_neg c200, if_neg (by omega), if_neg (by omega), if_neg (by omega), if_neg (by omega), if_neg (by omega)]
theorem hed_ok {cl nm sk : Nat → Nat} {N f m p : Nat} {r : RS} {j st : Nat} {ρ γ : Nat → Nat} {c : Cds} {V : VS} (hK : TK cl nm N) (hfj : f < j) (hjm : j < m) (hmN : m ≤ N) (hp : p < 4) (hst : st ≤ 5) (hbl : st = 5 → V.1.length < 4) (hX : MXk cl nm sk N f p r j (st, [], ρ, γ, c, V)) : MO cl nm sk N f m p r j (st, [], ρ, γ, c, V) (f_Mo_head (Int32.ofNat j) (Int32.ofNat p) r) := by
  have hN := hK.1
  obtain ⟨h6, hZ⟩ := hX
  have h6 : r.2.1 6 = Int32.ofNat st := h6
  obtain ⟨hM, h16, -, hB, hE, hL, hRo, hGi, hSc, hSi, hUn, h19, hnp, h12⟩ := id hZ
  have hstep : stp cl nm f j (st, [], ρ, γ, c, V) = xHd f j (cl j) st ρ γ c V := by
    unfold stp
    dsimp only
    rw [if_pos hst]
  have h40 := is_ok (t := 40) (a2 := 40) hK hM (show j < N by omega) rfl (by omega) (by omega)
  have h41 := is_ok (t := 41) (a2 := 41) hK hM (show j < N by omega) rfl (by omega) (by omega)
  have h44 := is_ok (t := 44) (a2 := 44) hK hM (show j < N by omega) rfl (by omega) (by omega)
  have h123 := is_ok (t := 123) (a2 := 123) hK hM (show j < N by omega) rfl (by omega) (by omega)
  obtain ⟨b1, b2, b3⟩ := id hB
  have b1' : r.2.1 7 = Int32.ofNat V.1.length := b1
  have ib : inb (Int32.ofNat j) 240 = true := o_inb (by omega) (by omega)
  have ip : inb (Int32.ofNat p) 122 = true := o_inb (by omega) (by omega)
  obtain ⟨t5, -⟩ := hM.2.2 j (by omega)
  have hkl := kk_le (cl j)
  have hnp' : V.2.2.2.2.2.1 ≤ j := hnp
  have h19' : r.1 19 p = Int32.ofNat V.2.2.2.2.2.1 := h19
  have q2 : (Int32.ofNat (kk (cl j)) = 2) = (cl j = 200) := by
    rw [show ((2 : Int32) = Int32.ofNat 2) from rfl, o_eq (by omega) (by omega)]; exact propext kk_2
  have s0 : (Int32.ofNat st = 0) = (st = 0) := o_eq (b := 0) (by omega) (by omega)
  have s1 : (Int32.ofNat st = 1) = (st = 1) := o_eq (b := 1) (by omega) (by omega)
  have s3 : (Int32.ofNat st = 3) = (st = 3) := o_eq (b := 3) (by omega) (by omega)
  have s4 : (Int32.ofNat st = 4) = (st = 4) := o_eq (b := 4) (by omega) (by omega)
  have s5 : (Int32.ofNat st = 5) = (st = 5) := o_eq (b := 5) (by omega) (by omega)
  have gof : ∀ s : Int32, FrP p f m r (r.1, va_up r.2.1 6 s, r.2.2) := fun s => FrP.ints (fun _ _ _ _ => rfl) (fun i a _ _ _ _ => up_ne a) rfl
  unfold f_Mo_head f_Mo_goesTo
  simp only [ib, ip, ↓reduceIte, o_nat (show j < 2147483648 by omega), o_nat (show p < 2147483648 by omega), t5, q2, h6, s0, s1, s3, s4, s5, h40, h41, h44, h123, h16, h19', Option.bind_some, isb1, ne10, o_p1]
  have prf : ∀ s : Int32, FrP p f m r (va_up (va_up (va_up r.1 9 (upd (r.1 9) j 2)) 13 (upd (r.1 13) j (Int32.ofNat f))) 19 (upd (r.1 19) p (Int32.ofNat (V.2.2.2.2.2.1 + 1))), va_up r.2.1 6 s, r.2.2) := fun s => by
    refine FrP.one (fun i a _ b _ _ c _ _ _ => (up_ne c).trans ((up_ne b).trans (up_ne a))) (fun i a _ _ _ _ => up_ne a) rfl (fun i k a _ _ _ h => ?_) (fun k hk => ud_ne hk)
    have hk : k ≠ j := fun hk => h ⟨by omega, by omega⟩
    show va_up (va_up (va_up r.1 9 (upd (r.1 9) j 2)) 13 (upd (r.1 13) j (Int32.ofNat f))) 19 (upd (r.1 19) p (Int32.ofNat (V.2.2.2.2.2.1 + 1))) i k = r.1 i k
    rw [up_ne a]
    by_cases h13 : i = 13
    · subst h13; exact ud_ne hk
    · rw [up_ne h13]
      by_cases h9 : i = 9
      · subst h9; exact ud_ne hk
      · rw [up_ne h9]
  have prf0 : FrP p f m r (va_up (va_up (va_up r.1 9 (upd (r.1 9) j 2)) 13 (upd (r.1 13) j (Int32.ofNat f))) 19 (upd (r.1 19) p (Int32.ofNat (V.2.2.2.2.2.1 + 1))), r.2.1, r.2.2) := by
    obtain ⟨g1, g2, g3, g4, g5⟩ := prf 0
    exact ⟨g1, fun _ _ _ _ _ _ => rfl, rfl, g4, g5⟩
  have hs : st = 0 ∨ st = 1 ∨ st = 2 ∨ st = 3 ∨ st = 4 ∨ st = 5 := by omega
  rcases hs with rfl | rfl | rfl | rfl | rfl | rfl
  · simp only [↓reduceIte]
    by_cases c200 : cl j = 200
    · rw [if_pos c200]
      refine ⟨1, _, rfl, FrP.cell (Or.inl rfl) rfl ⟨by omega, hjm⟩ (fun i a _ _ _ _ => up_ne a) rfl, Or.inl ⟨_, ?_, rfl, mo_hd1 (V := V) (c := c) hZ⟩⟩
      rw [hstep]
      unfold xHd
      rw [if_pos rfl, if_pos c200]
    · rw [if_neg c200]
      refine ⟨0, _, rfl, FrP.cell (Or.inl rfl) rfl ⟨by omega, hjm⟩ (fun _ _ _ _ _ _ => rfl) rfl, Or.inr ⟨?_, rfl⟩⟩
      rw [hstep]
      unfold xHd
      rw [if_pos rfl, if_neg c200]
  · simp only [show ¬ (1 : Nat) = 0 by omega, ↓reduceIte, ite_self]
    by_cases c40 : cl j = 40
    · simp only [if_pos c40, ↓reduceIte, ne10, ite_self]
      refine ⟨1, _, rfl, gof _, Or.inl ⟨_, ?_, rfl, mo_go (V := V) (c := c) (st' := 2) (by omega) (fun _ _ => rfl) hZ⟩⟩
      rw [hstep]
      unfold xHd
      rw [if_neg (by omega), if_pos rfl, if_pos c40]
    · simp only [if_neg c40, ↓reduceIte, ite_self]
      refine ⟨0, _, rfl, FrP.rf, Or.inr ⟨?_, rfl⟩⟩
      rw [hstep]
      unfold xHd
      rw [if_neg (by omega), if_pos rfl, if_neg c40]
  · simp only [show ¬ (2 : Nat) = 0 by omega, show ¬ (2 : Nat) = 1 by omega, show ¬ (2 : Nat) = 3 by omega, show ¬ (2 : Nat) = 4 by omega, show ¬ (2 : Nat) = 5 by omega, ↓reduceIte, ite_self]
    by_cases c41 : cl j = 41
    · simp only [if_pos c41, ↓reduceIte, ne10, ite_self]
      refine ⟨1, _, rfl, gof _, Or.inl ⟨_, ?_, rfl, mo_go (V := V) (c := c) (st' := 5) (by omega) (fun _ _ => rfl) hZ⟩⟩
      rw [hstep]
      unfold xHd
      rw [if_neg (by omega), if_neg (by omega), if_neg (by omega), if_pos ⟨by omega, c41⟩]
    · simp only [if_neg c41, ↓reduceIte]
      by_cases c200 : cl j = 200
      · rw [if_pos c200]
        refine ⟨1, _, rfl, prf _, Or.inl ⟨_, ?_, rfl, mo_prm (V := V) (c := c) (by omega) hZ⟩⟩
        rw [hstep]
        unfold xHd
        rw [if_neg (by omega), if_neg (by omega), if_neg (by omega), if_neg (fun h => c41 h.2), if_neg (by omega), if_pos c200]
      · rw [if_neg c200]
        refine ⟨0, _, rfl, prf0, Or.inr ⟨?_, rfl⟩⟩
        rw [hstep]
        unfold xHd
        rw [if_neg (by omega), if_neg (by omega), if_neg (by omega), if_neg (fun h => c41 h.2), if_neg (by omega), if_neg c200]
  · simp only [show ¬ (3 : Nat) = 0 by omega, show ¬ (3 : Nat) = 1 by omega, show ¬ (3 : Nat) = 4 by omega, show ¬ (3 : Nat) = 5 by omega, ↓reduceIte, ite_self]
    by_cases c41 : cl j = 41
    · simp only [if_pos c41, ↓reduceIte, ne10, ite_self]
      refine ⟨1, _, rfl, gof _, Or.inl ⟨_, ?_, rfl, mo_go (V := V) (c := c) (st' := 5) (by omega) (fun _ _ => rfl) hZ⟩⟩
      rw [hstep]
      unfold xHd
      rw [if_neg (by omega), if_neg (by omega), if_neg (by omega), if_pos ⟨by omega, c41⟩]
    · simp only [if_neg c41, ↓reduceIte, ite_self]
      by_cases c44 : cl j = 44
      · simp only [if_pos c44, ↓reduceIte, ne10, ite_self]
        refine ⟨1, _, rfl, gof _, Or.inl ⟨_, ?_, rfl, mo_go (V := V) (c := c) (st' := 4) (by omega) (fun _ _ => rfl) hZ⟩⟩
        rw [hstep]
        unfold xHd
        rw [if_neg (by omega), if_neg (by omega), if_neg (by omega), if_neg (fun h => c41 h.2), if_pos rfl, if_pos c44]
      · simp only [if_neg c44, ↓reduceIte, ite_self]
        refine ⟨0, _, rfl, FrP.rf, Or.inr ⟨?_, rfl⟩⟩
        rw [hstep]
        unfold xHd
        rw [if_neg (by omega), if_neg (by omega), if_neg (by omega), if_neg (fun h => c41 h.2), if_pos rfl, if_neg c44]
  · simp only [show ¬ (4 : Nat) = 0 by omega, show ¬ (4 : Nat) = 1 by omega, show ¬ (4 : Nat) = 3 by omega, show ¬ (4 : Nat) = 5 by omega, ↓reduceIte]
    by_cases c200 : cl j = 200
    · rw [if_pos c200]
      refine ⟨1, _, rfl, prf _, Or.inl ⟨_, ?_, rfl, mo_prm (V := V) (c := c) (by omega) hZ⟩⟩
      rw [hstep]
      unfold xHd
      rw [if_neg (by omega), if_neg (by omega), if_neg (by omega), if_neg (fun h => h.1 rfl), if_neg (by omega), if_pos c200]
    · rw [if_neg c200]
      refine ⟨0, _, rfl, prf0, Or.inr ⟨?_, rfl⟩⟩
      rw [hstep]
      unfold xHd
      rw [if_neg (by omega), if_neg (by omega), if_neg (by omega), if_neg (fun h => h.1 rfl), if_neg (by omega), if_neg c200]
  · have hb := hbl rfl
    simp only [show ¬ (5 : Nat) = 0 by omega, show ¬ (5 : Nat) = 1 by omega, ↓reduceIte, ite_self, mob_yes b1' hb, Option.bind_some, ne10]
    by_cases c123 : cl j = 123
    · simp only [if_pos c123, ↓reduceIte, ne10, ite_self]
      refine ⟨1, _, rfl, FrP.ints (fun i a _ _ => up_ne a) (fun i a b _ _ _ => (up_ne a).trans (up_ne b)) rfl, Or.inl ⟨_, ?_, rfl, mo_blk (V := V) (I := r.2.1) (c := c) (te := 0) (ag := 0) nil0 (fun _ _ => rfl) hb hfj hZ⟩⟩
      rw [hstep]
      unfold xHd
      rw [if_neg (by omega), if_neg (by omega), if_pos rfl, if_pos c123]
    · simp only [if_neg c123, ↓reduceIte, ite_self]
      refine ⟨0, _, rfl, FrP.rf, Or.inr ⟨?_, rfl⟩⟩
      rw [hstep]
      unfold xHd
      rw [if_neg (by omega), if_neg (by omega), if_pos rfl, if_neg c123]
