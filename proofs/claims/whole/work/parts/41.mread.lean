/-! the model reads a part -/
theorem stp_h5 {cl nm : Nat → Nat} {f k : Nat} {x x' : XS} (hw : x.1 ≤ 5 → x.2.2.2.2.2.1 = []) (h : stp cl nm f k x = some x') : x'.1 ≤ 5 → x'.2.2.2.2.2.1 = [] := by
  by_cases h5 : 5 ≤ x.1
  · by_cases h5' : x.1 = 5
    · unfold stp at h
      rw [if_pos (by omega)] at h
      unfold xHd at h
      rw [if_neg (by omega), if_neg (by omega), if_pos h5'] at h
      split at h
      · have h := Option.some.inj h; subst h
        exact fun a => absurd (show 6 ≤ 5 from a) (by omega)
      · exact absurd h (by simp)
    · intro hx
      exfalso
      unfold stp at h
      rw [if_neg (by omega)] at h
      split at h
      · unfold xSt at h
        split at h
        · split at h
          · have h := Option.some.inj h; subst h; exact absurd (show 6 ≤ 5 from hx) (by omega)
          · exact absurd h (by simp)
        split at h
        · split at h
          · exact absurd h (by simp)
          · rename_i o te ag B _
            have h := Option.some.inj h
            subst h
            have hx' : (if B = [] then 13 else 6) ≤ 5 := hx
            split at hx' <;> omega
        repeat' split at h
        all_goals first | (have h := Option.some.inj h; subst h; revert hx; dsimp only; omega) | exact absurd h (by simp)
      split at h
      · unfold xLet at h
        split at h
        · have h := Option.some.inj h; subst h; exact absurd (show 8 ≤ 5 from hx) (by omega)
        · exact absurd h (by simp)
      split at h
      · split at h
        · have h := Option.some.inj h; subst h; exact absurd (show 9 ≤ 5 from hx) (by omega)
        · exact absurd h (by simp)
      split at h
      · exact absurd h (by simp)
      split at h
      · unfold xOpd at h
        repeat' split at h
        all_goals first | (have h := Option.some.inj h; subst h; revert hx; dsimp only; omega) | exact absurd h (by simp)
      split at h
      · split at h
        · have h := Option.some.inj h; subst h; exact absurd (show 10 ≤ 5 from hx) (by omega)
        · exact absurd h (by simp)
      split at h
      · unfold xOpr at h
        split at h
        · have h := Option.some.inj h; subst h; exact absurd (show 9 ≤ 5 from hx) (by omega)
        split at h
        · split at h
          · have h := Option.some.inj h; subst h; exact absurd (show 9 ≤ 5 from hx) (by omega)
          · exact absurd h (by simp)
        split at h
        · unfold xEnd at h
          repeat' split at h
          all_goals first | (have h := Option.some.inj h; subst h; revert hx; dsimp only; omega) | exact absurd h (by simp)
        repeat' split at h
        all_goals first | (have h := Option.some.inj h; subst h; revert hx; dsimp only; omega) | exact absurd h (by simp)
      · exact absurd h (by simp)
  · have hbl := hw (by omega)
    unfold stp at h
    rw [if_pos (by omega)] at h
    unfold xHd at h
    repeat' split at h
    all_goals first | (have h := Option.some.inj h; subst h; exact fun _ => hbl) | (have h := Option.some.inj h; subst h; exact fun a => absurd (show 6 ≤ 5 from a) (by omega)) | exact absurd h (by simp)
theorem aut_h5 {cl nm : Nat → Nat} {f : Nat} {c0 : Cds} : ∀ (i : Nat) (x : XS), aut0 cl nm f c0 i = some x → x.1 ≤ 5 → x.2.2.2.2.2.1 = [] := by
  intro i
  induction i with
  | zero =>
    intro x h
    have h := Option.some.inj h
    subst h
    exact fun _ => rfl
  | succ i ih =>
    intro x h
    have h : (aut0 cl nm f c0 i).bind (stp cl nm f (f + 1 + i)) = some x := h
    cases h3 : aut0 cl nm f c0 i with
    | none => rw [h3] at h; exact absurd h (by simp)
    | some y =>
      rw [h3] at h
      exact stp_h5 (ih y h3) h
theorem stp_e8 {cl nm : Nat → Nat} {f k : Nat} {x x' : XS} (h : stp cl nm f k x = some x') : x'.1 = 8 → x'.2.2.2.2.2.2.1 = 59 := by
  intro hx
  unfold stp at h
  split at h
  · unfold xHd at h
    repeat' split at h
    all_goals first | (have h := Option.some.inj h; subst h; revert hx; dsimp only; omega) | exact absurd h (by simp)
  split at h
  · unfold xSt at h
    split at h
    · split at h
      · have h := Option.some.inj h; subst h; exact absurd (show 6 = 8 from hx) (by omega)
      · exact absurd h (by simp)
    split at h
    · split at h
      · exact absurd h (by simp)
      · rename_i o te ag B _
        have h := Option.some.inj h
        subst h
        have hx' : (if B = [] then 13 else 6) = 8 := hx
        split at hx' <;> omega
    repeat' split at h
    all_goals first | (have h := Option.some.inj h; subst h; rfl) | (have h := Option.some.inj h; subst h; revert hx; dsimp only; omega) | exact absurd h (by simp)
  split at h
  · unfold xLet at h
    split at h
    · have h := Option.some.inj h; subst h; rfl
    · exact absurd h (by simp)
  split at h
  · split at h
    · have h := Option.some.inj h; subst h; exact absurd (show 9 = 8 from hx) (by omega)
    · exact absurd h (by simp)
  split at h
  · exact absurd h (by simp)
  split at h
  · unfold xOpd at h
    repeat' split at h
    all_goals first | (have h := Option.some.inj h; subst h; revert hx; dsimp only; omega) | exact absurd h (by simp)
  split at h
  · split at h
    · have h := Option.some.inj h; subst h; exact absurd (show 10 = 8 from hx) (by omega)
    · exact absurd h (by simp)
  split at h
  · unfold xOpr at h
    split at h
    · have h := Option.some.inj h; subst h; exact absurd (show 9 = 8 from hx) (by omega)
    split at h
    · split at h
      · have h := Option.some.inj h; subst h; exact absurd (show 9 = 8 from hx) (by omega)
      · exact absurd h (by simp)
    split at h
    · unfold xEnd at h
      repeat' split at h
      all_goals first | (have h := Option.some.inj h; subst h; revert hx; dsimp only; omega) | exact absurd h (by simp)
    repeat' split at h
    all_goals first | (have h := Option.some.inj h; subst h; revert hx; dsimp only; omega) | exact absurd h (by simp)
  · exact absurd h (by simp)
theorem aut_e8 {cl nm : Nat → Nat} {f : Nat} {c0 : Cds} : ∀ (i : Nat) (x : XS), aut0 cl nm f c0 i = some x → x.1 = 8 → x.2.2.2.2.2.2.1 = 59 := by
  intro i x h
  cases i with
  | zero =>
    have h := Option.some.inj h
    subst h
    exact fun a => absurd (show 0 = 8 from a) (by omega)
  | succ i =>
    have h : (aut0 cl nm f c0 i).bind (stp cl nm f (f + 1 + i)) = some x := h
    cases h3 : aut0 cl nm f c0 i with
    | none => rw [h3] at h; exact absurd h (by simp)
    | some y =>
      rw [h3] at h
      exact stp_e8 h
theorem stepM {cl nm sk : Nat → Nat} {N f m p : Nat} {r : RS} {j : Nat} {x : XS} (hK : TK cl nm N) (hfj : f < j) (hjm : j < m) (hmN : m ≤ N) (hp : p < 4) (hw : Wf x) (hw5 : x.1 ≤ 5 → x.2.2.2.2.2.1 = []) (hw8 : x.1 = 8 → x.2.2.2.2.2.2.1 = 59) (hX : MXk cl nm sk N f p r j x) : MO cl nm sk N f m p r j x (f_Mo_step (Int32.ofNat j) (Int32.ofNat p) r) := by
  obtain ⟨st, fr, ρ, γ, c, V⟩ := x
  have hN := hK.1
  obtain ⟨w1, w2, w3, w4, w5⟩ := hw
  dsimp only at w1 w2 w3 w4 w5 hw5
  have h6 : r.2.1 6 = Int32.ofNat st := hX.1
  have ib : inb (Int32.ofNat j) 240 = true := o_inb (by omega) (by omega)
  have hM := hX.2.1
  unfold f_Mo_step
  by_cases h5 : st ≤ 5
  · rw [if_neg (show ¬ (5 : Int32) < r.2.1 6 by rw [h6, i_lt, onat (by omega), n5]; omega)]
    have hfr := w2 (by omega)
    subst hfr
    exact MO.bd (hed_ok hK hfj hjm hmN hp h5 (fun _ => by rw [hw5 h5]; decide) hX)
  rw [if_pos (show (5 : Int32) < r.2.1 6 by rw [h6, i_lt, onat (by omega), n5]; omega)]
  have s6 : (Int32.ofNat st = 6) = (st = 6) := o_eq (b := 6) (by omega) (by omega)
  have s7 : (Int32.ofNat st = 7) = (st = 7) := o_eq (b := 7) (by omega) (by omega)
  have s8 : (Int32.ofNat st = 8) = (st = 8) := o_eq (b := 8) (by omega) (by omega)
  have s9 : (Int32.ofNat st = 9) = (st = 9) := o_eq (b := 9) (by omega) (by omega)
  have s10 : (Int32.ofNat st = 10) = (st = 10) := o_eq (b := 10) (by omega) (by omega)
  have s12 : (Int32.ofNat st = 12) = (st = 12) := o_eq (b := 12) (by omega) (by omega)
  have s13 : (Int32.ofNat st = 13) = (st = 13) := o_eq (b := 13) (by omega) (by omega)
  have h40 := is_ok (t := 40) (a2 := 40) hK hM (show j < N by omega) rfl (by omega) (by omega)
  have h61 := is_ok (t := 61) (a2 := 61) hK hM (show j < N by omega) rfl (by omega) (by omega)
  obtain ⟨t5, -⟩ := hM.2.2 j (by omega)
  have hkl := kk_le (cl j)
  have q2 : (Int32.ofNat (kk (cl j)) = 2) = (cl j = 200) := by
    rw [show ((2 : Int32) = Int32.ofNat 2) from rfl, o_eq (by omega) (by omega)]; exact propext kk_2
  simp only [h6, s6, s7, s8, s9, s10, s12, s13, h40, h61, Option.bind_some, ib, ↓reduceIte, o_nat (show j < 2147483648 by omega), t5, q2]
  by_cases c6 : st = 6
  · subst c6
    have hfr := w2 (by omega)
    subst hfr
    rw [if_pos rfl]
    exact MO.bd (stm_ok hK hfj hjm hmN (w1 (by omega) (by omega)) hX)
  rw [if_neg c6]
  by_cases c7 : st = 7
  · subst c7
    have hfr := w2 (by omega)
    subst hfr
    rw [if_pos rfl]
    obtain ⟨⟨o, te, ag⟩, B, hBv⟩ : ∃ B0 B, V.1 = B0 :: B := by
      cases hv : V.1 with
      | nil => exact absurd hv (w1 (by omega) (by omega))
      | cons a b => exact ⟨a, b, rfl⟩
    have hZ := hX.2
    have hZ' : MZ cl nm sk N f p r j 7 [] ρ γ ((o, te, ag) :: B) V.2.1 V.2.2.1 V.2.2.2.2.2.1 V.2.2.2.2.2.2.1 V.2.2.2.2.2.2.2.1 V.2.2.2.2.2.2.2.2 := by
      rw [← hBv]; exact hZ
    obtain ⟨-, -, -, ⟨z0, z00, z1, z2, z3, -⟩, -⟩ := id hZ'
    have z0' : r.2.1 7 = Int32.ofNat (B.length + 1) := z0
    have z00' : B.length + 1 ≤ 4 := z00
    have z1' : r.1 21 B.length = Int32.ofNat o := z1
    have e7 : r.2.1 7 - 1 = Int32.ofNat B.length := by
      rw [z0']
      exact o_sub (a := B.length + 1) (b := 1) (by omega)
    simp only [e7, o_inb (show B.length < 5 by omega) (show B.length < 2147483648 by omega), o_nat (show B.length < 2147483648 by omega), z1', ↓reduceIte]
    have hstep : stp cl nm f j (7, [], ρ, γ, c, V) = xLet j (cl j) ρ γ c V := rfl
    have hfr : ∀ I : Nat → Int32, (∀ i, i ≠ 6 → i ≠ 7 → i ≠ 8 → i ≠ 9 → i ≠ 10 → I i = r.2.1 i) → FrP p f m r (va_up (va_up r.1 9 (upd (r.1 9) j 3)) 13 (upd (r.1 13) j (Int32.ofNat o)), I, r.2.2) := fun I hI => (FrP.cell (i0 := 9) (Or.inl rfl) (r' := (va_up r.1 9 (upd (r.1 9) j 3), r.2.1, r.2.2)) rfl ⟨by omega, hjm⟩ (fun _ _ _ _ _ _ => rfl) rfl).tr (FrP.cell (i0 := 13) (k0 := j) (v := Int32.ofNat o) (Or.inr (Or.inr (Or.inl rfl))) rfl ⟨by omega, hjm⟩ hI rfl)
    by_cases c200 : cl j = 200
    · rw [if_pos c200]
      have := mo_let (c := c) (y := (2, Int32.ofNat j)) hfj hZ'
      refine MO.bc ⟨1, _, rfl, hfr _ (fun i a _ _ _ e => (up_ne a).trans (up_ne e)), Or.inl ⟨_, ?_, rfl, this⟩⟩
      rw [hstep]
      unfold xLet
      rw [if_pos c200, hBv]
      rfl
    · rw [if_neg c200]
      refine ⟨0, _, rfl, hfr _ (fun i _ _ _ _ e => up_ne e), Or.inr ⟨?_, rfl⟩⟩
      rw [hstep]
      unfold xLet
      rw [if_neg c200]
  rw [if_neg c7]
  by_cases c8 : st = 8
  · subst c8
    have hfr := w2 (by omega)
    subst hfr
    rw [if_pos rfl]
    have hstep : stp cl nm f j (8, [], ρ, γ, c, V) = if cl j = 61 then some (9, [(0, 0, 0, [])], ρ, γ, c, V) else none := rfl
    obtain ⟨-, -, -, -, -, hL, -⟩ := id hX.2
    have hen : V.2.1 = 59 := hw8 rfl
    have h59 : (59 : Int32) = Int32.ofNat V.2.1 := by rw [hen]; rfl
    by_cases c61 : cl j = 61
    · simp only [if_pos c61, ↓reduceIte, ne10, mex]
      obtain ⟨g1, g2, g3⟩ := hL (by show 8 ≤ 8; omega) (by show 8 ≤ 12; omega)
      refine MO.bc ⟨1, _, rfl, FrP.ints (fun i _ _ a => up_ne a) (fun i a _ b e _ => (up_ne a).trans ((up_ne b).trans (up_ne e))) rfl, Or.inl ⟨_, (by rw [hstep, if_pos c61]), rfl, ?_⟩⟩
      rw [h59]
      exact mo_exp (V := V) (en' := V.2.1) (ln' := V.2.2.1) (I := r.2.1) (c := c) nil0 (fun _ _ => rfl) ⟨g1, g2, g3⟩ (Or.inl hen) (by omega) hX.2
    · simp only [if_neg c61, ↓reduceIte]
      exact ⟨0, r, rfl, FrP.rf, Or.inr ⟨by rw [hstep, if_neg c61], rfl⟩⟩
  rw [if_neg c8]
  by_cases c13 : st = 13
  · subst c13
    have hfr := w2 (by omega)
    subst hfr
    rw [if_neg (by omega), if_neg (by omega), if_neg (by omega), if_pos rfl]
    exact ⟨0, r, rfl, FrP.rf, Or.inr ⟨rfl, rfl⟩⟩
  obtain ⟨y, F, hFv⟩ : ∃ y F, fr = y :: F := by
    cases hv : fr with
    | nil => exact absurd hv (w3 (by omega) (by omega))
    | cons a b => exact ⟨a, b, rfl⟩
  subst hFv
  obtain ⟨ca, le, cn, o⟩ := y
  by_cases c9 : st = 9
  · subst c9
    rw [if_pos rfl]
    exact MO.bd (opd_ok hK hfj hjm hmN (Or.inl rfl) hX)
  rw [if_neg c9]
  by_cases c10 : st = 10
  · subst c10
    rw [if_pos rfl]
    exact MO.bd (opd_ok hK hfj hjm hmN (Or.inr rfl) hX)
  rw [if_neg c10]
  by_cases c12 : st = 12
  · subst c12
    rw [if_pos rfl]
    by_cases c40 : cl j = 40
    · simp only [if_pos c40, ↓reduceIte, ne10]
      obtain ⟨-, -, -, -, hE, -, -, -, -, -, -, -, -, h12⟩ := id hX.2
      obtain ⟨z1, z2⟩ := h12 rfl
      obtain ⟨e1, e2, e3, -⟩ := hE (by show 9 ≤ 12; omega) (by show 12 ≤ 12; omega)
      have e3' : r.2.1 8 = Int32.ofNat F.length := e3
      have hFl : F.length + 1 ≤ 5 := e2
      have ej : Int32.ofNat j - 1 = Int32.ofNat (j - 1) := o_sub (b := 1) (by omega)
      rw [ej, if_pos (o_inb (by omega) (by omega)), o_nat (by omega)]
      have frc : FrP p f m r (va_up r.1 9 (upd (r.1 9) (j - 1) 6), r.2.1, r.2.2) := FrP.cell (i0 := 9) (Or.inl rfl) rfl ⟨by omega, by omega⟩ (fun _ _ _ _ _ _ => rfl) rfl
      by_cases hF3 : F.length ≤ 3
      · rw [mof_yes (r := (va_up r.1 9 (upd (r.1 9) (j - 1) 6), r.2.1, r.2.2)) e3' (by omega), if_pos (show (0 : Int32) ≤ Int32.ofNat (j - 1) by rw [i_le, onat (by omega), n0]; omega)]
        refine MO.bd ⟨1, _, rfl, frc.tr (FrP.ints (fun i _ a b => (up_ne b).trans (up_ne a)) (fun i a _ b _ _ => (up_ne a).trans (up_ne b)) rfl), Or.inl ⟨_, ?_, rfl, mo_call (V := V) (c := c) rfl hF3 (by omega) hX.2⟩⟩
        rw [stp_call c40, if_pos hF3]
      · have : F.length = 4 := by omega
        rw [mof_no (r := (va_up r.1 9 (upd (r.1 9) (j - 1) 6), r.2.1, r.2.2)) (by show r.2.1 8 = _; rw [e3', this])]
        refine MO.bd ⟨0, _, rfl, frc, Or.inr ⟨?_, rfl⟩⟩
        rw [stp_call c40, if_neg hF3]
    · simp only [if_neg c40, ↓reduceIte, h6, show ¬ (Int32.ofNat 12 = 13) by decide]
      exact MO.bc (opr_ok hK hfj hjm hmN (Or.inr rfl) (fun h => c40 h.2) hX)
  · have c11 : st = 11 := by omega
    subst c11
    rw [if_neg c12, if_neg c13]
    exact MO.bc (opr_ok hK hfj hjm hmN (Or.inl rfl) (fun h => by omega) hX)
