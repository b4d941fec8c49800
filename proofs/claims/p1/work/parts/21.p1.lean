/-! p1: one call on fresh objects -/
def R1 (k d b : DS) (r : RS) : Prop := k = k0 ∧ d = d0 ∧ b = d0 ∧ r = r0
def R2 (_ _ _ : DS) (_ : RS) : Prop := True
theorem r_start (An : DS → Prop) (h : An d0) : Rel An k0 d0 d0 r0 := ⟨⟨rfl, by decide, by decide, fun i hi => by
  have h1 : (d0.2 3).toInt = 0 := by decide
  omega⟩, ⟨rfl, rfl, by decide, fun i _ hi => by
  have h1 : (k0.2 0).toInt = 0 := by decide
  omega⟩, rfl, Or.inr ⟨rfl, h⟩⟩
theorem toA {F : DS → DS → DS → Option (Int32 × DS × DS × DS)} {G : RS → Option (Int32 × RS)} (h : OpA (Rel (fun _ => True)) F G) : OpA2 R1 R2 F G := by
  intro k d b r ⟨e1, e2, e3, e4⟩
  subst e1; subst e2; subst e3; subst e4
  obtain ⟨q, q', f1, f2, f3, -⟩ := h _ _ _ _ (r_start _ trivial)
  exact ⟨q, q', f1, f2, f3, trivial⟩
theorem toV {F : DS → DS → DS → Option (Int32 × DS × DS × DS)} {G : RS → Option RS} (h : OpV (Rel (fun _ => True)) F G) : OpV2 R1 R2 F G := by
  intro k d b r ⟨e1, e2, e3, e4⟩
  subst e1; subst e2; subst e3; subst e4
  obtain ⟨q, q', t, f1, f2, f3, f4, -⟩ := h _ _ _ _ (r_start _ trivial)
  exact ⟨q, q', t, f1, f2, f3, f4, trivial⟩
theorem toX {F : DS → DS → DS → OS → Option (Int32 × DS × DS × DS × OS)} {G : RS → Option (Int32 × RS)} (h : OpX (Rel (fun _ => True)) F G) : OpX2 R1 R2 F G := by
  intro k d b o r ⟨e1, e2, e3, e4⟩
  subst e1; subst e2; subst e3; subst e4
  obtain ⟨q, q', t, f1, f2, f3, f4, f5, -⟩ := h _ _ _ o _ (r_start _ trivial)
  exact ⟨q, q', t, f1, f2, f3, f4, f5, trivial⟩
theorem lp_lit {α β : Type} {B : (α → Option β) → α → Option β} {x : α} : lpN B 100000 x = B (lpN B 99999) x := rfl
theorem d0_ref : f_Dr_refresh d0 = some d0 := by
  unfold f_Dr_refresh
  rfl
theorem an0 : ∃ r' : RS, f_Mo_analyse (r0.1, (va_up r0.2.1 0 0), r0.2.2) = some r' ∧ r'.2.1 3 = 0 ∧ r'.2.1 5 = 0 ∧ r'.2.1 1 = 0 ∧ r'.2.1 0 = 0 ∧ r'.2.1 16 = 0 ∧ r'.2.1 17 = 0 := by
  refine ⟨_, rfl, rfl, rfl, rfl, rfl, rfl, rfl⟩
theorem p1_tokens : OpA2 R1 R2 f_X_tokens f_Mo_tokens := by
  intro k d b r ⟨e1, e2, e3, e4⟩
  subst e1; subst e2; subst e3; subst e4
  obtain ⟨r', f1, f2, -⟩ := an0
  unfold f_X_tokens f_Mo_tokens
  rw [d0_ref, f1]
  exact ⟨_, _, rfl, rfl, f2.symm, trivial⟩
def rA : RS := (f_Mo_analyse (r0.1, (va_up r0.2.1 0 0), r0.2.2)).getD r0
theorem an1 : f_Mo_analyse (r0.1, (va_up r0.2.1 0 0), r0.2.2) = some rA := rfl
theorem p1_faults : OpA2 R1 R2 f_X_faults f_Mo_faults := by
  intro k d b r ⟨e1, e2, e3, e4⟩
  subst e1; subst e2; subst e3; subst e4
  unfold f_X_faults f_Mo_faults
  rw [d0_ref, an1]
  exact ⟨_, _, rfl, rfl, rfl, trivial⟩
theorem p1_fault (a : Int32) : OpX2 R1 R2 (f_La_fault a) (f_Mo_fault a) := by
  intro k d b o r ⟨e1, e2, e3, e4⟩
  subst e1; subst e2; subst e3; subst e4
  have x1 : f_X_fault a k0 d0 d0 = some (4, 0, k0, d0, d0) := by
    unfold f_X_fault
    rw [d0_ref]
    simp only [Option.bind_some]
    by_cases h : a < 0
    · rw [if_pos h]
    · have h2 : ¬ a < d0.2 1 := h
      rw [if_neg h, if_neg h2]
  have x2 : f_Mo_fault a r0 = some (0, (rA.1, (va_up rA.2.1 0 1), rA.2.2)) := by
    unfold f_Mo_fault
    rw [an1]
    simp only [Option.bind_some, f_Mo_fails]
    by_cases h : a < 0
    · rw [if_pos h]
    · have h2 : ¬ a < rA.2.1 5 := h
      rw [if_neg h, if_neg h2]
  unfold f_La_fault f_Mo_thrown
  rw [x1, x2]
  exact ⟨_, _, _, rfl, rfl, rfl, rfl, fun h => absurd h ne10, trivial⟩
theorem p1_token (a c : Int32) : OpX2 R1 R2 (f_La_token a c) (f_Mo_token a c) := by
  intro k d b o r ⟨e1, e2, e3, e4⟩
  subst e1; subst e2; subst e3; subst e4
  unfold f_La_token f_X_token f_Mo_token f_Mo_thrown
  rw [d0_ref, an1]
  simp only [Option.bind_some, f_Mo_fails]
  have ne20 : ¬ (2 : Int32) = 0 := by decide
  by_cases h1 : c < 0
  · rw [if_pos h1, if_pos h1]
    exact ⟨_, _, _, rfl, rfl, rfl, rfl, fun h => absurd h ne10, trivial⟩
  · rw [if_neg h1, if_neg h1]
    by_cases h2 : c ≤ 3
    · rw [if_pos h2, if_pos h2]
      by_cases h : a < 0
      · rw [if_pos h, if_pos h]
        exact ⟨_, _, _, rfl, rfl, rfl, rfl, fun h => absurd h ne20, trivial⟩
      · have h3 : ¬ a < d0.2 4 := h
        have h4 : ¬ a < rA.2.1 3 := h
        rw [if_neg h, if_neg h, if_neg h3, if_neg h4]
        exact ⟨_, _, _, rfl, rfl, rfl, rfl, fun h => absurd h ne20, trivial⟩
    · rw [if_neg h2, if_neg h2]
      exact ⟨_, _, _, rfl, rfl, rfl, rfl, fun h => absurd h ne10, trivial⟩
theorem da0 (a : Int32) : f_Dr_declarationAt a d0 = some (-1, d0) := rfl
theorem ba0 (a : Int32) : f_Mo_boundAt a rA = some (-1, rA) := rfl
theorem p1_reference (a c : Int32) : OpX2 R1 R2 (f_La_reference a c) (f_Mo_reference a c) := by
  intro k d b o r ⟨e1, e2, e3, e4⟩
  subst e1; subst e2; subst e3; subst e4
  unfold f_La_reference f_X_reference f_Mo_reference f_Mo_thrown
  rw [d0_ref, an1]
  simp only [Option.bind_some, da0, ba0, f_Mo_fails]
  exact ⟨_, _, _, rfl, rfl, rfl, rfl, fun h => absurd h ne10, trivial⟩
theorem p1_inline (a : Int32) : OpX2 R1 R2 (f_La_inline a) (f_Mo_inline a) := by
  intro k d b o r ⟨e1, e2, e3, e4⟩
  subst e1; subst e2; subst e3; subst e4
  have ne20 : ¬ (2 : Int32) = 0 := by decide
  have x1 : f_X_inline a k0 d0 d0 = some (4, 0, k0, d0, d0) := by
    unfold f_X_inline
    rw [d0_ref]
    simp only [Option.bind_some, da0]
    rfl
  have x2 : f_Mo_inline a r0 = some (0, (rA.1, (va_up rA.2.1 0 2), rA.2.2)) := by
    unfold f_Mo_inline
    rw [an1]
    simp only [Option.bind_some, ba0, f_Mo_fails]
    rfl
  unfold f_La_inline f_Mo_thrown
  rw [x1, x2]
  exact ⟨_, _, _, rfl, rfl, rfl, rfl, fun h => absurd h ne20, trivial⟩
theorem p1_run (a : Int32) : OpX2 R1 R2 (f_La_run a) (f_Mo_run a) := by
  intro k d b o r ⟨e1, e2, e3, e4⟩
  subst e1; subst e2; subst e3; subst e4
  have ne20 : ¬ (2 : Int32) = 0 := by decide
  have y1 : f_Fn_find (tabW 6) d0 = some (-1, d0) := rfl
  have y2 : f_Mo_functionNamed 468013 rA = some (-1, rA) := rfl
  have x1 : f_X_run a k0 d0 d0 = some (4, 0, k0, d0, d0) := by
    unfold f_X_run
    rw [d0_ref]
    simp only [Option.bind_some, y1]
    rfl
  have x2 : f_Mo_run a r0 = some (0, (rA.1, (va_up rA.2.1 0 2), rA.2.2)) := by
    unfold f_Mo_run
    rw [an1]
    simp only [Option.bind_some, y2, f_Mo_fails]
    rfl
  unfold f_La_run f_Mo_thrown
  rw [x1, x2]
  exact ⟨_, _, _, rfl, rfl, rfl, rfl, fun h => absurd h ne20, trivial⟩
theorem p1_rename (a : Int32) (w : Int64) : OpX2 R1 R2 (f_La_rename a w) (f_Mo_rename a w) := by
  intro k d b o r ⟨e1, e2, e3, e4⟩
  subst e1; subst e2; subst e3; subst e4
  have ne30 : ¬ (3 : Int32) = 0 := by decide
  rcases name_ok w (r0.1, (va_up r0.2.1 0 0), r0.2.2) rfl with ⟨h1, h2⟩ | ⟨h1, h2, c, h3, h4⟩ | ⟨h1, h2, c, h3, h4, -⟩
  · have x1 : f_X_rename a w k0 d0 d0 = some (1, 0, k0, d0, d0) := by
      unfold f_X_rename
      rw [h1]; rfl
    have x2 : f_Mo_rename a w r0 = some (0, (r0.1, (va_up (va_up r0.2.1 0 0) 0 1), r0.2.2)) := by
      unfold f_Mo_rename
      rw [h2]; rfl
    unfold f_La_rename f_Mo_thrown
    rw [x1, x2]
    exact ⟨_, _, _, rfl, rfl, rfl, rfl, fun h => absurd h ne10, trivial⟩
  · have x1 : f_X_rename a w k0 d0 d0 = some (1, 0, k0, d0, d0) := by
      unfold f_X_rename
      rw [h1]; rfl
    have x2 : f_Mo_rename a w r0 = some (0, (r0.1, (va_up (va_up r0.2.1 0 0) 0 1), r0.2.2)) := by
      unfold f_Mo_rename
      rw [h2]
      simp only [Option.bind_some]
      rw [if_neg (by decide), h3]
      simp only [Option.bind_some]
      rw [if_neg h4]; rfl
    unfold f_La_rename f_Mo_thrown
    rw [x1, x2]
    exact ⟨_, _, _, rfl, rfl, rfl, rfl, fun h => absurd h ne10, trivial⟩
  · have x1 : f_X_rename a w k0 d0 d0 = some (4, 0, k0, d0, d0) := by
      unfold f_X_rename
      rw [h1]
      simp only [Option.bind_some, d0_ref, da0]
      rfl
    have x2 : f_Mo_rename a w r0 = some (0, (rA.1, (va_up rA.2.1 0 3), rA.2.2)) := by
      unfold f_Mo_rename
      rw [h2]
      simp only [Option.bind_some]
      rw [if_neg (by decide), h3]
      simp only [Option.bind_some]
      rw [if_pos h4, an1]
      simp only [Option.bind_some, ba0, f_Mo_fails]
      rfl
    unfold f_La_rename f_Mo_thrown
    rw [x1, x2]
    exact ⟨_, _, _, rfl, rfl, rfl, rfl, fun h => absurd h ne30, trivial⟩
theorem p1_ops : Ops2 R1 R2 := ⟨fun a => toA (op_type _ a), fun a => toA (op_word _ a), fun a c => toV (op_insert _ a c), fun a c => toV (op_remove _ a c), toA (op_length _), fun a => toX (op_letter _ a), p1_tokens, p1_token, p1_faults, p1_fault, p1_reference, p1_rename, p1_inline, p1_run, fun a => toX (op_output _ a)⟩
theorem p1_pure {L : Nat} (hL : L ≤ 4) (xs : Nat → Int32) : lpN (BLa_law_23 L xs) 100000 (0, k0, d0, d0, r0, o0) = some 1 := by
  have h0 : ((0 : Int32), k0, d0, d0, r0, o0).1.toInt = 4 * ((0 : Nat) : Int) := by show (0 : Int32).toInt = _; decide
  show BLa_law_23 L xs (lpN (BLa_law_23 L xs) 99999) _ = some 1
  by_cases hg : Int32.ofNat L - 4 < ((0 : Int32), k0, d0, d0, r0, o0).1
  · unfold BLa_law_23
    rw [if_pos hg]
  · obtain ⟨k, d, b, r, o, -, e⟩ := law_step (fun _ _ _ _ _ => trivial) p1_ops (L := L) (by omega) (xs := xs) (K := lpN (BLa_law_23 L xs) 99999) (j := 0) h0 hg ⟨rfl, rfl, rfl, rfl⟩
    rw [e]
    show BLa_law_23 L xs (lpN (BLa_law_23 L xs) 99998) _ = some 1
    have hg2 : Int32.ofNat L - 4 < (((0 : Int32) + 4, k, d, b, r, o) : Int32 × DS × DS × DS × RS × OS).1 := by
      have e1 : (Int32.ofNat L).toInt = L := Int32.toInt_ofNat_of_lt (by omega)
      have e4 : (4 : Int32).toInt = 4 := by decide
      show Int32.ofNat L - 4 < 0 + 4
      rw [i_lt, i_sub (by omega) (by omega), e1, e4, show ((0 : Int32) + 4).toInt = 4 from by decide]
      omega
    unfold BLa_law_23
    rw [if_pos hg2]
