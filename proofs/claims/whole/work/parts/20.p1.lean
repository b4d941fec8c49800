/-! p1: one call on fresh objects -/
def R1 (k d b : DS) (r : RS) : Prop := k = k0 ∧ d = d0 ∧ b = d0 ∧ r = r0
def R2 (_ _ _ : DS) (_ : RS) : Prop := True
theorem r_start (An : DS → Prop) (h : An d0) : Rel An k0 d0 d0 r0 := ⟨⟨rfl, by decide, by decide, fun i hi => by
  have h1 : (d0.2 3).toInt = 0 := by decide
  omega⟩, ⟨rfl, rfl, by decide, fun i _ hi => by
  have h1 : (k0.2 0).toInt = 0 := by decide
  omega⟩, rfl, Or.inr ⟨rfl, h⟩⟩
theorem toA {F : DS → DS → DS → Option (Int32 × DS × DS × DS)} {G : RS → Option (Int32 × RS)} (h : OpA (Rel (fun _ => True)) F G) : OpA2 R1 R2 F G := by
  intro k d b r ⟨e1, e2, e3, e4⟩
  subst e1; subst e2; subst e3; subst e4
  obtain ⟨q, q', f1, f2, f3, -⟩ := h _ _ _ _ (r_start _ trivial)
  exact ⟨q, q', f1, f2, f3, trivial⟩
theorem toV {F : DS → DS → DS → Option (Int32 × DS × DS × DS)} {G : RS → Option RS} (h : OpV (Rel (fun _ => True)) F G) : OpV2 R1 R2 F G := by
  intro k d b r ⟨e1, e2, e3, e4⟩
  subst e1; subst e2; subst e3; subst e4
  obtain ⟨q, q', t, f1, f2, f3, f4, -⟩ := h _ _ _ _ (r_start _ trivial)
  exact ⟨q, q', t, f1, f2, f3, f4, trivial⟩
theorem toX {F : DS → DS → DS → OS → Option (Int32 × DS × DS × DS × OS)} {G : RS → Option (Int32 × RS)} (h : OpX (Rel (fun _ => True)) F G) : OpX2 R1 R2 F G := by
  intro k d b o r ⟨e1, e2, e3, e4⟩
  subst e1; subst e2; subst e3; subst e4
  obtain ⟨q, q', t, f1, f2, f3, f4, f5, -⟩ := h _ _ _ o _ (r_start _ trivial)
  exact ⟨q, q', t, f1, f2, f3, f4, f5, trivial⟩
theorem lp_lit {α β : Type} {B : (α → Option β) → α → Option β} {x : α} : lpN B 100000 x = B (lpN B 99999) x := rfl
theorem d0_ref : f_Dr_refresh d0 = some d0 := by
  unfold f_Dr_refresh
  rfl
theorem an0 : ∃ r' : RS, f_Mo_analyse (r0.1, (va_up r0.2.1 0 0), r0.2.2) = some r' ∧ r'.2.1 3 = 0 ∧ r'.2.1 5 = 0 ∧ r'.2.1 1 = 0 ∧ r'.2.1 0 = 0 ∧ r'.2.1 16 = 0 ∧ r'.2.1 17 = 0 := by
  refine ⟨_, rfl, rfl, rfl, rfl, rfl, rfl, rfl⟩
theorem p1_tokens : OpA2 R1 R2 f_X_tokens f_Mo_tokens := by
  intro k d b r ⟨e1, e2, e3, e4⟩
  subst e1; subst e2; subst e3; subst e4
  obtain ⟨r', f1, f2, -⟩ := an0
  unfold f_X_tokens f_Mo_tokens
  rw [d0_ref, f1]
  exact ⟨_, _, rfl, rfl, f2.symm, trivial⟩
