/-! the code of a whole part -/
theorem gd_app {c w : Cds} {i : Nat} (h : i < c.length) : (c ++ w).getD i (0, 0) = c.getD i (0, 0) := by
  rw [List.getD_eq_getElem?_getD, List.getD_eq_getElem?_getD, List.getElem?_append_left h]
theorem stp_pre {cl nm : Nat → Nat} {W : Nat → Nat → Prop} {R Γ : Nat → Nat} {f b j : Nat} {A : Nat → Ant} {x x' : XS} (hs : St cl nm f j x x') (h : GI cl W R Γ f b j A x) : ∀ i, i < b → (xc x').getD i (0, 0) = (xc x).getD i (0, 0) := by
  intro i hi
  have hb := h.cv.1
  refine hs _ ?_ ?_ ?_ ?_ ?_ ?_ ?_ ?_ ?_ ?_ ?_ ?_ ?_ ?_ ?_ ?_ ?_ ?_ ?_ ?_ ?_ ?_ ?_ ?_ ?_
  · intro _ _ _ _ _ eX eY _
    cases eX
    cases eY
    rfl
  · intro _ _ _ _ _ eX eY _
    cases eX
    cases eY
    rfl
  · intro _ _ _ _ _ _ _ _ _ _ _ _ _ eX eY _
    cases eX
    cases eY
    rfl
  · intro _ _ _ _ _ _ eX eY _ _
    cases eX
    cases eY
    rfl
  · intro _ _ _ _ _ eX eY _
    cases eX
    cases eY
    rfl
  · intro _ _ _ _ _ _ _ _ _ _ _ _ _ _ eX eY _ _
    cases eX
    cases eY
    rfl
  · intro _ _ _ _ _ _ _ _ _ _ _ _ _ eX eY _ _
    cases eX
    cases eY
    rfl
  · intro fr ρ γ c o te ag0 bl en ln ag fin np σ α ω eX eY _
    cases eX
    cases eY
    have hb' : b ≤ c.length := hb
    show (clo c te ag0).getD i (0, 0) = c.getD i (0, 0)
    unfold clo
    split
    · exact gd_app (by omega)
    · rename_i ht
      have h1 : b < te := (h.bk.2.2.1 ht).1
      rw [List.getD_eq_getElem?_getD, List.getElem?_set_ne (by omega), ← List.getD_eq_getElem?_getD]
      exact gd_app (by omega)
  · intro _ _ _ _ _ _ _ _ _ _ _ _ _ eX eY _
    cases eX
    cases eY
    rfl
  · intro _ _ _ _ _ eX eY _
    cases eX
    cases eY
    rfl
  · intro _ _ _ _ _ _ _ _ _ _ _ _ _ _ eX eY _
    cases eX
    cases eY
    rfl
  · intro _ _ _ _ _ _ _ _ _ _ _ _ _ _ eX eY _
    cases eX
    cases eY
    rfl
  · intro _ _ _ _ _ _ _ _ _ _ _ _ _ eX eY _
    cases eX
    cases eY
    rfl
  · intro _ _ _ _ _ eX eY _
    cases eX
    cases eY
    rfl
  · intro _ _ _ _ _ _ _ _ _ eX eY _
    cases eX
    cases eY
    exact gd_app (Nat.lt_of_lt_of_le hi hb)
  · intro _ _ _ _ _ _ _ _ _ _ eX eY _ _
    cases eX
    cases eY
    exact gd_app (Nat.lt_of_lt_of_le hi hb)
  · intro _ _ _ _ _ _ _ _ _ _ eX eY _ _ _
    cases eX
    cases eY
    exact gd_app (Nat.lt_of_lt_of_le hi hb)
  · intro _ _ _ _ _ _ _ _ _ _ eX eY _ _ _ _
    cases eX
    cases eY
    rfl
  · intro _ _ _ _ _ _ _ _ _ _ eX eY _ _ _
    cases eX
    cases eY
    rfl
  · intro _ _ _ _ _ _ _ _ _ eX eY _ _
    cases eX
    cases eY
    rfl
  · intro _ _ _ _ _ _ _ _ _ _ _ _ eX eY _ _ _
    cases eX
    cases eY
    exact gd_app (Nat.lt_of_lt_of_le hi hb)
  · intro st ca le cn o ρ γ c bl ln ag fin np σ α ω eX eY _ _ _
    cases eX
    cases eY
    show (c ++ oi o ++ [(4, 0)] ++ (if ag = 0 then [] else [(5, 0)])).getD i (0, 0) = c.getD i (0, 0)
    rw [List.append_assoc, List.append_assoc]
    exact gd_app (Nat.lt_of_lt_of_le hi hb)
  · intro st ca le cn o ρ γ c bl en ln ag fin np σ α ω eX eY _ _ _
    cases eX
    cases eY
    show (c ++ oi o ++ [fin]).getD i (0, 0) = c.getD i (0, 0)
    rw [List.append_assoc]
    exact gd_app (Nat.lt_of_lt_of_le hi hb)
  · intro st ca le cn o F ρ γ c V eX eY _ _ _
    cases eX
    cases eY
    show (c ++ oi o ++ (if ca = 0 then [] else [(3, Int32.ofNat (ca - 1))])).getD i (0, 0) = c.getD i (0, 0)
    rw [List.append_assoc]
    exact gd_app (Nat.lt_of_lt_of_le hi hb)
  · intro _ _ _ _ _ _ _ _ _ _ eX eY _ _ _ _
    cases eX
    cases eY
    exact gd_app (Nat.lt_of_lt_of_le hi hb)
theorem stp_f5 {cl nm : Nat → Nat} {f j : Nat} {x x' : XS} (hs : St cl nm f j x x') (h : x.2.1.length ≤ 5) : x'.2.1.length ≤ 5 := by
  refine hs _ ?_ ?_ ?_ ?_ ?_ ?_ ?_ ?_ ?_ ?_ ?_ ?_ ?_ ?_ ?_ ?_ ?_ ?_ ?_ ?_ ?_ ?_ ?_ ?_ ?_
  · intro _ _ _ _ _ eX eY _
    cases eX
    cases eY
    show 0 ≤ 5; omega
  · intro _ _ _ _ _ eX eY _
    cases eX
    cases eY
    show 0 ≤ 5; omega
  · intro _ _ _ _ _ _ _ _ _ _ _ _ _ eX eY _
    cases eX
    cases eY
    show 0 ≤ 5; omega
  · intro _ _ _ _ _ _ eX eY _ _
    cases eX
    cases eY
    show 0 ≤ 5; omega
  · intro _ _ _ _ _ eX eY _
    cases eX
    cases eY
    show 0 ≤ 5; omega
  · intro _ _ _ _ _ _ _ _ _ _ _ _ _ _ eX eY _ _
    cases eX
    cases eY
    show 0 ≤ 5; omega
  · intro _ _ _ _ _ _ _ _ _ _ _ _ _ eX eY _ _
    cases eX
    cases eY
    show 0 ≤ 5; omega
  · intro _ _ _ _ _ _ _ _ _ _ _ _ _ _ _ _ eX eY _
    cases eX
    cases eY
    show 0 ≤ 5; omega
  · intro _ _ _ _ _ _ _ _ _ _ _ _ _ eX eY _
    cases eX
    cases eY
    show 0 ≤ 5; omega
  · intro _ _ _ _ _ eX eY _
    cases eX
    cases eY
    show 0 ≤ 5; omega
  · intro _ _ _ _ _ _ _ _ _ _ _ _ _ _ eX eY _
    cases eX
    cases eY
    show 1 ≤ 5; omega
  · intro _ _ _ _ _ _ _ _ _ _ _ _ _ _ eX eY _
    cases eX
    cases eY
    show 1 ≤ 5; omega
  · intro _ _ _ _ _ _ _ _ _ _ _ _ _ eX eY _
    cases eX
    cases eY
    show 0 ≤ 5; omega
  · intro _ _ _ _ _ eX eY _
    cases eX
    cases eY
    show 1 ≤ 5; omega
  · intro ca le cn o F _ _ _ _ eX eY _
    cases eX
    cases eY
    have h' : F.length + 1 ≤ 5 := h
    show F.length ≤ 5
    omega
  · intro st ca le cn o F _ _ _ _ eX eY _ _
    cases eX
    cases eY
    exact h
  · intro st ca le cn o F _ _ _ _ eX eY _ _ _
    cases eX
    cases eY
    exact h
  · intro st ca le cn o F _ _ _ _ eX eY _ _ _ _
    cases eX
    cases eY
    exact h
  · intro st ca le cn o F _ _ _ _ eX eY _ _ hF
    cases eX
    cases eY
    show F.length + 1 + 1 ≤ 5; omega
  · intro ca le cn o F _ _ _ _ eX eY _ hF
    cases eX
    cases eY
    show F.length + 1 + 1 ≤ 5; omega
  · intro st t le' ca le cn o F _ _ _ _ eX eY _ _ _
    cases eX
    cases eY
    exact h
  · intro _ _ _ _ _ _ _ _ _ _ _ _ _ _ _ _ eX eY _ _ _
    cases eX
    cases eY
    show 0 ≤ 5; omega
  · intro _ _ _ _ _ _ _ _ _ _ _ _ _ _ _ _ _ eX eY _ _ _
    cases eX
    cases eY
    show 0 ≤ 5; omega
  · intro st ca le cn o F _ _ _ _ eX eY _ _ _
    cases eX
    cases eY
    have h' : F.length + 1 ≤ 5 := h
    show F.length ≤ 5
    omega
  · intro st ca le cn o F _ _ _ _ eX eY _ _ _ _
    cases eX
    cases eY
    exact h
def Vis (xf : XS) (q t : Nat) : Prop := xr xf q = 2 ∨ xr xf q = 3 ∧ xal xf q ≤ t ∧ t < xom xf (xsc xf q)
def G4 (x : XS) : Prop := ∀ y, y ∈ xb x → y.2.1 ≠ 0 → y.2.1 ≤ (xc x).length ∧ ((xc x).getD (y.2.1 - 1) (0, 0)).1 = 4
theorem stp_g4 {cl nm : Nat → Nat} {f j : Nat} {x x' : XS} (hs : St cl nm f j x x') (hg : Gw (xc x) (xc x')) (h : G4 x) : G4 x' := by
  have old : ∀ y, y ∈ xb x → y.2.1 ≠ 0 → y.2.1 ≤ (xc x').length ∧ ((xc x').getD (y.2.1 - 1) (0, 0)).1 = 4 := fun y hy h0 => by
    obtain ⟨a, b⟩ := h y hy h0
    exact ⟨Nat.le_trans a hg.1, hg.2 _ (by omega) b⟩
  refine hs _ ?_ ?_ ?_ ?_ ?_ ?_ ?_ ?_ ?_ ?_ ?_ ?_ ?_ ?_ ?_ ?_ ?_ ?_ ?_ ?_ ?_ ?_ ?_ ?_ ?_
  · intro _ _ _ _ _ eX eY _
    cases eX
    cases eY
    exact old
  · intro _ _ _ _ _ eX eY _
    cases eX
    cases eY
    exact old
  · intro _ _ _ _ _ _ _ _ _ _ _ _ _ eX eY _
    cases eX
    cases eY
    intro y hy h0
    rcases List.mem_cons.mp hy with e | e
    · rw [e] at h0; exact absurd rfl h0
    · exact old y e h0
  · intro _ _ _ _ _ _ eX eY _ _
    cases eX
    cases eY
    exact old
  · intro _ _ _ _ _ eX eY _
    cases eX
    cases eY
    exact old
  · intro _ _ _ _ _ _ _ _ _ _ _ _ _ _ eX eY _ _
    cases eX
    cases eY
    exact old
  · intro _ _ _ _ _ _ _ _ _ _ _ _ _ eX eY _ _
    cases eX
    cases eY
    intro y hy h0
    rcases List.mem_cons.mp hy with e | e
    · rw [e] at h0; exact absurd rfl h0
    · exact old y e h0
  · intro _ _ _ _ _ _ _ _ _ _ _ _ _ _ _ _ eX eY _
    cases eX
    cases eY
    exact fun y hy h0 => old y (List.mem_cons_of_mem _ hy) h0
  · intro _ _ _ _ _ _ _ _ _ _ _ _ _ eX eY _
    cases eX
    cases eY
    exact old
  · intro _ _ _ _ _ eX eY _
    cases eX
    cases eY
    exact old
  · intro _ _ _ _ _ _ _ _ _ _ _ _ _ _ eX eY _
    cases eX
    cases eY
    exact old
  · intro _ _ _ _ _ _ _ _ _ _ _ _ _ _ eX eY _
    cases eX
    cases eY
    exact old
  · intro _ _ _ _ _ _ _ _ _ _ _ _ _ eX eY _
    cases eX
    cases eY
    exact old
  · intro _ _ _ _ _ eX eY _
    cases eX
    cases eY
    exact old
  · intro _ _ _ _ _ _ _ _ _ eX eY _
    cases eX
    cases eY
    exact old
  · intro _ _ _ _ _ _ _ _ _ _ eX eY _ _
    cases eX
    cases eY
    exact old
  · intro _ _ _ _ _ _ _ _ _ _ eX eY _ _ _
    cases eX
    cases eY
    exact old
  · intro _ _ _ _ _ _ _ _ _ _ eX eY _ _ _ _
    cases eX
    cases eY
    exact old
  · intro _ _ _ _ _ _ _ _ _ _ eX eY _ _ _
    cases eX
    cases eY
    exact old
  · intro _ _ _ _ _ _ _ _ _ eX eY _ _
    cases eX
    cases eY
    exact old
  · intro _ _ _ _ _ _ _ _ _ _ _ _ eX eY _ _ _
    cases eX
    cases eY
    exact old
  · intro st ca le cn o ρ γ c bl ln ag fin np σ α ω eX eY _ _ _
    cases eX
    cases eY
    intro y hy h0
    rcases List.mem_cons.mp hy with e | e
    · rw [e]
      have hl : (c ++ oi o).length = c.length + o.length := by rw [List.length_append, oi_len]
      show c.length + o.length + 1 ≤ (c ++ oi o ++ [(4, 0)] ++ (if ag = 0 then [] else [(5, 0)])).length ∧ ((c ++ oi o ++ [((4 : Int32), (0 : Int32))] ++ (if ag = 0 then [] else [(5, 0)])).getD (c.length + o.length + 1 - 1) (0, 0)).1 = 4
      rw [Nat.add_sub_cancel, gd_app (by rw [lenc, hl]; omega), ← hl, gc_new]
      refine ⟨?_, rfl⟩
      simp only [List.length_append, List.length_cons, List.length_nil]
      omega
    · exact old y e h0
  · intro _ _ _ _ _ _ _ _ _ _ _ _ _ _ _ _ _ eX eY _ _ _
    cases eX
    cases eY
    exact old
  · intro _ _ _ _ _ _ _ _ _ _ eX eY _ _ _
    cases eX
    cases eY
    exact old
  · intro _ _ _ _ _ _ _ _ _ _ eX eY _ _ _ _
    cases eX
    cases eY
    exact old
/-- All that holds at a token of a part that is read to its end. -/
def At (cl nm : Nat → Nat) (f : Nat) (c0 : Cds) (xf : XS) (j : Nat) (x : XS) : Prop := aut cl nm f c0 j = some x ∧ Stb cl j x xf ∧ Wf x ∧ AIx cl f j x ∧ (x.1 ≤ 5 → xb x = []) ∧ x.2.1.length ≤ 5 ∧ (∀ i, i < c0.length → (xc x).getD i (0, 0) = c0.getD i (0, 0)) ∧ G4 x ∧ ∃ A, GI cl (Vis xf) (xr xf) (xg xf) f c0.length j A x ∧ (A c0.length).1 = 0 ∧ (A c0.length).2.1 = 0 ∧ ∀ q, (A c0.length).2.2 q → xr xf q = 2
theorem vis_env {cl : Nat → Nat} {f m j : Nat} {xf x : XS} (h13 : xf.1 = 13) (hF : AIx cl f m xf) (hS : Stb cl j x xf) (hA : AIx cl f j x) : ∀ q, Vis xf q j → env (xr xf) (xsc x) (xal x) (xb x) q := by
  intro q hq
  rcases hq with e | ⟨e1, e2, e3⟩
  · exact Or.inl e
  · obtain ⟨-, -, s3, s4, s5⟩ := hS
    have hg : q < xal xf q ∧ xal xf q ≤ m ∨ q + 1 = xln xf ∧ 8 ≤ xf.1 ∧ xf.1 ≤ 12 := hF.2.2.2.2.2.1 q e1
    have hqj : q < xal xf q := by
      rcases hg with w | w
      · exact w.1
      · omega
    have hal : xal xf q = xal x q := by
      rcases s4 q (by omega) with w | w
      · exact w
      · omega
    have hne : xal x q ≠ 0 := by omega
    obtain ⟨l1, l2, l3⟩ : f + 2 < xsc x q ∧ xsc x q < q ∧ ((∃ y, y ∈ xb x ∧ y.1 = xsc x q) ∨ q < xom x (xsc x q) ∧ xom x (xsc x q) ≤ j) := hA.2.2.2.2.2.2.2.2.1 q (hA.2.2.2.2.2.2.1 q hne)
    refine Or.inr ⟨hne, ?_⟩
    by_cases hy : ∃ y, y ∈ xb x ∧ y.1 = xsc x q
    · exact hy
    · rcases l3 with w | w
      · exact w
      · have := s5 (xsc x q) (by omega) (fun y hm e => hy ⟨y, hm, e⟩)
        rw [s3 q (by omega)] at e3
        omega
theorem part_at {cl nm : Nat → Nat} {f m : Nat} {c0 : Cds} {xf : XS} (hm : m ≤ 240) (hxf : aut cl nm f c0 m = some xf) (h13 : xf.1 = 13) (hc0 : c0.length ≤ f) : ∀ i, f + 1 + i ≤ m → ∃ x, At cl nm f c0 xf (f + 1 + i) x := by
  have hFm : f < m → AIx cl f m xf := fun h => by
    have := (aut_ai (cl := cl) (nm := nm) (f := f) (c0 := c0) (m - (f + 1)) xf hxf).1
    rw [show f + 1 + (m - (f + 1)) = m by omega] at this
    exact this
  intro i
  induction i with
  | zero =>
    intro hi
    obtain ⟨x, hx, hS⟩ := aut_back (cl := cl) (nm := nm) (f := f) (c0 := c0) (xf := xf) (m - (f + 1)) (f + 1) (by omega) (by rw [show f + 1 + (m - (f + 1)) = m by omega]; exact hxf)
    have hx0 : aut0 cl nm f c0 0 = some x := by
      have : aut cl nm f c0 (f + 1) = aut0 cl nm f c0 0 := by unfold aut; rw [Nat.sub_self]
      rw [← this]; exact hx
    have hw := aut_wf _ _ hx0
    have hai := (aut_ai _ _ hx0).1
    have h5 := aut_h5 _ _ hx0
    have e := Option.some.inj hx0
    subst e
    refine ⟨_, hx, hS, hw, hai, h5, by show 0 ≤ 5; omega, fun _ _ => rfl, fun y hy => absurd hy List.not_mem_nil, fun _ => (0, 0, env (xr xf) (fun _ => 0) (fun _ => 0) []), ⟨⟨Nat.le_refl _, fun i _ _ => ⟨by show 0 ≤ 118; omega, by show 0 ≤ 4; omega⟩, fun i h1 h2 => absurd h2 (by show ¬ i < c0.length; omega)⟩, ?_, trivial, by show 0 ≤ 4; omega, trivial, fun h => absurd h (by show ¬ 8 ≤ 0; omega), fun _ => rfl, fun h => absurd h (by show ¬ 6 ≤ 0; omega), fun h => absurd h (by show ¬ 9 ≤ 0; omega)⟩, rfl, rfl, fun q hq => ?_⟩
    · rw [hgt_nil (by omega) (by omega)]; rfl
    · rcases hq with w | w
      · exact w
      · exact absurd rfl w.1
  | succ i ih =>
    intro hi
    obtain ⟨x, a1, a2, a3, a4, a5, a6, a7, a12, A, a8, a9, a10, a11⟩ := ih (by omega)
    obtain ⟨x', hx, hS⟩ := aut_back (cl := cl) (nm := nm) (f := f) (c0 := c0) (xf := xf) (m - (f + 1 + (i + 1))) (f + 1 + (i + 1)) (by omega) (by rw [show f + 1 + (i + 1) + (m - (f + 1 + (i + 1))) = m by omega]; exact hxf)
    have hx0 : aut0 cl nm f c0 (i + 1) = some x' := by
      have : aut cl nm f c0 (f + 1 + (i + 1)) = aut0 cl nm f c0 (i + 1) := by unfold aut; rw [Nat.add_sub_cancel_left]
      rw [← this]; exact hx
    have hai := (aut_ai _ _ hx0).1
    obtain ⟨x2, hx2, hst⟩ := aut_go (j := f + 1 + i) (by omega) (show aut cl nm f c0 (f + 1 + i + 1) = some x' from hx)
    have e := Option.some.inj (a1.symm.trans hx2)
    subst e
    have hS' : Stb cl (f + 1 + i + 1) x' xf := hS
    obtain ⟨A', g1, g2⟩ := stp_gi (W := Vis xf) (R := xr xf) (Γ := xg xf) hst (by omega) (by omega) a3 a4 a5 hc0 hS'.1 hS'.2.1 (vis_env h13 (hFm (by omega)) a2 a4) a8
    obtain ⟨b1, b2, b3⟩ := g2.at (k := c0.length) a8.cv.1
    exact ⟨x', hx, hS, aut_wf _ _ hx0, hai, aut_h5 _ _ hx0, stp_f5 hst a6, fun k hk => (stp_pre hst a8 k hk).trans (a7 k hk), stp_g4 hst (stp_gw ((aut_g (by omega) a1).symm.trans hx)) a12, A', g1, b1.trans a9, b2.trans a10, fun q hq => a11 q (b3 q hq)⟩
/-- The code of a part, from its entry to its last return. -/
def PCo (xf : XS) (c0 c : Cds) (A : Nat → Ant) : Prop := c0.length + 2 ≤ c.length ∧ (∀ i, i < c0.length → c.getD i (0, 0) = c0.getD i (0, 0)) ∧ c.getD (c.length - 1) (0, 0) = (8, 0) ∧ (∀ i, c0.length ≤ i → i < c.length → (A i).1 ≤ 118 ∧ (A i).2.1 ≤ 4 ∧ Ins (Vis xf) (xr xf) (xg xf) A c0.length (c.length - 1) i (c.getD i (0, 0))) ∧ (A c0.length).1 = 0 ∧ (A c0.length).2.1 = 0 ∧ ∀ q, (A c0.length).2.2 q → xr xf q = 2
theorem part_co {cl nm : Nat → Nat} {f m : Nat} {c0 : Cds} {xf : XS} (hfm : f < m) (hm : m ≤ 240) (hxf : aut cl nm f c0 m = some xf) (h13 : xf.1 = 13) (hc0 : c0.length ≤ f) : (xc xf).length + 5 ≤ m ∧ ∃ A, PCo xf c0 (xc xf ++ [(0, 0)] ++ [(8, 0)]) A := by
  obtain ⟨x, a1, a2, a3, a4, a5, a6, a7, a12, A, a8, a9, a10, a11⟩ := part_at hm hxf h13 hc0 (m - (f + 1)) (by omega)
  rw [show f + 1 + (m - (f + 1)) = m by omega] at a1 a2 a4 a8
  have e := Option.some.inj (a1.symm.trans hxf)
  subst e
  have hfr : x.2.1 = [] := a3.2.1 (Or.inr (by omega))
  have hbl : xb x = [] := by
    have hx0 : aut0 cl nm f c0 (m - (f + 1)) = some x := hxf
    exact aut_13 _ _ hx0 h13
  have hbu := a8.bu (by omega)
  rw [hfr] at hbu
  have hcur := a8.cur
  have hh : hgt cl m x = 0 := by
    unfold hgt
    rw [hfr, if_neg (by omega)]
    rfl
  rw [hh, hbl] at hcur
  have hcv := a8.cv
  rw [hbl] at hcv
  refine ⟨by have : oS [] = 0 := rfl; omega, ?_⟩
  obtain ⟨A', g1, g2, g3⟩ := hcv.app (p := (0, 0)) (1, 0, env (xr x) (xsc x) (xal x) []) (by show 1 ≤ 118; omega) (by show 0 ≤ 4; omega) (fun A' e1 e2 => .psh 0 (by
    have e1' : A' (xc x).length = _ := (e1 _ (Nat.le_refl _)).trans hcur
    exact ⟨by rw [e2, e1'], by rw [e2, e1']; rfl, fun q hq => by rw [e2] at hq; rw [e1']; exact hq⟩))
  have hl1 : (xc x ++ [((0 : Int32), (0 : Int32))]).length = (xc x).length + 1 := lenc
  have hl2 : (xc x ++ [((0 : Int32), (0 : Int32))] ++ [((8 : Int32), (0 : Int32))]).length = (xc x).length + 2 := by rw [lenc, hl1]
  have hb := hcv.1
  have hn : (xc x ++ [((0 : Int32), (0 : Int32))] ++ [((8 : Int32), (0 : Int32))]).length - 1 = (xc x ++ [((0 : Int32), (0 : Int32))]).length := by rw [lenc]; rfl
  refine ⟨A', by rw [hl2]; omega, fun i hi => ?_, ?_, fun i h1 h2 => ?_, ?_, ?_, ?_⟩
  · rw [List.append_assoc, gd_app (by omega)]
    exact a7 i hi
  · rw [hn, gc_new]
  · rw [hn]
    have hh := g1.2.1 i (by rw [hl1]; omega) h1
    refine ⟨hh.1, hh.2, ?_⟩
    by_cases hi : i < (xc x ++ [((0 : Int32), (0 : Int32))]).length
    · rw [gd_app hi]
      exact g1.2.2 i h1 hi (fun y hy => absurd hy List.not_mem_nil)
    · have : i = (xc x ++ [((0 : Int32), (0 : Int32))]).length := by omega
      subst this
      rw [gc_new]
      exact .ret (by rw [g3])
  · rw [g2 _ hb]; exact a9
  · rw [g2 _ hb]; exact a10
  · rw [g2 _ hb]; exact a11
