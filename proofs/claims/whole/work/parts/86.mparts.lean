/-! the model's function: the numbers of the variables, the first bracket, and all parts -/
def dn (R : Nat → Nat) (f : Nat) : Nat → Nat
  | 0 => 0
  | q + 1 => dn R f q + (if f ≤ q ∧ (R q = 2 ∨ R q = 3) then 1 else 0)
theorem dn_le (R : Nat → Nat) (f : Nat) : ∀ q, dn R f q ≤ q
  | 0 => Nat.le_refl _
  | q + 1 => by
    have := dn_le R f q
    show dn R f q + (if _ then 1 else 0) ≤ q + 1
    split <;> omega
theorem dn_0 (R : Nat → Nat) (f : Nat) : ∀ q, q ≤ f → dn R f q = 0
  | 0, _ => rfl
  | q + 1, h => by
    have := dn_0 R f q (by omega)
    show dn R f q + (if _ then 1 else 0) = 0
    rw [this, if_neg (by omega)]
theorem dn_lt {R : Nat → Nat} {f q : Nat} (h1 : f ≤ q) (h : R q = 2 ∨ R q = 3) : ∀ z, dn R f q < dn R f (q + 1 + z)
  | 0 => by
    show dn R f q < dn R f q + (if _ then 1 else 0)
    rw [if_pos ⟨h1, h⟩]
    omega
  | z + 1 => by
    have := dn_lt h1 h z
    show dn R f q < dn R f (q + 1 + z) + (if _ then 1 else 0)
    omega
section
variable {cl nm sk : Nat → Nat} {N : Nat} {R zb : Nat → Nat} {f m p : Nat}
theorem f19_end {K : Int32 × Int32 × Int32 × RS → Option RS} {k : Nat} {v : Int32} {r : RS} (hp : p < 4) (hm : m ≤ 240) (hk : k ≤ 240) (h : m ≤ k) (h17 : r.1 17 p = Int32.ofNat m) : BMo_function_19 K (Int32.ofNat p, v, Int32.ofNat k, r) = lpN BMo_function_72 100000 (Int32.ofNat p, v, r.1 16 p, r) := by
  have ip : inb (Int32.ofNat p) 122 = true := o_inb (by omega) (by omega)
  unfold BMo_function_19
  generalize lpN BMo_function_72 100000 = G
  dsimp only
  rw [if_pos ip, o_nat (by omega), h17, if_pos (by rw [o_le (by omega) (by omega)]; exact h), if_pos ip]
theorem f19_dec {K : Int32 × Int32 × Int32 × RS → Option RS} {k : Nat} {v : Int32} {r : RS} (hp : p < 4) (hm : m ≤ 240) (h : k < m) (h17 : r.1 17 p = Int32.ofNat m) (h9 : r.1 9 k = 2 ∨ r.1 9 k = 3) : BMo_function_19 K (Int32.ofNat p, v, Int32.ofNat k, r) = K (Int32.ofNat p, v + 1, Int32.ofNat (k + 1), (va_up r.1 27 (upd (r.1 27) k v), r.2.1, r.2.2)) := by
  have ip : inb (Int32.ofNat p) 122 = true := o_inb (by omega) (by omega)
  have ik : inb (Int32.ofNat k) 240 = true := o_inb (by omega) (by omega)
  unfold BMo_function_19
  generalize lpN BMo_function_72 100000 = G
  dsimp only
  rw [if_pos ip, o_nat (by omega), h17, if_neg (by rw [o_le (by omega) (by omega)]; omega), if_pos ik, o_nat (by omega)]
  rcases h9 with h9 | h9
  · rw [if_pos h9, if_pos ik, o_p1]
  · rw [if_neg (show ¬ r.1 9 k = 2 by rw [h9]; decide), if_pos ik, if_pos h9, if_pos ik, o_p1]
theorem f19_no {K : Int32 × Int32 × Int32 × RS → Option RS} {k : Nat} {v : Int32} {r : RS} (hp : p < 4) (hm : m ≤ 240) (h : k < m) (h17 : r.1 17 p = Int32.ofNat m) (h2 : r.1 9 k ≠ 2) (h3 : r.1 9 k ≠ 3) : BMo_function_19 K (Int32.ofNat p, v, Int32.ofNat k, r) = K (Int32.ofNat p, v, Int32.ofNat (k + 1), r) := by
  have ip : inb (Int32.ofNat p) 122 = true := o_inb (by omega) (by omega)
  have ik : inb (Int32.ofNat k) 240 = true := o_inb (by omega) (by omega)
  unfold BMo_function_19
  generalize lpN BMo_function_72 100000 = G
  dsimp only
  rw [if_pos ip, o_nat (by omega), h17, if_neg (by rw [o_le (by omega) (by omega)]; omega), if_pos ik, o_nat (by omega), if_neg h2, if_pos ik, if_neg h3, o_p1]
theorem f72_no {K : Int32 × Int32 × Int32 × RS → Option RS} {j : Nat} {a n : Int32} {r : RS} (hi : f_Mo_is (Int32.ofNat j) 123 r = some (0, r)) : BMo_function_72 K (a, n, Int32.ofNat j, r) = K (a, n, Int32.ofNat (j + 1), r) := by
  unfold BMo_function_72
  generalize lpN BMo_function_91 100000 = G
  dsimp only
  rw [hi, Option.bind_some]
  dsimp only
  rw [if_pos rfl, o_p1]
theorem f72_yes {K : Int32 × Int32 × Int32 × RS → Option RS} {j : Nat} {a n : Int32} {r : RS} (hi : f_Mo_is (Int32.ofNat j) 123 r = some (1, r)) : BMo_function_72 K (a, n, Int32.ofNat j, r) = lpN BMo_function_91 100000 (a, n, Int32.ofNat j, 0, r) := by
  unfold BMo_function_72
  generalize lpN BMo_function_91 100000 = G
  dsimp only
  rw [hi, Option.bind_some]
  dsimp only
  rw [if_neg (show ¬ (1 : Int32) = 0 by decide)]
theorem fn19 (hK : TK cl nm N) (hmN : m ≤ N) (hp : p < 4) : ∀ (z k : Nat) (r : RS) (M : Nat), m - k = z → f ≤ k → k ≤ m → MQt cl nm sk N R zb r → r.1 16 p = Int32.ofNat f → r.1 17 p = Int32.ofNat m → ∃ r' : RS, lpN BMo_function_19 (M + z + 1) (Int32.ofNat p, Int32.ofNat (dn R f k), Int32.ofNat k, r) = lpN BMo_function_72 100000 (Int32.ofNat p, Int32.ofNat (dn R f m), Int32.ofNat f, r') ∧ (∀ i, i ≠ 27 → r'.1 i = r.1 i) ∧ r'.2 = r.2 ∧ ∀ q, r'.1 27 q = if k ≤ q ∧ q < m ∧ (R q = 2 ∨ R q = 3) then Int32.ofNat (dn R f q) else r.1 27 q := by
  have hN := hK.1
  have ip : inb (Int32.ofNat p) 122 = true := o_inb (by omega) (by omega)
  intro z
  induction z with
  | zero =>
    intro k r M h1 h2 h3 hM h16 h17
    have : k = m := by omega
    subst this
    refine ⟨r, ?_, fun _ _ => rfl, rfl, fun q => by rw [if_neg (by omega)]⟩
    rw [Nat.add_zero, lp_succ, f19_end hp (by omega) (by omega) (Nat.le_refl _) h17, h16]
  | succ z ih =>
    intro k r M h1 h2 h3 hM h16 h17
    obtain ⟨m9, m6, mc, m10, mN⟩ := hM.2.1 k (by omega)
    have hle : (Int32.ofNat m ≤ Int32.ofNat k) = False := (o_le (by omega) (by omega)).trans (eq_false (by omega))
    have ik : inb (Int32.ofNat k) 240 = true := o_inb (by omega) (by omega)
    have e2 : (r.1 9 k = 2) = (R k = 2) := by rw [m9]; exact o_eq (b := 2) (by omega) (by omega)
    have e3 : (r.1 9 k = 3) = (R k = 3) := by rw [m9]; exact o_eq (b := 3) (by omega) (by omega)
    have hd : dn R f (k + 1) = dn R f k + (if f ≤ k ∧ (R k = 2 ∨ R k = 3) then 1 else 0) := rfl
    rw [show M + (z + 1) + 1 = (M + z + 1) + 1 by omega, lp_succ]
    by_cases hR : R k = 2 ∨ R k = 3
    · rw [if_pos ⟨h2, hR⟩] at hd
      have hfr : FrF r (va_up r.1 27 (upd (r.1 27) k (Int32.ofNat (dn R f k))), r.2.1, r.2.2) := ⟨fun i a => up_ne (by omega), fun _ _ => rfl, rfl⟩
      obtain ⟨r', g1, g2, g3, g4⟩ := ih (k + 1) (va_up r.1 27 (upd (r.1 27) k (Int32.ofNat (dn R f k))), r.2.1, r.2.2) M (by omega) (by omega) (by omega) (hM.cg hfr) h16 h17
      refine ⟨r', ?_, fun i hi => (g2 i hi).trans (up_ne hi), g3, fun q => ?_⟩
      · rw [← g1, hd, f19_dec hp (by omega) (by omega) h17 (by rcases hR with hR | hR; exact Or.inl (e2.mpr hR); exact Or.inr (e3.mpr hR)), o_p1]
      · rw [g4 q]
        show (if _ then _ else upd (r.1 27) k (Int32.ofNat (dn R f k)) q) = _
        by_cases hq : q = k
        · rw [hq, if_neg (by omega), if_pos ⟨Nat.le_refl _, by omega, hR⟩, ud_eq]
        · rw [ud_ne hq]
          by_cases hc : k + 1 ≤ q ∧ q < m ∧ (R q = 2 ∨ R q = 3)
          · rw [if_pos hc, if_pos ⟨by omega, hc.2⟩]
          · rw [if_neg hc, if_neg (fun h => hc ⟨by omega, h.2⟩)]
    · rw [if_neg (fun h => hR h.2), Nat.add_zero] at hd
      obtain ⟨r', g1, g2, g3, g4⟩ := ih (k + 1) r M (by omega) (by omega) (by omega) hM h16 h17
      refine ⟨r', ?_, g2, g3, fun q => ?_⟩
      · have hd' : dn R f (k + 1) = dn R f k := hd
        rw [← g1, hd', f19_no hp (by omega) (by omega) h17 (fun w => hR (Or.inl (e2.mp w))) (fun w => hR (Or.inr (e3.mp w)))]
      · rw [g4 q]
        by_cases hq : q = k
        · rw [hq, if_neg (by omega), if_neg (fun h => hR h.2.2)]
        · by_cases hc : k + 1 ≤ q ∧ q < m ∧ (R q = 2 ∨ R q = 3)
          · rw [if_pos hc, if_pos ⟨by omega, hc.2⟩]
          · rw [if_neg hc, if_neg (fun h => hc ⟨by omega, h.2⟩)]
theorem fn72 {sl : Nat → Nat} {c0 : Cds} {xf : XS} {n : Int32} (hP : Pt cl nm sk N R zb sl f m c0 xf) {r : RS} (hM : MQt cl nm sk N R zb r) : ∀ (z j : Nat) (x : XS) (M : Nat), m - j ≤ z → f < j → j ≤ m → At cl nm f c0 xf j x → x.1 ≤ 5 → ∃ (j0 : Nat) (x0 : XS), f < j0 ∧ j0 ≤ m ∧ At cl nm f c0 xf j0 x0 ∧ x0.1 = 5 ∧ cl j0 = 123 ∧ lpN BMo_function_72 (M + z + 1) (Int32.ofNat p, n, Int32.ofNat j, r) = lpN BMo_function_91 100000 (Int32.ofNat p, n, Int32.ofNat j0, 0, r) := by
  have hK := hP.tk
  have hN := hK.1
  have hmN := hP.mN
  intro z
  induction z with
  | zero =>
    intro j x M h1 h2 h3 hA h5
    have := hP.lt h3 hA (by omega)
    omega
  | succ z ih =>
    intro j x M h1 h2 h3 hA h5
    have hjm := hP.lt h3 hA (by omega)
    obtain ⟨x', hA'⟩ := hP.at (j := j + 1) (by omega) (by omega)
    have hst := hA.st hA' h2
    rw [show M + (z + 1) + 1 = (M + z + 1) + 1 by omega, lp_succ]
    have no : cl j ≠ 123 → x'.1 ≤ 5 → ∃ (j0 : Nat) (x0 : XS), f < j0 ∧ j0 ≤ m ∧ At cl nm f c0 xf j0 x0 ∧ x0.1 = 5 ∧ cl j0 = 123 ∧ BMo_function_72 (lpN BMo_function_72 (M + z + 1)) (Int32.ofNat p, n, Int32.ofNat j, r) = lpN BMo_function_91 100000 (Int32.ofNat p, n, Int32.ofNat j0, 0, r) := by
      intro hc hx'
      obtain ⟨j0, x0, g1, g2, g3, g4, g5, g6⟩ := ih (j + 1) x' M (by omega) (by omega) (by omega) hA' hx'
      refine ⟨j0, x0, g1, g2, g3, g4, g5, ?_⟩
      rw [← g6]
      exact f72_no (is_no hK hM.1 (show j < N by omega) (a := 123) (t := 123) rfl (by omega) (by omega) hc)
    refine hst _ ?_ ?_ ?_ ?_ ?_ ?_ ?_ ?_ ?_ ?_ ?_ ?_ ?_ ?_ ?_ ?_ ?_ ?_ ?_ ?_ ?_ ?_ ?_ ?_ ?_
    · intro _ _ _ _ _ eX eY h
      cases eX
      cases eY
      exact no (by omega) (by show 1 ≤ 5; omega)
    · intro _ _ _ _ _ eX eY h
      cases eX
      cases eY
      exact no (by omega) (by show 2 ≤ 5; omega)
    · intro _ _ _ _ _ _ _ _ _ _ _ _ _ eX eY h
      cases eX
      cases eY
      refine ⟨j, _, h2, h3, hA, rfl, h, ?_⟩
      exact f72_yes (is_yes hK hM.1 (show j < N by omega) (a := 123) (t := 123) rfl (by omega) (by omega) h)
    · intro _ _ _ _ _ _ eX eY _ h
      cases eX
      cases eY
      exact no (by omega) (by show 5 ≤ 5; omega)
    · intro _ _ _ _ _ eX eY h
      cases eX
      cases eY
      exact no (by omega) (by show 4 ≤ 5; omega)
    · intro _ _ _ _ _ _ _ _ _ _ _ _ _ _ eX eY _ h
      cases eX
      cases eY
      exact no (by omega) (by show 3 ≤ 5; omega)
    · intro _ _ _ _ _ _ _ _ _ _ _ _ _ eX eY _ _
      cases eX
      cases eY
      exact absurd h5 (by show ¬ 6 ≤ 5; omega)
    · intro _ _ _ _ _ _ _ _ _ _ _ _ _ _ _ _ eX eY _
      cases eX
      cases eY
      exact absurd h5 (by show ¬ 6 ≤ 5; omega)
    · intro _ _ _ _ _ _ _ _ _ _ _ _ _ eX eY _
      cases eX
      cases eY
      exact absurd h5 (by show ¬ 6 ≤ 5; omega)
    · intro _ _ _ _ _ eX eY _
      cases eX
      cases eY
      exact absurd h5 (by show ¬ 6 ≤ 5; omega)
    · intro _ _ _ _ _ _ _ _ _ _ _ _ _ _ eX eY _
      cases eX
      cases eY
      exact absurd h5 (by show ¬ 6 ≤ 5; omega)
    · intro _ _ _ _ _ _ _ _ _ _ _ _ _ _ eX eY _
      cases eX
      cases eY
      exact absurd h5 (by show ¬ 6 ≤ 5; omega)
    · intro _ _ _ _ _ _ _ _ _ _ _ _ _ eX eY _
      cases eX
      cases eY
      exact absurd h5 (by show ¬ 7 ≤ 5; omega)
    · intro _ _ _ _ _ eX eY _
      cases eX
      cases eY
      exact absurd h5 (by show ¬ 8 ≤ 5; omega)
    · intro _ _ _ _ _ _ _ _ _ eX eY _
      cases eX
      cases eY
      exact absurd h5 (by show ¬ 10 ≤ 5; omega)
    · intro _ _ _ _ _ _ _ _ _ _ eX eY h _
      cases eX
      cases eY
      exact absurd h5 (by dsimp only; omega)
    · intro _ _ _ _ _ _ _ _ _ _ eX eY h _ _
      cases eX
      cases eY
      exact absurd h5 (by dsimp only; omega)
    · intro _ _ _ _ _ _ _ _ _ _ eX eY h _ _ _
      cases eX
      cases eY
      exact absurd h5 (by dsimp only; omega)
    · intro _ _ _ _ _ _ _ _ _ _ eX eY h _ _
      cases eX
      cases eY
      exact absurd h5 (by dsimp only; omega)
    · intro _ _ _ _ _ _ _ _ _ eX eY _ _
      cases eX
      cases eY
      exact absurd h5 (by show ¬ 12 ≤ 5; omega)
    · intro _ _ _ _ _ _ _ _ _ _ _ _ eX eY h _ _
      cases eX
      cases eY
      exact absurd h5 (by dsimp only; omega)
    · intro _ _ _ _ _ _ _ _ _ _ _ _ _ _ _ _ eX eY h _ _
      cases eX
      cases eY
      exact absurd h5 (by dsimp only; omega)
    · intro _ _ _ _ _ _ _ _ _ _ _ _ _ _ _ _ _ eX eY h _ _
      cases eX
      cases eY
      exact absurd h5 (by dsimp only; omega)
    · intro _ _ _ _ _ _ _ _ _ _ eX eY h _ _
      cases eX
      cases eY
      exact absurd h5 (by dsimp only; omega)
    · intro _ _ _ _ _ _ _ _ _ _ eX eY h _ _ _
      cases eX
      cases eY
      exact absurd h5 (by dsimp only; omega)
/-- The model's function writes the part's code, its entry and the numbers of its variables. -/
theorem func_m {sl : Nat → Nat} {c0 : Cds} {xf : XS} (hP : Pt cl nm sk N R zb sl f m c0 xf) (hp : p < 4) (hf : cl f = 400) (hsl : ∀ q, f ≤ q → q < m → sl q = dn R f q) (hzq : ∀ k, f ≤ k → k < m → 3 ≤ R k → R k ≤ 5 → f ≤ zb k - 1 ∧ zb k - 1 < m ∧ (R (zb k - 1) = 2 ∨ R (zb k - 1) = 3)) {r : RS} (hM : MQt cl nm sk N R zb r) (h16 : r.1 16 p = Int32.ofNat f) (h17 : r.1 17 p = Int32.ofNat m) (hC : MCd zb sl (pt cl N) r c0) : ∃ r' : RS, f_Mo_function (Int32.ofNat p) r = some r' ∧ MCd zb sl (pt cl N) r' (xc xf ++ [(0, 0)] ++ [(8, 0)]) ∧ FrF r r' ∧ (∀ i, 33 ≤ i → r'.1 i = r.1 i) ∧ (∀ i, 13 ≤ i → r'.2.1 i = r.2.1 i) ∧ r'.1 26 = upd (r.1 26) p (Int32.ofNat c0.length) ∧ ∀ q, r'.1 27 q = if f ≤ q ∧ q < m ∧ (R q = 2 ∨ R q = 3) then Int32.ofNat (sl q) else r.1 27 q := by
  have hK := hP.tk
  have hN := hK.1
  have hmN := hP.mN
  have hfm := hP.fm
  have ip : inb (Int32.ofNat p) 122 = true := o_inb (by omega) (by omega)
  unfold f_Mo_function
  rw [if_pos ip, if_pos ip, o_nat (by omega), h16, hC.1]
  have hf0 : FrF r (va_up r.1 26 (upd (r.1 26) p (Int32.ofNat c0.length)), r.2.1, r.2.2) := ⟨fun i a => up_ne (by omega), fun _ _ => rfl, rfl⟩
  obtain ⟨r1, a1, a2, a3, a4⟩ := fn19 (f := f) (m := m) (R := R) hK hmN hp (m - f) f (va_up r.1 26 (upd (r.1 26) p (Int32.ofNat c0.length)), r.2.1, r.2.2) (99999 - (m - f)) rfl (Nat.le_refl _) (by omega) (hM.cg hf0) h16 h17
  rw [show 99999 - (m - f) + (m - f) + 1 = 100000 by omega, dn_0 R f f (Nat.le_refl _)] at a1
  have a1' : lpN BMo_function_19 100000 (Int32.ofNat p, 0, Int32.ofNat f, (va_up r.1 26 (upd (r.1 26) p (Int32.ofNat c0.length)), r.2.1, r.2.2)) = _ := a1
  rw [a1']
  have hf1 : FrF r r1 := ⟨fun i a => (a2 i (by omega)).trans (up_ne (by omega)), fun i _ => by rw [a3], by rw [a3]⟩
  have hM1 := hM.cg hf1
  obtain ⟨x1, hA1⟩ := hP.at (j := f + 1) (by omega) (by omega)
  have hx1 : x1.1 ≤ 5 := by
    have h0 : aut0 cl nm f c0 0 = some x1 := by
      have : aut cl nm f c0 (f + 1) = aut0 cl nm f c0 0 := by unfold aut; rw [Nat.sub_self]
      rw [← this]; exact hA1.1
    have e := Option.some.inj h0
    subst e
    show 0 ≤ 5
    omega
  obtain ⟨j0, x0, b1, b2, b3, b4, b5, b6⟩ := fn72 (p := p) (n := Int32.ofNat (dn R f m)) hP hM1 (m - (f + 1)) (f + 1) x1 (99998 - (m - (f + 1))) (Nat.le_refl _) (by omega) (by omega) hA1 hx1
  rw [show 99998 - (m - (f + 1)) + (m - (f + 1)) + 1 = 99999 by omega] at b6
  have s0 : lpN BMo_function_72 100000 (Int32.ofNat p, Int32.ofNat (dn R f m), Int32.ofNat f, r1) = lpN BMo_function_72 99999 (Int32.ofNat p, Int32.ofNat (dn R f m), Int32.ofNat (f + 1), r1) := by
    rw [show (100000 : Nat) = 99999 + 1 from rfl, lp_succ]
    exact f72_no (is_no hK hM1.1 (show f < N by omega) (a := 123) (t := 123) rfl (by omega) (by omega) (show cl f ≠ 123 by omega))
  rw [s0, b6]
  have hb0 : xb x0 = [] := b3.2.2.2.2.1 (by omega)
  obtain ⟨A, hG, -⟩ := b3.2.2.2.2.2.2.2.2
  have hc0 : (xc x0).length = c0.length := hG.b5 (by omega)
  have hcc : xc x0 = c0 := by
    refine List.ext_getElem? (fun i => ?_)
    by_cases hi : i < c0.length
    · have := b3.2.2.2.2.2.2.1 i hi
      rw [List.getD_eq_getElem?_getD, List.getD_eq_getElem?_getD, List.getElem?_eq_getElem hi, List.getElem?_eq_getElem (by omega)] at this
      rw [List.getElem?_eq_getElem hi, List.getElem?_eq_getElem (by omega)]
      exact congrArg some this
    · rw [List.getElem?_eq_none (by omega), List.getElem?_eq_none (by omega)]
  obtain ⟨r', c1, c2, c3⟩ := fn91 (p := p) (n := Int32.ofNat (dn R f m)) hP hp (m - j0) j0 x0 r1 (99999 - (m - j0)) (Nat.le_refl _) b1 b2 b3 (Or.inr (Or.inr ⟨b4, b5⟩)) hM1 (fun k q1 q2 q3 q4 => by
    obtain ⟨w1, w2, w3⟩ := hzq k q1 q2 q3 q4
    rw [a4, if_pos ⟨w1, w2, w3⟩, hsl _ w1 w2]) (by rw [hf1.1 17 (by omega)]; exact h17) (by rw [hb0]; trivial) (by
    rw [hcc]
    exact hC.cg (by rw [a3]) (a2 24 (by decide)) (a2 25 (by decide)))
  rw [show 99999 - (m - j0) + (m - j0) + 1 = 100000 by omega, hb0] at c1
  refine ⟨r', c1, c2, hf1.tr c3.ff, fun i hi => ?_, fun i hi => ?_, ?_, fun q => ?_⟩
  · rw [c3.1 i (by omega) (by omega) (by omega) (by omega) (by omega) (by omega) (by omega), a2 i (by omega)]
    exact up_ne (by omega)
  · rw [c3.2.1 i (by omega) (by omega), a3]
  · rw [c3.1 26 (by decide) (by decide) (by decide) (by decide) (by decide) (by decide) (by decide), a2 26 (by decide)]
    rfl
  · rw [c3.1 27 (by decide) (by decide) (by decide) (by decide) (by decide) (by decide) (by decide), a4 q]
    by_cases hc : f ≤ q ∧ q < m ∧ (R q = 2 ∨ R q = 3)
    · rw [if_pos hc, if_pos hc, hsl q hc.1 hc.2.1]
    · rw [if_neg hc, if_neg hc]
      rfl
end
