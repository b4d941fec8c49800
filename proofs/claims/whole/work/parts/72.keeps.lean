/-! inline: what would lose its meaning, by the desk -/
section
variable {T : Nat → Nat} {n : Nat} {cs : Nat → Cds} {d : DS} {D S U : Nat}
theorem zB_decl {q : Nat} (hr : zR T n cs q = 2 ∨ zR T n cs q = 3) : zB T n cs q = if rp (zR T n cs) (NM T n) (gSc (CL T n) (NM T n) (NN T n) cs) q then 0 else q + 1 := by
  show wB _ _ _ _ _ _ _ q = _
  unfold wB
  rw [if_pos (by have : gR (CL T n) (NM T n) (NN T n) cs q = 2 ∨ gR (CL T n) (NM T n) (NN T n) cs q = 3 := hr; omega)]
theorem bdd (h : Red T n cs [] d) {lo hi : Nat} (hh : hi ≤ NN T n) : BdD (zR T n cs) (NM T n) (gSc (CL T n) (NM T n) (NN T n) cs) lo hi d := by
  intro q q1 q2 hr
  rw [(h.at (show q < NN T n by omega)).2.2.1, zB_decl hr]
  split <;> rfl
/-- Who means D and stands behind it is no declaration. -/
theorem use_ge {j : Nat} (hK : TK (CL T n) (NM T n) (NN T n)) (hl : Lt T n cs D S U) (hj : j < NN T n) (hb : zB T n cs j = D + 1) (hjD : j ≠ D) : (zR T n cs j = 4 ∨ zR T n cs j = 5) ∧ S ≤ j ∧ j < U := by
  obtain ⟨l1, l2, l3, l4, l5, l6, l7, l8, l9, l10⟩ := hl
  have hAW := gAW cs hK
  have l2' : gR (CL T n) (NM T n) (NN T n) cs D = 3 := l2
  have hb' : wB (CL T n) (NM T n) (NN T n) (gR (CL T n) (NM T n) (NN T n) cs) (gSc (CL T n) (NM T n) (NN T n) cs) (gSi (CL T n) (NM T n) (NN T n) cs) (gUn (CL T n) (NM T n) (NN T n) cs) j = D + 1 := hb
  unfold wB at hb'
  split at hb'
  · split at hb' <;> omega
  · split at hb'
    · rename_i h1 h2
      refine ⟨h2, ?_⟩
      rcases lsB_ok (P := ftB (gR (CL T n) (NM T n) (NN T n) cs) (NM T n) (gSc (CL T n) (NM T n) (NN T n) cs) (gSi (CL T n) (NM T n) (NN T n) cs) (gUn (CL T n) (NM T n) (NN T n) cs) (NM T n j) j) (NN T n) with ⟨g1, -⟩ | ⟨q', g1, g2, g3, -⟩
      · have g1 : mean (gR (CL T n) (NM T n) (NN T n) cs) (NM T n) (gSc (CL T n) (NM T n) (NN T n) cs) (gSi (CL T n) (NM T n) (NN T n) cs) (gUn (CL T n) (NM T n) (NN T n) cs) (NN T n) (NM T n j) j = 0 := g1
        omega
      · have g1 : mean (gR (CL T n) (NM T n) (NN T n) cs) (NM T n) (gSc (CL T n) (NM T n) (NN T n) cs) (gSi (CL T n) (NM T n) (NN T n) cs) (gUn (CL T n) (NM T n) (NN T n) cs) (NN T n) (NM T n j) j = q' + 1 := g1
        have hq : q' = D := by omega
        subst hq
        obtain ⟨-, -, -, f1, f2, -⟩ := ft_in hK hAW hj (by omega) g2 g3
        rw [← l3, ← l4]
        exact ⟨f1, f2⟩
    · split at hb'
      · rcases fsB_ok (P := hdB (gR (CL T n) (NM T n) (NN T n) cs) (NM T n) (NM T n j)) (NN T n) with ⟨g1, -⟩ | ⟨q', g1, g2, g3, -⟩
        · have g1 : hd (gR (CL T n) (NM T n) (NN T n) cs) (NM T n) (NN T n) (NM T n j) = 0 := g1
          omega
        · have g1 : hd (gR (CL T n) (NM T n) (NN T n) cs) (NM T n) (NN T n) (NM T n j) = q' + 1 := g1
          have hq : q' = D := by omega
          subst hq
          have z2 := of_decide_eq_true g3
          omega
      · omega
theorem keepsD (h : Red T n cs [] d) (hl : Lt T n cs D S U) {j : Nat} (hj : j < NN T n) (hjr : 3 ≤ zR T n cs j) : (hKp T n cs D S j → f_Na_keepsMeaningAt (Int32.ofNat D) (Int32.ofNat j) d = some (0, d)) ∧ (¬ hKp T n cs D S j → f_Na_keepsMeaningAt (Int32.ofNat D) (Int32.ofNat j) d = some (1, d)) := by
  obtain ⟨-, hN, hK, -⟩ := h.tk
  obtain ⟨s1, -⟩ := semiD h hl
  obtain ⟨l1, l2, l3, l4, l5, l6, l7, l8, l9, l10⟩ := hl
  have hun : ∀ q K, q < 300 → BNa_keepsMeaningAt_6 K (Int32.ofNat D, Int32.ofNat j, Int32.ofNat q, d) = if S - 1 ≤ q then some (1, d) else if inb (Int32.ofNat q) 240 then (if d.1 13 q = 4 then (f_Na_meaning (Int32.ofNat j) (d.1 5 q) d).bind fun q7 => if q7.1 = q7.2.1 14 q then K (Int32.ofNat D, Int32.ofNat j, Int32.ofNat (q + 1), q7.2) else some (0, q7.2) else K (Int32.ofNat D, Int32.ofNat j, Int32.ofNat (q + 1), d)) else none := by
    intro q K hq
    unfold BNa_keepsMeaningAt_6
    simp only [s1, Option.bind_some, o_nat (show q < 2147483648 by omega), o_p1, o_le (show S - 1 < 2147483648 by omega) (show q < 2147483648 by omega)]
    by_cases hi : inb (Int32.ofNat q) 240 = true
    · simp only [hi, ↓reduceIte]
    · simp only [hi]
      rfl
  have hs := srch (F := BNa_keepsMeaningAt_6) (st := fun q => (Int32.ofNat D, Int32.ofNat j, Int32.ofNat (min q 250), d)) (lo := D + 2) (hi := S - 1) (P := fun q => zR T n cs q = 5 ∧ zM T n cs (NM T n q) j ≠ zB T n cs q) (y1 := some (0, d)) (y0 := some (1, d)) (fun q q1 q2 => by
    obtain ⟨e1, e2, e4, e5, e6⟩ := h.at (show q < NN T n by omega)
    have e3 := (sw_is e2).2.2.1
    have hmn := meanD (w := NM T n q) hK (gAW cs hK) h.2.1 hj hjr (hK.2.2.1 q) (bdd h (by omega))
    have hmn : f_Na_meaning (Int32.ofNat j) (Int32.ofNat (NM T n q)) d = some (pm (zM T n cs (NM T n q) j), d) := hmn
    have hle := zM_le (T := T) (n := n) (cs := cs) (w := NM T n q) (k := j)
    have e7 : (pm (zM T n cs (NM T n q) j) = pm (zB T n cs q)) = (zM T n cs (NM T n q) j = zB T n cs q) := pm_inj (by omega) (by omega)
    rw [show min q 250 = q by omega, show min (q + 1) 250 = q + 1 by omega]
    refine ⟨fun hp K => ?_, fun hp K => ?_⟩
    · rw [hun q K (by omega), if_neg (by omega), if_pos (o_inb (by omega) (by omega)), e1, if_pos (e3.mpr hp.1), e6 (by omega), hmn, Option.bind_some]
      dsimp only
      rw [e4, if_neg (fun hh => hp.2 (e7.mp hh))]
    · rw [hun q K (by omega), if_neg (by omega), if_pos (o_inb (by omega) (by omega)), e1]
      by_cases c0 : zR T n cs q = 5
      · have c1 : zM T n cs (NM T n q) j = zB T n cs q := Classical.byContradiction (fun hh => hp ⟨c0, hh⟩)
        rw [if_pos (e3.mpr c0), e6 (by omega), hmn, Option.bind_some]
        dsimp only
        rw [e4, if_pos (e7.mpr c1)]
      · rw [if_neg (fun hh => c0 (e3.mp hh))]) (fun q q1 K => by
    rw [hun (min q 250) K (by omega), if_pos (by omega)]) (S - 1 - (D + 2)) (D + 2) (99999 - (S - 1 - (D + 2))) rfl (Nat.le_refl _)
  rw [show 99999 - (S - 1 - (D + 2)) + (S - 1 - (D + 2)) + 1 = 100000 by omega] at hs
  have hm : min (D + 2) 250 = D + 2 := by omega
  unfold f_Na_keepsMeaningAt
  rw [firstE (by omega), Option.bind_some]
  dsimp only at hs ⊢
  rw [hm] at hs
  exact hs
theorem losesD (h : Red T n cs [] d) (hl : Lt T n cs D S U) : (hP3 T n cs D S U → f_Na_losesMeaning (Int32.ofNat D) d = some (1, d)) ∧ (¬ hP3 T n cs D S U → f_Na_losesMeaning (Int32.ofNat D) d = some (0, d)) := by
  obtain ⟨-, hN, hK, -⟩ := h.tk
  obtain ⟨s1, s2, sc, s3, s4, s5⟩ := semiD h hl
  have hl' := hl
  obtain ⟨l1, l2, l3, l4, l5, l6, l7, l8, l9, l10⟩ := hl
  have hun : ∀ q K, q < 300 → BNa_losesMeaning_7 K (Int32.ofNat D, Int32.ofNat q, d) = if U ≤ q then some (0, d) else if inb (Int32.ofNat q) 240 then (if d.1 14 q = Int32.ofNat D then (f_Na_keepsMeaningAt (Int32.ofNat D) (Int32.ofNat q) d).bind fun q8 => if q8.1 = 0 then some (1, q8.2) else K (Int32.ofNat D, Int32.ofNat (q + 1), q8.2) else K (Int32.ofNat D, Int32.ofNat (q + 1), d)) else none := by
    intro q K hq
    unfold BNa_losesMeaning_7
    simp only [bindv, o_inb (show D < 240 by omega) (show D < 2147483648 by omega), o_nat (show D < 2147483648 by omega), s4, o_inb (show sc < 240 by omega) (show sc < 2147483648 by omega), o_nat (show sc < 2147483648 by omega), s5, o_nat (show q < 2147483648 by omega), o_p1, o_le (show U < 2147483648 by omega) (show q < 2147483648 by omega), ↓reduceIte]
  have hs := srch (F := BNa_losesMeaning_7) (st := fun q => (Int32.ofNat D, Int32.ofNat (min q 250), d)) (lo := S) (hi := U) (P := fun q => zB T n cs q = D + 1 ∧ hKp T n cs D S q) (y1 := some (1, d)) (y0 := some (0, d)) (fun q q1 q2 => by
    have hqN : q < NN T n := by omega
    obtain ⟨-, -, e4, e5, -⟩ := h.at hqN
    have e6 : pm (zB T n cs q) = Int32.ofNat D ↔ zB T n cs q = D + 1 := pm_D (by omega) (by omega)
    rw [show min q 250 = q by omega, show min (q + 1) 250 = q + 1 by omega]
    refine ⟨fun hp K => ?_, fun hp K => ?_⟩
    · have hr := (use_ge hK hl' hqN hp.1 (by omega)).1
      rw [hun q K (by omega), if_neg (by omega), if_pos (o_inb (by omega) (by omega)), e4, if_pos (e6.mpr hp.1), (keepsD h hl' hqN (by omega)).1 hp.2, Option.bind_some]
      dsimp only
      rw [if_pos rfl]
    · rw [hun q K (by omega), if_neg (by omega), if_pos (o_inb (by omega) (by omega)), e4]
      by_cases c0 : zB T n cs q = D + 1
      · have hr := (use_ge hK hl' hqN c0 (by omega)).1
        rw [if_pos (e6.mpr c0), (keepsD h hl' hqN (by omega)).2 (fun hh => hp ⟨c0, hh⟩), Option.bind_some]
        dsimp only
        rw [if_neg (show ¬ (1 : Int32) = 0 by decide)]
      · rw [if_neg (fun hh => c0 (e6.mp hh))]) (fun q q1 K => by
    rw [hun (min q 250) K (by omega), if_pos (by omega)]) (U - S) S (99999 - (U - S)) rfl (Nat.le_refl _)
  rw [show 99999 - (U - S) + (U - S) + 1 = 100000 by omega] at hs
  have hm : min S 250 = S := by omega
  unfold f_Na_losesMeaning
  rw [if_pos (o_inb (by omega) (by omega)), o_nat (by omega), s2]
  rw [hm] at hs
  exact hs
end
