/-! inline: what holds a variable, by the model -/
def fl (b : Bool) : Int32 := if b then 1 else 0
theorem fl_0 {b : Bool} : (fl b = 0) = (b = false) := by
  cases b
  · exact propext ⟨fun _ => rfl, fun _ => rfl⟩
  · exact propext ⟨fun h => absurd (show (1 : Int32) = 0 from h) (by decide), fun h => absurd h (by decide)⟩
theorem fl_b {b : Bool} : isb (fl b) = true := by cases b <;> decide
section
variable {T : Nat → Nat} {n : Nat} {cs : Nat → Cds} {d : DS} {r : RS} {D S U : Nat}
theorem RedM.at {l : List Nat} (h3 : Red T n cs l d) (h : RedM T n cs l r) {k : Nat} (hk : k < NN T n) : r.1 9 k = Int32.ofNat (zR T n cs k) ∧ zR T n cs k ≤ 6 ∧ r.1 10 k = pm (zB T n cs k) ∧ zB T n cs k ≤ 240 ∧ (zR T n cs k ≠ 0 → r.2.2 8 k = Int64.ofNat (NM T n k)) := by
  obtain ⟨-, hN, hK, -⟩ := h3.tk
  obtain ⟨a1, a2, -⟩ := (gAW cs hK).1 k hk
  have hz := zB_le (cs := cs) hk
  refine ⟨(h.2.1.2.1 k hk).1, a1, h.2.2.2.1 k hk, by omega, fun hr => ?_⟩
  exact (h.2.1.1.2.2 k hk).2.2.2.2.1 (Or.inl (a2 hr).2.1)
theorem bda {l : List Nat} (h3 : Red T n cs l d) (h : RedM T n cs l r) : BdA (NN T n) (zR T n cs) (NM T n) (gSc (CL T n) (NM T n) (NN T n) cs) r := by
  intro q q1 hr
  rw [h.2.2.2.1 q q1]
  have := zB_decl hr
  rw [this]
  split <;> rfl
def hW (T : Nat → Nat) (n : Nat) (cs : Nat → Cds) (D e i : Nat) : Prop := zR T n cs i = 4 ∧ zB T n cs e = zB T n cs i ∨ zR T n cs i = 5 ∧ zB T n cs i = D + 1 ∧ zM T n cs (NM T n e) i ≠ zB T n cs e
def hQ (T : Nat → Nat) (n : Nat) (cs : Nat → Cds) (D S U e : Nat) : Prop := zR T n cs e = 6 ∨ zR T n cs e = 5 ∧ ∃ i, S - 1 ≤ i ∧ i < U ∧ hW T n cs D e i
theorem held39 (h3 : Red T n cs [] d) (h : RedM T n cs [] r) (hl : Lt T n cs D S U) {a2 a3 : Int32} {K6 : Int32 × Int32 × Int32 × Int32 × Int32 × RS → Option (Int32 × RS)} {e : Nat} (he : e < NN T n) : ∀ (z j : Nat) (b : Bool) (M : Nat), U - j = z → j ≤ NN T n → ∃ b', lpN (BMo_isHeld_39 K6) (M + z + 1) (Int32.ofNat D, a2, a3, fl b, Int32.ofNat e, Int32.ofNat j, r) = K6 (Int32.ofNat D, a2, a3, fl b', Int32.ofNat (e + 1), r) ∧ (b' = true ↔ b = true ∨ zR T n cs e = 5 ∧ ∃ i, j ≤ i ∧ i < U ∧ hW T n cs D e i) := by
  intro z
  obtain ⟨-, hN, hK, -⟩ := h3.tk
  obtain ⟨l1, l2, l3, l4, l5, l6, l7, l8, l9, l10⟩ := hl
  have h15 : r.1 15 D = Int32.ofNat U := by
    rw [← l4]
    exact ((h.2.1.2.1 D l1).2.2.2.2 (Or.inr l2)).2.2.2.2.1
  obtain ⟨y9, y6, y10, yB, y8⟩ := h.at h3 he
  have iD : inb (Int32.ofNat D) 240 = true := o_inb (by omega) (by omega)
  have ie : inb (Int32.ofNat e) 240 = true := o_inb (by omega) (by omega)
  have e5 : (Int32.ofNat (zR T n cs e) = 5) = (zR T n cs e = 5) := propext (on_is (v := 5) y6 (by omega))
  induction z with
  | zero =>
    intro j b M h1 h2
    refine ⟨b, ?_, ⟨fun hb => Or.inl hb, fun hb => ?_⟩⟩
    · rw [Nat.add_zero, lp_succ]
      unfold BMo_isHeld_39
      simp only [iD, ↓reduceIte, o_nat (show D < 2147483648 by omega), h15, o_le (show U < 2147483648 by omega) (show j < 2147483648 by omega), o_p1]
      rw [if_pos (by omega)]
    · rcases hb with hb | ⟨-, i, i1, i2, -⟩
      · exact hb
      · omega
  | succ z ih =>
    intro j b M h1 h2
    have hjN : j < NN T n := by omega
    obtain ⟨x9, x6, x10, xB, -⟩ := h.at h3 hjN
    have ij : inb (Int32.ofNat j) 240 = true := o_inb (by omega) (by omega)
    have j4 : (Int32.ofNat (zR T n cs j) = 4) = (zR T n cs j = 4) := propext (on_is (v := 4) x6 (by omega))
    have j5 : (Int32.ofNat (zR T n cs j) = 5) = (zR T n cs j = 5) := propext (on_is (v := 5) x6 (by omega))
    have jB : (pm (zB T n cs j) = pm (zB T n cs e)) = (zB T n cs e = zB T n cs j) := (pm_inj (by omega) (by omega)).trans (propext ⟨fun h => h.symm, fun h => h.symm⟩)
    have jD : (pm (zB T n cs j) = Int32.ofNat D) = (zB T n cs j = D + 1) := propext (pm_D (by omega) (by omega))
    have hmn : f_Mo_meaning (Int64.ofNat (NM T n e)) (Int32.ofNat j) r = some (pm (zM T n cs (NM T n e) j), r) := meanM hK h.2.1 (bda h3 h) (hK.2.2.1 e) hjN (fun q1 q2 a b c d => gmono cs hK _ _ q1 q2 hjN a b c d)
    have hle := zM_le (T := T) (n := n) (cs := cs) (w := NM T n e) (k := j)
    have jM : (pm (zM T n cs (NM T n e) j) = pm (zB T n cs e)) = (zM T n cs (NM T n e) j = zB T n cs e) := pm_inj (by omega) (by omega)
    have hUj : ¬ U ≤ j := by omega
    by_cases c5 : zR T n cs e = 5
    · have y8' := y8 (by omega)
      rw [c5] at y9
      have step : ∃ b1, (b1 = true ↔ b = true ∨ hW T n cs D e j) ∧ ∀ K, BMo_isHeld_39 K6 K (Int32.ofNat D, a2, a3, fl b, Int32.ofNat e, Int32.ofNat j, r) = K (Int32.ofNat D, a2, a3, fl b1, Int32.ofNat e, Int32.ofNat (j + 1), r) := by
        cases b with
        | true =>
          refine ⟨true, ⟨fun _ => Or.inl rfl, fun _ => rfl⟩, fun K => ?_⟩
          unfold BMo_isHeld_39
          simp only [bindv, iD, ie, ij, ↓reduceIte, o_nat (show D < 2147483648 by omega), o_nat (show e < 2147483648 by omega), o_nat (show j < 2147483648 by omega), h15, o_le (show U < 2147483648 by omega) (show j < 2147483648 by omega), o_p1, hUj, y9, fl_0, Bool.true_eq_false, show (Int32.ofNat 5 = (5 : Int32)) = True from eq_true rfl]
          rfl
        | false =>
          by_cases c4 : zR T n cs j = 4
          · by_cases cB : zB T n cs e = zB T n cs j
            · refine ⟨true, ⟨fun _ => Or.inr (Or.inl ⟨c4, cB⟩), fun _ => rfl⟩, fun K => ?_⟩
              unfold BMo_isHeld_39
              simp only [bindv, iD, ie, ij, ↓reduceIte, o_nat (show D < 2147483648 by omega), o_nat (show e < 2147483648 by omega), o_nat (show j < 2147483648 by omega), h15, o_le (show U < 2147483648 by omega) (show j < 2147483648 by omega), o_p1, hUj, y9, x9, y10, x10, jB.trans (eq_true cB), j4.trans (eq_true c4), fl_0, show (Int32.ofNat 5 = (5 : Int32)) = True from eq_true rfl]
              rfl
            · refine ⟨false, ⟨fun hh => absurd hh (by decide), fun hh => ?_⟩, fun K => ?_⟩
              · rcases hh with hh | hh | hh
                · exact hh
                · exact absurd hh.2 cB
                · omega
              · unfold BMo_isHeld_39
                have c45 : ¬ (4 : Nat) = 5 := by omega
                have j5' := j5
                rw [c4] at j5'
                rw [c4] at x9
                simp only [bindv, iD, ie, ij, ↓reduceIte, o_nat (show D < 2147483648 by omega), o_nat (show e < 2147483648 by omega), o_nat (show j < 2147483648 by omega), h15, o_le (show U < 2147483648 by omega) (show j < 2147483648 by omega), o_p1, hUj, y9, x9, y10, x10, jB.trans (eq_false cB), j5', c45, fl_0, show (Int32.ofNat 5 = (5 : Int32)) = True from eq_true rfl, show (Int32.ofNat 4 = (4 : Int32)) = True from eq_true rfl]
                rfl
          · by_cases c5j : zR T n cs j = 5
            · by_cases cD : zB T n cs j = D + 1
              · by_cases cM : zM T n cs (NM T n e) j = zB T n cs e
                · refine ⟨false, ⟨fun hh => absurd hh (by decide), fun hh => ?_⟩, fun K => ?_⟩
                  · rcases hh with hh | hh | hh
                    · exact hh
                    · omega
                    · exact absurd cM hh.2.2
                  · unfold BMo_isHeld_39
                    simp only [bindv, iD, ie, ij, ↓reduceIte, o_nat (show D < 2147483648 by omega), o_nat (show e < 2147483648 by omega), o_nat (show j < 2147483648 by omega), h15, o_le (show U < 2147483648 by omega) (show j < 2147483648 by omega), o_p1, hUj, y9, x9, y10, x10, j4.trans (eq_false c4), j5.trans (eq_true c5j), jD.trans (eq_true cD), y8', hmn, Option.bind_some, jM.trans (eq_true cM), fl_0, show (Int32.ofNat 5 = (5 : Int32)) = True from eq_true rfl]
                    rfl
                · refine ⟨true, ⟨fun _ => Or.inr (Or.inr ⟨c5j, cD, cM⟩), fun _ => rfl⟩, fun K => ?_⟩
                  unfold BMo_isHeld_39
                  simp only [bindv, iD, ie, ij, ↓reduceIte, o_nat (show D < 2147483648 by omega), o_nat (show e < 2147483648 by omega), o_nat (show j < 2147483648 by omega), h15, o_le (show U < 2147483648 by omega) (show j < 2147483648 by omega), o_p1, hUj, y9, x9, y10, x10, j4.trans (eq_false c4), j5.trans (eq_true c5j), jD.trans (eq_true cD), y8', hmn, Option.bind_some, jM.trans (eq_false cM), fl_0, show (Int32.ofNat 5 = (5 : Int32)) = True from eq_true rfl]
                  rfl
              · refine ⟨false, ⟨fun hh => absurd hh (by decide), fun hh => ?_⟩, fun K => ?_⟩
                · rcases hh with hh | hh | hh
                  · exact hh
                  · omega
                  · exact absurd hh.2.1 cD
                · unfold BMo_isHeld_39
                  simp only [bindv, iD, ie, ij, ↓reduceIte, o_nat (show D < 2147483648 by omega), o_nat (show e < 2147483648 by omega), o_nat (show j < 2147483648 by omega), h15, o_le (show U < 2147483648 by omega) (show j < 2147483648 by omega), o_p1, hUj, y9, x9, y10, x10, j4.trans (eq_false c4), j5.trans (eq_true c5j), jD.trans (eq_false cD), fl_0, show (Int32.ofNat 5 = (5 : Int32)) = True from eq_true rfl]
                  rfl
            · refine ⟨false, ⟨fun hh => absurd hh (by decide), fun hh => ?_⟩, fun K => ?_⟩
              · rcases hh with hh | hh | hh
                · exact hh
                · omega
                · omega
              · unfold BMo_isHeld_39
                simp only [bindv, iD, ie, ij, ↓reduceIte, o_nat (show D < 2147483648 by omega), o_nat (show e < 2147483648 by omega), o_nat (show j < 2147483648 by omega), h15, o_le (show U < 2147483648 by omega) (show j < 2147483648 by omega), o_p1, hUj, y9, x9, y10, x10, j4.trans (eq_false c4), j5.trans (eq_false c5j), fl_0, show (Int32.ofNat 5 = (5 : Int32)) = True from eq_true rfl]
                rfl
      obtain ⟨b1, s1, s2⟩ := step
      obtain ⟨b', g1, g2⟩ := ih (j + 1) b1 M (by omega) (by omega)
      refine ⟨b', ?_, ?_⟩
      · rw [show M + (z + 1) + 1 = (M + z + 1) + 1 by omega, lp_succ, s2]
        exact g1
      · rw [g2, s1]
        constructor
        · rintro ((hh | hh) | ⟨-, i, i1, i2, i3⟩)
          · exact Or.inl hh
          · exact Or.inr ⟨c5, j, Nat.le_refl _, by omega, hh⟩
          · exact Or.inr ⟨c5, i, by omega, i2, i3⟩
        · rintro (hh | ⟨-, i, i1, i2, i3⟩)
          · exact Or.inl (Or.inl hh)
          · by_cases hij : i = j
            · subst hij; exact Or.inl (Or.inr i3)
            · exact Or.inr ⟨c5, i, by omega, i2, i3⟩
    · refine ⟨b, ?_, ⟨fun hb => Or.inl hb, fun hb => hb.elim id (fun hh => absurd hh.1 c5)⟩⟩
      rw [show M + (z + 1) + 1 = (M + z + 1) + 1 by omega, lp_succ]
      unfold BMo_isHeld_39
      simp only [bindv, iD, ie, ↓reduceIte, o_nat (show D < 2147483648 by omega), o_nat (show e < 2147483648 by omega), h15, o_le (show U < 2147483648 by omega) (show j < 2147483648 by omega), o_p1, hUj, y9, e5, c5]
theorem held6 (h3 : Red T n cs [] d) (h : RedM T n cs [] r) (hl : Lt T n cs D S U) {a2 : Int32} : ∀ (z e : Nat) (b : Bool) (M : Nat), S - 1 - e = z → e ≤ S - 1 → ∃ b', lpN BMo_isHeld_6 (M + z + 1) (Int32.ofNat D, a2, Int32.ofNat (S - 1), fl b, Int32.ofNat e, r) = lpN BMo_isHeld_173 100000 (Int32.ofNat D, a2, Int32.ofNat (S - 1), fl b', Int32.ofNat (S - 1), r) ∧ (b' = true ↔ b = true ∨ ∃ i, e ≤ i ∧ i < S - 1 ∧ hQ T n cs D S U i) := by
  intro z
  obtain ⟨-, hN, hK, -⟩ := h3.tk
  have hl' := hl
  obtain ⟨l1, l2, l3, l4, l5, l6, l7, l8, l9, l10⟩ := hl
  induction z with
  | zero =>
    intro e b M h1 h2
    refine ⟨b, ?_, ⟨fun hb => Or.inl hb, fun hb => hb.elim id (fun ⟨i, i1, i2, _⟩ => by omega)⟩⟩
    rw [Nat.add_zero, lp_succ]
    unfold BMo_isHeld_6
    dsimp only
    rw [if_pos (by rw [o_le (by omega) (by omega)]; omega)]
  | succ z ih =>
    intro e b M h1 h2
    have heN : e < NN T n := by omega
    obtain ⟨y9, y6, -⟩ := h.at h3 heN
    have e6 : (Int32.ofNat (zR T n cs e) = 6) = (zR T n cs e = 6) := propext (on_is (v := 6) y6 (by omega))
    have ie : inb (Int32.ofNat e) 240 = true := o_inb (by omega) (by omega)
    have hle : ¬ S - 1 ≤ e := by omega
    have step : ∃ b1, (b1 = true ↔ b = true ∨ zR T n cs e = 6) ∧ ∀ K, BMo_isHeld_6 K (Int32.ofNat D, a2, Int32.ofNat (S - 1), fl b, Int32.ofNat e, r) = lpN (BMo_isHeld_39 K) 100000 (Int32.ofNat D, a2, Int32.ofNat (S - 1), fl b1, Int32.ofNat e, Int32.ofNat (S - 1), r) := by
      cases b with
      | true =>
        refine ⟨true, ⟨fun _ => Or.inl rfl, fun _ => rfl⟩, fun K => ?_⟩
        unfold BMo_isHeld_6
        simp only [o_le (show S - 1 < 2147483648 by omega) (show e < 2147483648 by omega), hle, ↓reduceIte, fl_0, Bool.true_eq_false]
        rfl
      | false =>
        by_cases c6 : zR T n cs e = 6
        · refine ⟨true, ⟨fun _ => Or.inr c6, fun _ => rfl⟩, fun K => ?_⟩
          unfold BMo_isHeld_6
          simp only [bindv, o_le (show S - 1 < 2147483648 by omega) (show e < 2147483648 by omega), hle, ↓reduceIte, fl_0, ie, o_nat (show e < 2147483648 by omega), y9, e6, c6]
          rfl
        · refine ⟨false, ⟨fun hh => absurd hh (by decide), fun hh => hh.elim id (fun hh => absurd hh c6)⟩, fun K => ?_⟩
          unfold BMo_isHeld_6
          simp only [bindv, o_le (show S - 1 < 2147483648 by omega) (show e < 2147483648 by omega), hle, ↓reduceIte, fl_0, ie, o_nat (show e < 2147483648 by omega), y9, e6, c6]
          rfl
    obtain ⟨b1, s1, s2⟩ := step
    obtain ⟨b2, t1, t2⟩ := held39 (a2 := a2) (a3 := Int32.ofNat (S - 1)) (K6 := lpN BMo_isHeld_6 (M + z + 1)) h3 h hl' heN (U - (S - 1)) (S - 1) b1 (99999 - (U - (S - 1))) rfl (by omega)
    rw [show 99999 - (U - (S - 1)) + (U - (S - 1)) + 1 = 100000 by omega] at t1
    obtain ⟨b', g1, g2⟩ := ih (e + 1) b2 M (by omega) (by omega)
    refine ⟨b', ?_, ?_⟩
    · rw [show M + (z + 1) + 1 = (M + z + 1) + 1 by omega, lp_succ, s2, t1]
      exact g1
    · rw [g2, t2, s1]
      constructor
      · rintro (((hh | hh) | hh) | ⟨i, i1, i2, i3⟩)
        · exact Or.inl hh
        · exact Or.inr ⟨e, Nat.le_refl _, by omega, Or.inl hh⟩
        · exact Or.inr ⟨e, Nat.le_refl _, by omega, Or.inr hh⟩
        · exact Or.inr ⟨i, by omega, i2, i3⟩
      · rintro (hh | ⟨i, i1, i2, i3⟩)
        · exact Or.inl (Or.inl (Or.inl hh))
        · by_cases hij : i = e
          · subst hij
            rcases i3 with i3 | i3
            · exact Or.inl (Or.inl (Or.inr i3))
            · exact Or.inl (Or.inr i3)
          · exact Or.inr ⟨i, by omega, i2, i3⟩
theorem held173 (h3 : Red T n cs [] d) (h : RedM T n cs [] r) (hl : Lt T n cs D S U) {a2 a3 : Int32} : ∀ (z j : Nat) (b : Bool) (M : Nat), U - j = z → j ≤ NN T n → ∃ b', lpN BMo_isHeld_173 (M + z + 1) (Int32.ofNat D, a2, a3, fl b, Int32.ofNat j, r) = some (fl b', r) ∧ (b' = true ↔ b = true ∨ ∃ i, j ≤ i ∧ i < U ∧ (zR T n cs i = 4 ∧ zB T n cs i = D + 1)) := by
  intro z
  obtain ⟨-, hN, hK, -⟩ := h3.tk
  obtain ⟨l1, l2, l3, l4, l5, l6, l7, l8, l9, l10⟩ := hl
  have h15 : r.1 15 D = Int32.ofNat U := by
    rw [← l4]
    exact ((h.2.1.2.1 D l1).2.2.2.2 (Or.inr l2)).2.2.2.2.1
  have iD : inb (Int32.ofNat D) 240 = true := o_inb (by omega) (by omega)
  induction z with
  | zero =>
    intro j b M h1 h2
    refine ⟨b, ?_, ⟨fun hb => Or.inl hb, fun hb => hb.elim id (fun ⟨i, i1, i2, _⟩ => by omega)⟩⟩
    rw [Nat.add_zero, lp_succ]
    unfold BMo_isHeld_173
    simp only [iD, ↓reduceIte, o_nat (show D < 2147483648 by omega), h15, o_le (show U < 2147483648 by omega) (show j < 2147483648 by omega), fl_b]
    rw [if_pos (by omega)]
  | succ z ih =>
    intro j b M h1 h2
    have hjN : j < NN T n := by omega
    obtain ⟨x9, x6, x10, xB, -⟩ := h.at h3 hjN
    have ij : inb (Int32.ofNat j) 240 = true := o_inb (by omega) (by omega)
    have j4 : (Int32.ofNat (zR T n cs j) = 4) = (zR T n cs j = 4) := propext (on_is (v := 4) x6 (by omega))
    have jD : (pm (zB T n cs j) = Int32.ofNat D) = (zB T n cs j = D + 1) := propext (pm_D (by omega) (by omega))
    have hUj : ¬ U ≤ j := by omega
    have step : ∃ b1, (b1 = true ↔ b = true ∨ zR T n cs j = 4 ∧ zB T n cs j = D + 1) ∧ ∀ K, BMo_isHeld_173 K (Int32.ofNat D, a2, a3, fl b, Int32.ofNat j, r) = K (Int32.ofNat D, a2, a3, fl b1, Int32.ofNat (j + 1), r) := by
      cases b with
      | true =>
        refine ⟨true, ⟨fun _ => Or.inl rfl, fun _ => rfl⟩, fun K => ?_⟩
        unfold BMo_isHeld_173
        simp only [iD, ↓reduceIte, o_nat (show D < 2147483648 by omega), h15, o_le (show U < 2147483648 by omega) (show j < 2147483648 by omega), hUj, fl_0, Bool.true_eq_false, o_p1]
        rfl
      | false =>
        by_cases c4 : zR T n cs j = 4
        · by_cases cD : zB T n cs j = D + 1
          · refine ⟨true, ⟨fun _ => Or.inr ⟨c4, cD⟩, fun _ => rfl⟩, fun K => ?_⟩
            unfold BMo_isHeld_173
            simp only [bindv, iD, ij, ↓reduceIte, o_nat (show D < 2147483648 by omega), o_nat (show j < 2147483648 by omega), h15, o_le (show U < 2147483648 by omega) (show j < 2147483648 by omega), hUj, fl_0, o_p1, x9, x10, j4.trans (eq_true c4), jD.trans (eq_true cD)]
            rfl
          · refine ⟨false, ⟨fun hh => absurd hh (by decide), fun hh => hh.elim id (fun hh => absurd hh.2 cD)⟩, fun K => ?_⟩
            unfold BMo_isHeld_173
            simp only [bindv, iD, ij, ↓reduceIte, o_nat (show D < 2147483648 by omega), o_nat (show j < 2147483648 by omega), h15, o_le (show U < 2147483648 by omega) (show j < 2147483648 by omega), hUj, fl_0, o_p1, x9, x10, j4.trans (eq_true c4), jD.trans (eq_false cD)]
            rfl
        · refine ⟨false, ⟨fun hh => absurd hh (by decide), fun hh => hh.elim id (fun hh => absurd hh.1 c4)⟩, fun K => ?_⟩
          unfold BMo_isHeld_173
          simp only [bindv, iD, ij, ↓reduceIte, o_nat (show D < 2147483648 by omega), o_nat (show j < 2147483648 by omega), h15, o_le (show U < 2147483648 by omega) (show j < 2147483648 by omega), hUj, fl_0, o_p1, x9, j4, c4]
          rfl
    obtain ⟨b1, s1, s2⟩ := step
    obtain ⟨b', g1, g2⟩ := ih (j + 1) b1 M (by omega) (by omega)
    refine ⟨b', ?_, ?_⟩
    · rw [show M + (z + 1) + 1 = (M + z + 1) + 1 by omega, lp_succ, s2]
      exact g1
    · rw [g2, s1]
      constructor
      · rintro ((hh | hh) | ⟨i, i1, i2, i3⟩)
        · exact Or.inl hh
        · exact Or.inr ⟨j, Nat.le_refl _, by omega, hh⟩
        · exact Or.inr ⟨i, by omega, i2, i3⟩
      · rintro (hh | ⟨i, i1, i2, i3⟩)
        · exact Or.inl (Or.inl hh)
        · by_cases hij : i = j
          · subst hij; exact Or.inl (Or.inr i3)
          · exact Or.inr ⟨i, by omega, i2, i3⟩
theorem heldM (h3 : Red T n cs [] d) (h : RedM T n cs [] r) (hl : Lt T n cs D S U) : ((hP1 T n cs D S ∨ hP2 T n cs D S U ∨ hP3 T n cs D S U) → f_Mo_isHeld (Int32.ofNat D) (Int32.ofNat (D + 2)) (Int32.ofNat (S - 1)) r = some (1, r)) ∧ ((¬ (hP1 T n cs D S ∨ hP2 T n cs D S U ∨ hP3 T n cs D S U)) → f_Mo_isHeld (Int32.ofNat D) (Int32.ofNat (D + 2)) (Int32.ofNat (S - 1)) r = some (0, r)) := by
  obtain ⟨-, hN, hK, -⟩ := h3.tk
  have hl' := hl
  obtain ⟨l1, l2, l3, l4, l5, l6, l7, l8, l9, l10⟩ := hl
  obtain ⟨b1, g1, g2⟩ := held6 (a2 := Int32.ofNat (D + 2)) h3 h hl' (S - 1 - (D + 2)) (D + 2) false (99999 - (S - 1 - (D + 2))) rfl (by omega)
  rw [show 99999 - (S - 1 - (D + 2)) + (S - 1 - (D + 2)) + 1 = 100000 by omega] at g1
  obtain ⟨b2, t1, t2⟩ := held173 (a2 := Int32.ofNat (D + 2)) (a3 := Int32.ofNat (S - 1)) h3 h hl' (U - (S - 1)) (S - 1) b1 (99999 - (U - (S - 1))) rfl (by omega)
  rw [show 99999 - (U - (S - 1)) + (U - (S - 1)) + 1 = 100000 by omega] at t1
  have hf : f_Mo_isHeld (Int32.ofNat D) (Int32.ofNat (D + 2)) (Int32.ofNat (S - 1)) r = some (fl b2, r) := g1.trans t1
  have hAW := gAW cs hK
  have hs0 : zR T n cs (S - 1) = 0 := by
    by_cases hz : zR T n cs (S - 1) = 0
    · exact hz
    · have := ((hAW.1 (S - 1) (by omega)).2.1 hz).2.1
      omega
  have hge : ∀ {i v : Nat}, S - 1 ≤ i → zR T n cs i = v → v ≠ 0 → S ≤ i := fun {i v} i1 i2 i3 => by
    by_cases hi : i = S - 1
    · subst hi; omega
    · omega
  have key : b2 = true ↔ (hP1 T n cs D S ∨ hP2 T n cs D S U ∨ hP3 T n cs D S U) := by
    rw [t2, g2]
    constructor
    · rintro ((hh | ⟨e, i1, i2, i3⟩) | ⟨j, j1, j2, j3, j4⟩)
      · exact absurd hh (by decide)
      · rcases i3 with i3 | ⟨i3, j, j1, j2, j3⟩
        · exact Or.inl ⟨e, i1, i2, i3⟩
        · rcases j3 with ⟨j3, j4⟩ | ⟨j3, j4, j5⟩
          · exact Or.inr (Or.inl ⟨j, hge j1 j3 (by omega), j2, j3, Or.inr ⟨e, i1, i2, j4⟩⟩)
          · exact Or.inr (Or.inr ⟨j, hge j1 j3 (by omega), j2, j4, e, i1, i2, i3, j5⟩)
      · exact Or.inr (Or.inl ⟨j, hge j1 j3 (by omega), j2, j3, Or.inl j4⟩)
    · rintro (⟨e, i1, i2, i3⟩ | ⟨j, j1, j2, j3, j4⟩ | ⟨j, j1, j2, j3, e, i1, i2, i3, i4⟩)
      · exact Or.inl (Or.inr ⟨e, i1, i2, Or.inl i3⟩)
      · rcases j4 with j4 | ⟨e, i1, i2, i3⟩
        · exact Or.inr ⟨j, by omega, j2, j3, j4⟩
        · have hjn : zB T n cs j ≠ 0 := by
            intro hz
            have hF := (all_ok h3).2 j (by omega)
            have j3' : gR (CL T n) (NM T n) (NN T n) cs j = 4 := j3
            have hz' : wB (CL T n) (NM T n) (NN T n) (gR (CL T n) (NM T n) (NN T n) cs) (gSc (CL T n) (NM T n) (NN T n) cs) (gSi (CL T n) (NM T n) (NN T n) cs) (gUn (CL T n) (NM T n) (NN T n) cs) j = 0 := hz
            have hF' : wF (CL T n) (NM T n) (NN T n) (gR (CL T n) (NM T n) (NN T n) cs) (gG (CL T n) (NM T n) (NN T n) cs) (gSc (CL T n) (NM T n) (NN T n) cs) (gSi (CL T n) (NM T n) (NN T n) cs) (gUn (CL T n) (NM T n) (NN T n) cs) (gN (CL T n) (NM T n) (NN T n) cs) j = 0 := hF
            unfold wB at hz'
            unfold wF at hF'
            rw [if_neg (show ¬ (gR (CL T n) (NM T n) (NN T n) cs j = 1 ∨ gR (CL T n) (NM T n) (NN T n) cs j = 2 ∨ gR (CL T n) (NM T n) (NN T n) cs j = 3) by omega), if_pos (show gR (CL T n) (NM T n) (NN T n) cs j = 4 ∨ gR (CL T n) (NM T n) (NN T n) cs j = 5 from Or.inl j3')] at hz'
            rw [if_neg (show ¬ gR (CL T n) (NM T n) (NN T n) cs j = 1 by omega), if_neg (show ¬ (gR (CL T n) (NM T n) (NN T n) cs j = 2 ∨ gR (CL T n) (NM T n) (NN T n) cs j = 3) by omega), if_pos (show gR (CL T n) (NM T n) (NN T n) cs j = 4 ∨ gR (CL T n) (NM T n) (NN T n) cs j = 5 from Or.inl j3'), if_pos hz'] at hF'
            omega
          have her : zR T n cs e ≠ 0 := by
            intro hz
            have hz1 : gR (CL T n) (NM T n) (NN T n) cs e = 0 := hz
            have : zB T n cs e = 0 := by
              show wB _ _ _ _ _ _ _ e = 0
              unfold wB
              rw [if_neg (by omega), if_neg (by omega), if_neg (by omega)]
            omega
          rcases l10 e (by omega) (by omega) (by omega) with w | w | w
          · exact absurd w her
          · exact Or.inl (Or.inr ⟨e, i1, i2, Or.inr ⟨w, j, by omega, j2, Or.inl ⟨j3, i3⟩⟩⟩)
          · exact Or.inl (Or.inr ⟨e, i1, i2, Or.inl w⟩)
      · have hr := (use_ge hK hl' (show j < NN T n by omega) j3 (by omega)).1
        rcases hr with hr | hr
        · exact Or.inr ⟨j, by omega, j2, hr, j3⟩
        · exact Or.inl (Or.inr ⟨e, i1, i2, Or.inr ⟨i3, j, by omega, j2, Or.inr ⟨hr, j3, i4⟩⟩⟩)
  rw [hf]
  refine ⟨fun hh => ?_, fun hh => ?_⟩
  · rw [key.mpr hh]; rfl
  · cases hb : b2 with
    | true => exact absurd (key.mp hb) hh
    | false => rfl
end
