/-! inline: what holds a variable, by the desk -/
theorem srch {α β : Type} {F : (α → Option β) → α → Option β} {st : Nat → α} {lo hi : Nat} {P : Nat → Prop} {y1 y0 : Option β} (h1 : ∀ q, lo ≤ q → q < hi → (P q → ∀ K, F K (st q) = y1) ∧ (¬ P q → ∀ K, F K (st q) = K (st (q + 1)))) (h0 : ∀ q, hi ≤ q → ∀ K, F K (st q) = y0) : ∀ (z q M : Nat), hi - q = z → lo ≤ q → ((∃ i, q ≤ i ∧ i < hi ∧ P i) → lpN F (M + z + 1) (st q) = y1) ∧ ((¬ ∃ i, q ≤ i ∧ i < hi ∧ P i) → lpN F (M + z + 1) (st q) = y0) := by
  intro z
  induction z with
  | zero =>
    intro q M e1 e2
    refine ⟨fun ⟨i, i1, i2, _⟩ => by omega, fun _ => ?_⟩
    rw [Nat.add_zero, lp_succ]
    exact h0 q (by omega) _
  | succ z ih =>
    intro q M e1 e2
    obtain ⟨g1, g2⟩ := h1 q e2 (by omega)
    obtain ⟨i1, i2⟩ := ih (q + 1) M (by omega) (by omega)
    rw [show M + (z + 1) + 1 = (M + z + 1) + 1 by omega, lp_succ]
    by_cases hp : P q
    · rw [g1 hp]
      exact ⟨fun _ => rfl, fun h => absurd ⟨q, Nat.le_refl _, by omega, hp⟩ h⟩
    · rw [g2 hp]
      refine ⟨fun ⟨i, a, b, c⟩ => i1 ⟨i, ?_, b, c⟩, fun h => i2 (fun ⟨i, a, b, c⟩ => h ⟨i, by omega, b, c⟩)⟩
      by_cases hi' : i = q
      · subst hi'; exact absurd c hp
      · omega
abbrev zR (T : Nat → Nat) (n : Nat) (cs : Nat → Cds) : Nat → Nat := gR (CL T n) (NM T n) (NN T n) cs
abbrev zS (T : Nat → Nat) (n : Nat) (cs : Nat → Cds) : Nat → Nat := gSi (CL T n) (NM T n) (NN T n) cs
abbrev zU (T : Nat → Nat) (n : Nat) (cs : Nat → Cds) : Nat → Nat := gUn (CL T n) (NM T n) (NN T n) cs
abbrev zM (T : Nat → Nat) (n : Nat) (cs : Nat → Cds) (w k : Nat) : Nat := mean (gR (CL T n) (NM T n) (NN T n) cs) (NM T n) (gSc (CL T n) (NM T n) (NN T n) cs) (gSi (CL T n) (NM T n) (NN T n) cs) (gUn (CL T n) (NM T n) (NN T n) cs) (NN T n) w k
theorem zM_le {T : Nat → Nat} {n : Nat} {cs : Nat → Cds} {w k : Nat} : zM T n cs w k ≤ NN T n := by
  rcases lsB_ok (P := ftB (gR (CL T n) (NM T n) (NN T n) cs) (NM T n) (gSc (CL T n) (NM T n) (NN T n) cs) (gSi (CL T n) (NM T n) (NN T n) cs) (gUn (CL T n) (NM T n) (NN T n) cs) w k) (NN T n) with ⟨g1, -⟩ | ⟨q', g1, g2, -⟩
  · show lsB _ _ ≤ _
    omega
  · show lsB _ _ ≤ _
    omega
theorem Red.tk {T : Nat → Nat} {n : Nat} {cs : Nat → Cds} {l : List Nat} {d : DS} (h : Red T n cs l d) : TkL T n (LL T n) ∧ NN T n ≤ 240 ∧ TK (CL T n) (NM T n) (NN T n) ∧ TS (SK T n) (EK T n) (NN T n) := tok_all h.1.2.1 (fun i hi => (h.1.2.2 i hi).2.2)
theorem Red.ok {T : Nat → Nat} {n : Nat} {cs : Nat → Cds} {d : DS} (h : Red T n cs [] d) {k : Nat} (hk : k < NN T n) : okP (CL T n) (NM T n) (NN T n) cs (pt (CL T n) (NN T n) k) = true := (all_ok h).1 _ (pt_ok h.tk.2.2.1 hk).1
theorem Red.at {T : Nat → Nat} {n : Nat} {cs : Nat → Cds} {d : DS} (h : Red T n cs [] d) {k : Nat} (hk : k < NN T n) : d.1 13 k = Int32.ofNat (sw (zR T n cs k)) ∧ zR T n cs k ≤ 6 ∧ d.1 14 k = pm (zB T n cs k) ∧ zB T n cs k ≤ 240 ∧ (zR T n cs k ≠ 0 → d.1 5 k = Int32.ofNat (NM T n k)) := by
  obtain ⟨-, hN, hK, -⟩ := h.tk
  obtain ⟨a1, a2, -⟩ := (gAW cs hK).1 k hk
  have hz := zB_le (cs := cs) hk
  refine ⟨(h.2.1.2.1 k hk (h.ok hk)).1, a1, h.2.2.2.1 k hk, by omega, fun hr => ?_⟩
  exact (h.2.1.1.2 k hk).2.2.1 (Or.inl (a2 hr).2.1)
theorem sw_is {t : Nat} (h : t ≤ 6) : (Int32.ofNat (sw t) = 6 ↔ t = 6) ∧ (Int32.ofNat (sw t) = 5 ↔ t = 4) ∧ (Int32.ofNat (sw t) = 4 ↔ t = 5) ∧ (Int32.ofNat (sw t) = 3 ↔ t = 3) := by
  have : t = 0 ∨ t = 1 ∨ t = 2 ∨ t = 3 ∨ t = 4 ∨ t = 5 ∨ t = 6 := by omega
  rcases this with rfl | rfl | rfl | rfl | rfl | rfl | rfl <;> decide
theorem on_is {t v : Nat} (h : t ≤ 6) (hv : v ≤ 6) : Int32.ofNat t = Int32.ofNat v ↔ t = v := by
  rw [o_eq (by omega) (by omega)]
/-- A let that can be inlined: its facts. -/
def Lt (T : Nat → Nat) (n : Nat) (cs : Nat → Cds) (D S U : Nat) : Prop := D < NN T n ∧ zR T n cs D = 3 ∧ zS T n cs D = S ∧ zU T n cs D = U ∧ D + 4 ≤ S ∧ S ≤ NN T n ∧ 0 < D ∧ CL T n (S - 1) = 59 ∧ U ≤ NN T n ∧ ∀ q, q < NN T n → D < q → q < S → zR T n cs q = 0 ∨ zR T n cs q = 5 ∨ zR T n cs q = 6
theorem Lt.of {T : Nat → Nat} {n : Nat} {cs : Nat → Cds} {l : List Nat} {d : DS} {D : Nat} (h : Red T n cs l d) (hD : D < NN T n) (h3 : zR T n cs D = 3) : Lt T n cs D (zS T n cs D) (zU T n cs D) := by
  obtain ⟨-, hN, hK, -⟩ := h.tk
  obtain ⟨a1, a2, a3, a4, a5, a6⟩ := let_ok cs hK hD h3
  exact ⟨hD, h3, rfl, rfl, a1, a2, a3, a4, a5, a6⟩
def hP1 (T : Nat → Nat) (n : Nat) (cs : Nat → Cds) (D S : Nat) : Prop := ∃ e, D + 2 ≤ e ∧ e < S - 1 ∧ zR T n cs e = 6
def hSt (T : Nat → Nat) (n : Nat) (cs : Nat → Cds) (D S x : Nat) : Prop := ∃ e, D + 2 ≤ e ∧ e < S - 1 ∧ zB T n cs e = x
def hP2 (T : Nat → Nat) (n : Nat) (cs : Nat → Cds) (D S U : Nat) : Prop := ∃ j, S ≤ j ∧ j < U ∧ (zR T n cs j = 4 ∧ (zB T n cs j = D + 1 ∨ hSt T n cs D S (zB T n cs j)))
def hKp (T : Nat → Nat) (n : Nat) (cs : Nat → Cds) (D S j : Nat) : Prop := ∃ e, D + 2 ≤ e ∧ e < S - 1 ∧ (zR T n cs e = 5 ∧ zM T n cs (NM T n e) j ≠ zB T n cs e)
def hP3 (T : Nat → Nat) (n : Nat) (cs : Nat → Cds) (D S U : Nat) : Prop := ∃ j, S ≤ j ∧ j < U ∧ (zB T n cs j = D + 1 ∧ hKp T n cs D S j)
section
variable {T : Nat → Nat} {n : Nat} {cs : Nat → Cds} {d : DS} {D S U : Nat}
theorem semiD (h : Red T n cs [] d) (hl : Lt T n cs D S U) : f_Na_semicolonOf (Int32.ofNat D) d = some (Int32.ofNat (S - 1), d) ∧ d.1 17 D = Int32.ofNat S ∧ ∃ sc, sc < 240 ∧ d.1 16 D = Int32.ofNat sc ∧ d.1 18 sc = Int32.ofNat U := by
  obtain ⟨-, hN, hK, -⟩ := h.tk
  obtain ⟨l1, l2, l3, l4, l5, l6, l7, l8, l9, l10⟩ := hl
  obtain ⟨y1, y2, y3⟩ := (h.2.1.2.1 D l1 (h.ok l1)).2.2.2 l2
  have y2 : d.1 17 D = Int32.ofNat (zS T n cs D) := y2
  have y3 : d.1 18 (gSc (CL T n) (NM T n) (NN T n) cs D) = Int32.ofNat (zU T n cs D) := y3
  rw [l3] at y2
  rw [l4] at y3
  have hsc := ((gAW cs hK).1 D l1).2.2.2.2.1 l2
  refine ⟨?_, y2, _, ?_, y1, y3⟩
  · unfold f_Na_semicolonOf
    rw [if_pos (o_inb (by omega) (by omega)), o_nat (by omega), y2]
    have : Int32.ofNat S - 1 = Int32.ofNat (S - 1) := by
      rw [i_eq, i_sub (by rw [onat (by omega), n1]; omega) (by rw [onat (by omega), n1]; omega), onat (by omega), onat (by omega), n1]
      omega
    rw [this]
  · omega
theorem firstE (hD : D ≤ 300) : f_Na_firstOfExpression (Int32.ofNat D) d = some (Int32.ofNat (D + 2), d) := by
  unfold f_Na_firstOfExpression
  have : Int32.ofNat D + 2 = Int32.ofNat (D + 2) := o_add (a := D) (b := 2)
  rw [this]
theorem hasCallD (h : Red T n cs [] d) (hl : Lt T n cs D S U) : (hP1 T n cs D S → f_Na_hasCall (Int32.ofNat D) d = some (1, d)) ∧ (¬ hP1 T n cs D S → f_Na_hasCall (Int32.ofNat D) d = some (0, d)) := by
  obtain ⟨-, hN, hK, -⟩ := h.tk
  obtain ⟨s1, -⟩ := semiD h hl
  obtain ⟨l1, l2, l3, l4, l5, l6, l7, l8, l9, l10⟩ := hl
  have hun : ∀ q K, q < 300 → BNa_hasCall_6 K (Int32.ofNat D, Int32.ofNat q, d) = if S - 1 ≤ q then some (0, d) else if inb (Int32.ofNat q) 240 then (if d.1 13 q = 6 then some (1, d) else K (Int32.ofNat D, Int32.ofNat (q + 1), d)) else none := by
    intro q K hq
    unfold BNa_hasCall_6
    simp only [s1, Option.bind_some, o_nat (show q < 2147483648 by omega), o_p1, o_le (show S - 1 < 2147483648 by omega) (show q < 2147483648 by omega)]
  have hs := srch (F := BNa_hasCall_6) (st := fun q => (Int32.ofNat D, Int32.ofNat (min q 250), d)) (lo := D + 2) (hi := S - 1) (P := fun q => zR T n cs q = 6) (y1 := some (1, d)) (y0 := some (0, d)) (fun q q1 q2 => by
    obtain ⟨e1, e2, -⟩ := h.at (show q < NN T n by omega)
    have e3 := (sw_is e2).1
    rw [show min q 250 = q by omega, show min (q + 1) 250 = q + 1 by omega]
    refine ⟨fun hp K => ?_, fun hp K => ?_⟩
    · rw [hun q K (by omega), if_neg (by omega), if_pos (o_inb (by omega) (by omega)), e1, if_pos (e3.mpr hp)]
    · rw [hun q K (by omega), if_neg (by omega), if_pos (o_inb (by omega) (by omega)), e1, if_neg (fun hh => hp (e3.mp hh))]) (fun q q1 K => by
    rw [hun (min q 250) K (by omega), if_pos (by omega)]) (S - 1 - (D + 2)) (D + 2) (99999 - (S - 1 - (D + 2))) rfl (Nat.le_refl _)
  rw [show 99999 - (S - 1 - (D + 2)) + (S - 1 - (D + 2)) + 1 = 100000 by omega] at hs
  have hm : min (D + 2) 250 = D + 2 := by omega
  unfold f_Na_hasCall
  rw [firstE (by omega), Option.bind_some]
  dsimp only at hs ⊢
  rw [hm] at hs
  exact hs
theorem standsD (h : Red T n cs [] d) (hl : Lt T n cs D S U) {x : Nat} (hx : x ≤ 240) : (hSt T n cs D S x → f_Na_standsOn (Int32.ofNat D) (pm x) d = some (1, d)) ∧ (¬ hSt T n cs D S x → f_Na_standsOn (Int32.ofNat D) (pm x) d = some (0, d)) := by
  obtain ⟨-, hN, hK, -⟩ := h.tk
  obtain ⟨s1, -⟩ := semiD h hl
  obtain ⟨l1, l2, l3, l4, l5, l6, l7, l8, l9, l10⟩ := hl
  have hun : ∀ q K, q < 300 → BNa_standsOn_6 K (Int32.ofNat D, pm x, Int32.ofNat q, d) = if S - 1 ≤ q then some (0, d) else if inb (Int32.ofNat q) 240 then (if d.1 14 q = pm x then some (1, d) else K (Int32.ofNat D, pm x, Int32.ofNat (q + 1), d)) else none := by
    intro q K hq
    unfold BNa_standsOn_6
    simp only [s1, Option.bind_some, o_nat (show q < 2147483648 by omega), o_p1, o_le (show S - 1 < 2147483648 by omega) (show q < 2147483648 by omega)]
  have hs := srch (F := BNa_standsOn_6) (st := fun q => (Int32.ofNat D, pm x, Int32.ofNat (min q 250), d)) (lo := D + 2) (hi := S - 1) (P := fun q => zB T n cs q = x) (y1 := some (1, d)) (y0 := some (0, d)) (fun q q1 q2 => by
    obtain ⟨-, -, e1, e2, -⟩ := h.at (show q < NN T n by omega)
    have e3 : (pm (zB T n cs q) = pm x) = (zB T n cs q = x) := pm_inj (by omega) (by omega)
    rw [show min q 250 = q by omega, show min (q + 1) 250 = q + 1 by omega]
    refine ⟨fun hp K => ?_, fun hp K => ?_⟩
    · rw [hun q K (by omega), if_neg (by omega), if_pos (o_inb (by omega) (by omega)), e1, if_pos (e3.mpr hp)]
    · rw [hun q K (by omega), if_neg (by omega), if_pos (o_inb (by omega) (by omega)), e1, if_neg (fun hh => hp (e3.mp hh))]) (fun q q1 K => by
    rw [hun (min q 250) K (by omega), if_pos (by omega)]) (S - 1 - (D + 2)) (D + 2) (99999 - (S - 1 - (D + 2))) rfl (Nat.le_refl _)
  rw [show 99999 - (S - 1 - (D + 2)) + (S - 1 - (D + 2)) + 1 = 100000 by omega] at hs
  have hm : min (D + 2) 250 = D + 2 := by omega
  unfold f_Na_standsOn
  rw [firstE (by omega), Option.bind_some]
  dsimp only at hs ⊢
  rw [hm] at hs
  exact hs
theorem overD (h : Red T n cs [] d) (hl : Lt T n cs D S U) : (hP2 T n cs D S U → f_Na_isOvertaken (Int32.ofNat D) d = some (1, d)) ∧ (¬ hP2 T n cs D S U → f_Na_isOvertaken (Int32.ofNat D) d = some (0, d)) := by
  obtain ⟨-, hN, hK, -⟩ := h.tk
  obtain ⟨s1, s2, sc, s3, s4, s5⟩ := semiD h hl
  have hl' := hl
  obtain ⟨l1, l2, l3, l4, l5, l6, l7, l8, l9, l10⟩ := hl
  have hun : ∀ q K, q < 300 → BNa_isOvertaken_7 K (Int32.ofNat D, Int32.ofNat q, d) = if U ≤ q then some (0, d) else if inb (Int32.ofNat q) 240 then (if d.1 13 q = 5 then (if d.1 14 q = Int32.ofNat D then some (1, d) else (f_Na_standsOn (Int32.ofNat D) (d.1 14 q) d).bind fun q11 => if q11.1 = 0 then K (Int32.ofNat D, Int32.ofNat (q + 1), q11.2) else some (1, q11.2)) else K (Int32.ofNat D, Int32.ofNat (q + 1), d)) else none := by
    intro q K hq
    unfold BNa_isOvertaken_7
    simp only [bindv, o_inb (show D < 240 by omega) (show D < 2147483648 by omega), o_nat (show D < 2147483648 by omega), s4, o_inb (show sc < 240 by omega) (show sc < 2147483648 by omega), o_nat (show sc < 2147483648 by omega), s5, o_nat (show q < 2147483648 by omega), o_p1, o_le (show U < 2147483648 by omega) (show q < 2147483648 by omega), ↓reduceIte]
    by_cases hi : inb (Int32.ofNat q) 240 = true
    · simp only [hi, ↓reduceIte]
    · simp only [hi]
      rfl
  have hs := srch (F := BNa_isOvertaken_7) (st := fun q => (Int32.ofNat D, Int32.ofNat (min q 250), d)) (lo := S) (hi := U) (P := fun q => zR T n cs q = 4 ∧ (zB T n cs q = D + 1 ∨ hSt T n cs D S (zB T n cs q))) (y1 := some (1, d)) (y0 := some (0, d)) (fun q q1 q2 => by
    obtain ⟨e1, e2, e4, e5, -⟩ := h.at (show q < NN T n by omega)
    have e3 := (sw_is e2).2.1
    have e6 : pm (zB T n cs q) = Int32.ofNat D ↔ zB T n cs q = D + 1 := pm_D (by omega) (by omega)
    obtain ⟨t1, t2⟩ := standsD h hl' e5
    rw [show min q 250 = q by omega, show min (q + 1) 250 = q + 1 by omega]
    refine ⟨fun hp K => ?_, fun hp K => ?_⟩
    · rw [hun q K (by omega), if_neg (by omega), if_pos (o_inb (by omega) (by omega)), e1, if_pos (e3.mpr hp.1), e4]
      by_cases c1 : zB T n cs q = D + 1
      · rw [if_pos (e6.mpr c1)]
      · rw [if_neg (fun hh => c1 (e6.mp hh)), t1 (hp.2.resolve_left c1), Option.bind_some]
        dsimp only
        rw [if_neg (show ¬ (1 : Int32) = 0 by decide)]
    · rw [hun q K (by omega), if_neg (by omega), if_pos (o_inb (by omega) (by omega)), e1]
      by_cases c0 : zR T n cs q = 4
      · have c1 : ¬ zB T n cs q = D + 1 := fun hh => hp ⟨c0, Or.inl hh⟩
        have c2 : ¬ hSt T n cs D S (zB T n cs q) := fun hh => hp ⟨c0, Or.inr hh⟩
        rw [if_pos (e3.mpr c0), e4, if_neg (fun hh => c1 (e6.mp hh)), t2 c2, Option.bind_some]
        dsimp only
        rw [if_pos rfl]
      · rw [if_neg (fun hh => c0 (e3.mp hh))]) (fun q q1 K => by
    rw [hun (min q 250) K (by omega), if_pos (by omega)]) (U - S) S (99999 - (U - S)) rfl (Nat.le_refl _)
  rw [show 99999 - (U - S) + (U - S) + 1 = 100000 by omega] at hs
  have hm : min S 250 = S := by omega
  unfold f_Na_isOvertaken
  rw [if_pos (o_inb (by omega) (by omega)), o_nat (by omega), s2]
  rw [hm] at hs
  exact hs
end
