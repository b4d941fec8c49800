/-! what rename and inline keep, count and compare -/
theorem copyLoop {n : Nat} {F : (Int32 × RS → Option RS) → Int32 × RS → Option RS} {E : RS → Option RS} {i0 : Nat} {src : RS → Nat → Int32} (hn : n ≤ 240) (hend : ∀ r M, (∀ k, k = n → lpN F (M + 1) (Int32.ofNat k, r) = E r) ∨ True) : True := trivial
theorem keepM {n N : Nat} {r : RS} (hn : n ≤ 240) (hN : N ≤ 240) (h1 : r.2.1 1 = Int32.ofNat n) (h3 : r.2.1 3 = Int32.ofNat N) : ∃ r' : RS, f_Mo_keep r = some r' ∧ (∀ i, i < n → r'.1 3 i = r.1 2 i) ∧ (∀ q, q < N → r'.1 11 q = r.1 10 q) ∧ (∀ i, i ≠ 3 → i ≠ 11 → r'.1 i = r.1 i) ∧ r'.2.1 2 = Int32.ofNat n ∧ (∀ i, i ≠ 2 → r'.2.1 i = r.2.1 i) ∧ r'.2.2 = r.2.2 := by
  have loop2 : ∀ (z k M : Nat) (r1 : RS), N - k = z → k ≤ N → r1.2.1 3 = Int32.ofNat N → ∃ r' : RS, lpN BMo_keep_38 (M + z + 1) (Int32.ofNat k, r1) = some r' ∧ (∀ q, k ≤ q → q < N → r'.1 11 q = r1.1 10 q) ∧ (∀ q, q < k → r'.1 11 q = r1.1 11 q) ∧ (∀ i, i ≠ 11 → r'.1 i = r1.1 i) ∧ r'.2 = r1.2 := by
    intro z
    induction z with
    | zero =>
      intro k M r1 y1 y2 y3
      have : k = N := by omega
      subst this
      rw [Nat.add_zero, lp_succ]
      unfold BMo_keep_38
      dsimp only
      rw [y3, if_pos (by rw [i_le]; omega)]
      exact ⟨r1, rfl, fun q a b => by omega, fun _ _ => rfl, fun _ _ => rfl, rfl⟩
    | succ z ih =>
      intro k M r1 y1 y2 y3
      obtain ⟨r', g1, g2, g3, g4, g5⟩ := ih (k + 1) M (va_up r1.1 11 (upd (r1.1 11) k (r1.1 10 k)), r1.2.1, r1.2.2) (by omega) (by omega) y3
      refine ⟨r', ?_, fun q a b => ?_, fun q a => (g3 q (by omega)).trans (ud_ne (by omega)), fun i hi => (g4 i hi).trans (up_ne hi), g5⟩
      · rw [show M + (z + 1) + 1 = (M + z + 1) + 1 by omega, lp_succ]
        unfold BMo_keep_38
        dsimp only
        rw [y3, if_neg (by rw [o_le (by omega) (by omega)]; omega), if_pos (o_inb (by omega) (by omega)), if_pos (o_inb (by omega) (by omega)), o_nat (by omega), onat1 (by omega)]
        exact g1
      · by_cases hq : q = k
        · subst hq; exact (g3 q (by omega)).trans ud_eq
        · exact g2 q (by omega) b
  have loop1 : ∀ (z k M : Nat) (r1 : RS), n - k = z → k ≤ n → r1.2.1 1 = Int32.ofNat n → ∃ r' : RS, lpN BMo_keep_2 (M + z + 1) (Int32.ofNat k, r1) = lpN BMo_keep_38 100000 (0, (r'.1, va_up r'.2.1 2 (r'.2.1 1), r'.2.2)) ∧ (∀ q, k ≤ q → q < n → r'.1 3 q = r1.1 2 q) ∧ (∀ q, q < k → r'.1 3 q = r1.1 3 q) ∧ (∀ i, i ≠ 3 → r'.1 i = r1.1 i) ∧ r'.2 = r1.2 := by
    intro z
    induction z with
    | zero =>
      intro k M r1 y1 y2 y3
      have : k = n := by omega
      subst this
      rw [Nat.add_zero, lp_succ]
      unfold BMo_keep_2
      dsimp only
      rw [if_pos (show r1.2.1 1 ≤ Int32.ofNat k by rw [y3, i_le]; omega)]
      exact ⟨r1, rfl, fun q a b => by omega, fun _ _ => rfl, fun _ _ => rfl, rfl⟩
    | succ z ih =>
      intro k M r1 y1 y2 y3
      obtain ⟨r', g1, g2, g3, g4, g5⟩ := ih (k + 1) M (va_up r1.1 3 (upd (r1.1 3) k (r1.1 2 k)), r1.2.1, r1.2.2) (by omega) (by omega) y3
      refine ⟨r', ?_, fun q a b => ?_, fun q a => (g3 q (by omega)).trans (ud_ne (by omega)), fun i hi => (g4 i hi).trans (up_ne hi), g5⟩
      · rw [show M + (z + 1) + 1 = (M + z + 1) + 1 by omega, lp_succ]
        unfold BMo_keep_2
        dsimp only
        rw [if_neg (show ¬ r1.2.1 1 ≤ Int32.ofNat k by rw [y3, o_le (by omega) (by omega)]; omega), if_pos (o_inb (by omega) (by omega)), if_pos (o_inb (by omega) (by omega)), o_nat (by omega), onat1 (by omega)]
        exact g1
      · by_cases hq : q = k
        · subst hq; exact (g3 q (by omega)).trans ud_eq
        · exact g2 q (by omega) b
  obtain ⟨r1, a1, a2, a3, a4, a5⟩ := loop1 n 0 (99999 - n) r rfl (by omega) h1
  rw [show 99999 - n + n + 1 = 100000 by omega] at a1
  have e1 : r1.2.1 1 = Int32.ofNat n := by rw [a5]; exact h1
  obtain ⟨r2, b1, b2, b3, b4, b5⟩ := loop2 N 0 (99999 - N) (r1.1, va_up r1.2.1 2 (r1.2.1 1), r1.2.2) rfl (by omega) (by show r1.2.1 3 = _; rw [a5]; exact h3)
  rw [show 99999 - N + N + 1 = 100000 by omega] at b1
  refine ⟨r2, a1.trans b1, fun i hi => ?_, fun q hq => ?_, fun i x y => ?_, ?_, fun i hi => ?_, ?_⟩
  · rw [b4 3 (by decide)]; exact a2 i (by omega) hi
  · rw [b2 q (by omega) hq]
    show r1.1 10 q = _
    rw [a4 10 (by decide)]
  · rw [b4 i y]; exact a4 i x
  · rw [b5]; exact e1
  · rw [b5]
    show va_up r1.2.1 2 (r1.2.1 1) i = _
    rw [up_ne hi, a5]
  · rw [b5]
    show r1.2.2 = _
    rw [a5]
theorem becomeM {r : RS} {L : List Nat} (hL : NL r L) (hl : L.length ≤ 240) : ∃ r' : RS, f_Mo_becomeFresh (Int32.ofNat L.length) r = some r' ∧ (∀ i, i < L.length → r'.1 2 i = Int32.ofNat (L.getD i 0)) ∧ r'.2.1 1 = Int32.ofNat L.length ∧ (∀ i, i ≠ 2 → r'.1 i = r.1 i) ∧ (∀ i, i ≠ 1 → r'.2.1 i = r.2.1 i) ∧ r'.2.2 = r.2.2 := by
  have loop : ∀ (z k M : Nat) (r1 : RS), L.length - k = z → k ≤ L.length → NL r1 L → (∀ i, i < k → r1.1 2 i = Int32.ofNat (L.getD i 0)) → ∃ r' : RS, lpN BMo_becomeFresh_2 (M + z + 1) (Int32.ofNat L.length, Int32.ofNat k, r1) = some r' ∧ (∀ i, i < L.length → r'.1 2 i = Int32.ofNat (L.getD i 0)) ∧ r'.2.1 1 = Int32.ofNat L.length ∧ (∀ i, i ≠ 2 → r'.1 i = r1.1 i) ∧ (∀ i, i ≠ 1 → r'.2.1 i = r1.2.1 i) ∧ r'.2.2 = r1.2.2 := by
    intro z
    induction z with
    | zero =>
      intro k M r1 y1 y2 y3 y4
      have : k = L.length := by omega
      subst this
      rw [Nat.add_zero, lp_succ]
      unfold BMo_becomeFresh_2
      dsimp only
      rw [if_pos (by rw [i_le]; omega)]
      exact ⟨_, rfl, y4, rfl, fun _ _ => rfl, fun i hi => up_ne hi, rfl⟩
    | succ z ih =>
      intro k M r1 y1 y2 y3 y4
      obtain ⟨r', g1, g2, g3, g4, g5, g6⟩ := ih (k + 1) M (va_up r1.1 2 (upd (r1.1 2) k (r1.1 4 k)), r1.2.1, r1.2.2) (by omega) (by omega) y3 (fun i hi => by
        show upd (r1.1 2) k (r1.1 4 k) i = _
        by_cases hik : i = k
        · subst hik; rw [ud_eq]; exact y3 i (by omega)
        · rw [ud_ne hik]; exact y4 i (by omega))
      refine ⟨r', ?_, g2, g3, fun i hi => (g4 i hi).trans (up_ne hi), g5, g6⟩
      rw [show M + (z + 1) + 1 = (M + z + 1) + 1 by omega, lp_succ]
      unfold BMo_becomeFresh_2
      dsimp only
      rw [if_neg (by rw [o_le (by omega) (by omega)]; omega), if_pos (o_inb (by omega) (by omega)), if_pos (o_inb (by omega) (by omega)), o_nat (by omega), onat1 (by omega)]
      exact g1
  have := loop L.length 0 (99999 - L.length) r rfl (by omega) hL (fun i hi => absurd hi (Nat.not_lt_zero _))
  rw [show 99999 - L.length + L.length + 1 = 100000 by omega] at this
  exact this
theorem takeM {n : Nat} {r : RS} {a : Int32} (hn : n ≤ 240) (h2 : r.2.1 2 = Int32.ofNat n) : ∃ r' : RS, f_Mo_takeBack a r = some (0, r') ∧ (∀ i, i < n → r'.1 2 i = r.1 3 i) ∧ r'.2.1 1 = Int32.ofNat n ∧ r'.2.1 0 = a ∧ (∀ i, i ≠ 2 → r'.1 i = r.1 i) ∧ (∀ i, i ≠ 0 → i ≠ 1 → r'.2.1 i = r.2.1 i) ∧ r'.2.2 = r.2.2 := by
  have loop : ∀ (z k M : Nat) (r1 : RS), n - k = z → k ≤ n → r1.2.1 2 = Int32.ofNat n → (∀ i, i < k → r1.1 2 i = r1.1 3 i) → ∃ r' : RS, lpN BMo_takeBack_2 (M + z + 1) (a, Int32.ofNat k, r1) = some (0, r') ∧ (∀ i, i < n → r'.1 2 i = r1.1 3 i) ∧ r'.2.1 1 = Int32.ofNat n ∧ r'.2.1 0 = a ∧ (∀ i, i ≠ 2 → r'.1 i = r1.1 i) ∧ (∀ i, i ≠ 0 → i ≠ 1 → r'.2.1 i = r1.2.1 i) ∧ r'.2.2 = r1.2.2 := by
    intro z
    induction z with
    | zero =>
      intro k M r1 y1 y2 y3 y4
      have : k = n := by omega
      subst this
      rw [Nat.add_zero, lp_succ]
      unfold BMo_takeBack_2 f_Mo_fails
      dsimp only
      rw [if_pos (show r1.2.1 2 ≤ Int32.ofNat k by rw [y3, i_le]; omega), Option.bind_some]
      exact ⟨_, rfl, y4, y3, rfl, fun _ _ => rfl, fun i x y => (up_ne x).trans (up_ne y), rfl⟩
    | succ z ih =>
      intro k M r1 y1 y2 y3 y4
      obtain ⟨r', g1, g2, g3, g4, g5, g6, g7⟩ := ih (k + 1) M (va_up r1.1 2 (upd (r1.1 2) k (r1.1 3 k)), r1.2.1, r1.2.2) (by omega) (by omega) y3 (fun i hi => by
        show upd (r1.1 2) k (r1.1 3 k) i = r1.1 3 i
        by_cases hik : i = k
        · subst hik; rw [ud_eq]
        · rw [ud_ne hik]; exact y4 i (by omega))
      refine ⟨r', ?_, g2, g3, g4, fun i hi => (g5 i hi).trans (up_ne hi), g6, g7⟩
      rw [show M + (z + 1) + 1 = (M + z + 1) + 1 by omega, lp_succ]
      unfold BMo_takeBack_2
      dsimp only
      rw [if_neg (show ¬ r1.2.1 2 ≤ Int32.ofNat k by rw [y3, o_le (by omega) (by omega)]; omega), if_pos (o_inb (by omega) (by omega)), if_pos (o_inb (by omega) (by omega)), o_nat (by omega), onat1 (by omega)]
      exact g1
  have := loop n 0 (99999 - n) r rfl (by omega) h2 (fun i hi => absurd hi (Nat.not_lt_zero _))
  rw [show 99999 - n + n + 1 = 100000 by omega] at this
  exact this
theorem refsD {N D : Nat} {sel : Nat → Bool} {d : DS} (hN : N ≤ 240) (h4 : d.2 4 = Int32.ofNat N) (h14 : ∀ q, q < N → (d.1 14 q = Int32.ofNat D ↔ sel q = true)) : f_Dr_referencesOf (Int32.ofNat D) d = some (Int32.ofNat (cnt sel N), d) := by
  have loop : ∀ (z q M : Nat), N - q = z → q ≤ N → lpN BDr_referencesOf_4 (M + z + 1) (Int32.ofNat D, Int32.ofNat (cnt sel q), Int32.ofNat q, d) = some (Int32.ofNat (cnt sel N), d) := by
    intro z
    induction z with
    | zero =>
      intro q M y1 y2
      have : q = N := by omega
      subst this
      rw [Nat.add_zero, lp_succ]
      unfold BDr_referencesOf_4
      dsimp only
      rw [h4, if_pos (by rw [i_le]; omega)]
    | succ z ih =>
      intro q M y1 y2
      have ih' := ih (q + 1) M (by omega) (by omega)
      have hc : cnt sel (q + 1) = cnt sel q + (if sel q then 1 else 0) := rfl
      have e := h14 q (by omega)
      rw [show M + (z + 1) + 1 = (M + z + 1) + 1 by omega, lp_succ]
      unfold BDr_referencesOf_4
      simp only [h4, o_inb (show q < 240 by omega) (show q < 2147483648 by omega), o_nat (show q < 2147483648 by omega), ↓reduceIte, o_p1]
      rw [if_neg (by rw [o_le (by omega) (by omega)]; omega)]
      cases hs : sel q with
      | true =>
        rw [hs, if_pos rfl] at hc
        rw [hc] at ih'
        rw [if_pos (e.mpr hs)]
        exact ih'
      | false =>
        rw [hs] at hc
        have hc' : cnt sel (q + 1) = cnt sel q := hc
        rw [hc'] at ih'
        rw [if_neg (fun h => by rw [e.mp h] at hs; exact absurd hs (by decide))]
        exact ih'
  have := loop N 0 (99999 - N) rfl (by omega)
  rw [show 99999 - N + N + 1 = 100000 by omega] at this
  exact this
