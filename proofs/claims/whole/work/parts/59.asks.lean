/-! what is asked of a reading: tokens, faults, references -/
def An (d : DS) : Prop := ∃ (T : Nat → Nat) (n : Nat) (cs : Nat → Cds) (l : List Nat), Red T n cs l d
theorem tx_of {d : DS} {r : RS} (h : TR d r) (hk : r.2.2 1 = r0.2.2 1) : ∃ (T : Nat → Nat) (n : Nat), TxD T n d ∧ TxM T n r := by
  obtain ⟨t1, t2, t3, t4⟩ := h
  have hn := i_nat t2
  have e3 : d.2 3 = Int32.ofNat (d.2 3).toNatClampNeg := o_of t2
  have hc : ∀ i, i < (d.2 3).toNatClampNeg → d.1 2 i = Int32.ofNat (d.1 2 i).toNatClampNeg ∧ 32 ≤ (d.1 2 i).toNatClampNeg ∧ (d.1 2 i).toNatClampNeg ≤ 126 := fun i hi => by
    obtain ⟨g1, g2, g3⟩ := t4 i (by omega)
    have := i_nat (a := d.1 2 i) (by omega)
    exact ⟨o_of (by omega), by omega, by omega⟩
  refine ⟨fun i => (d.1 2 i).toNatClampNeg, (d.2 3).toNatClampNeg, ⟨e3, by omega, hc⟩, ⟨t1.symm.trans e3, by omega, fun i hi => ?_, hk⟩⟩
  obtain ⟨g1, g2, g3⟩ := t4 i (by omega)
  rw [← g1]; exact hc i hi
theorem tx_m {T : Nat → Nat} {n : Nat} {d : DS} {r : RS} (h : TR d r) (hk : r.2.2 1 = r0.2.2 1) (hX : TxD T n d) : TxM T n r := by
  obtain ⟨t1, t2, t3, t4⟩ := h
  refine ⟨t1.symm.trans hX.1, hX.2.1, fun i hi => ?_, hk⟩
  have hn := hX.2.1
  have e3 : (d.2 3).toInt = n := by rw [hX.1, onat (by omega)]
  obtain ⟨g1, g2, g3⟩ := t4 i (by omega)
  rw [← g1]; exact hX.2.2 i hi
theorem both {k d b : DS} {r : RS} (hR : Rel An k d b r) : ∃ (T : Nat → Nat) (n : Nat) (cs : Nat → Cds) (l : List Nat) (d' : DS) (r' : RS), f_Dr_refresh d = some d' ∧ f_Mo_analyse (r.1, va_up r.2.1 0 0, r.2.2) = some r' ∧ Red T n cs l d' ∧ RedM T n cs l r' ∧ Rel An k d' b r' ∧ r'.2.1 0 = 0 ∧ FrA (r.1, va_up r.2.1 0 0, r.2.2) r' := by
  obtain ⟨hT, hM, hK, hF⟩ := hR
  have hd : ∃ (T : Nat → Nat) (n : Nat) (cs : Nat → Cds) (l : List Nat) (d' : DS), f_Dr_refresh d = some d' ∧ Red T n cs l d' ∧ d'.2 2 = 1 ∧ d'.2 3 = d.2 3 ∧ d'.1 2 = d.1 2 := by
    rcases hF with h | ⟨h, T, n, cs, l, hRed⟩
    · obtain ⟨T, n, h1, h2⟩ := tx_of hT hK
      obtain ⟨d', cs, l, g1, g2, g3, g4, g5⟩ := refreshD h1 h
      exact ⟨T, n, cs, l, d', g1, g2, g3, g4, g5⟩
    · refine ⟨T, n, cs, l, d, ?_, hRed, h, rfl, rfl⟩
      unfold f_Dr_refresh
      rw [h, if_neg ne10]
  obtain ⟨T, n, cs, l, d', g1, g2, g3, g4, g5⟩ := hd
  have hT' : TR d' r := by
    obtain ⟨t1, t2, t3, t4⟩ := hT
    unfold TR
    rw [g4, g5]
    exact ⟨t1, t2, t3, t4⟩
  have hXM := tx_m hT' hK g2.1
  have hXM0 : TxM T n (r.1, va_up r.2.1 0 0, r.2.2) := hXM
  obtain ⟨r', l', a1, a2, a3⟩ := analyseM cs hXM0
  have hll : l' = l := srt_eq a2.2.2.2.2.2.1 g2.2.2.2.2.2.1 (fun x => (a2.2.2.2.2.2.2.2.1 x).trans (g2.2.2.2.2.2.2.2.1 x).symm)
  subst hll
  refine ⟨T, n, cs, l', d', r', g1, a1, g2, a2, ⟨?_, ?_, ?_, Or.inr ⟨g3, T, n, cs, l', g2⟩⟩, ?_, a3⟩
  · obtain ⟨t1, t2, t3, t4⟩ := hT'
    refine ⟨?_, t2, t3, fun i hi => ?_⟩
    · rw [a3.2.1 1 (by omega)]; exact t1
    · rw [a3.1 2 (by omega)]; exact t4 i hi
  · obtain ⟨m1, m2, m3, m4⟩ := hM
    refine ⟨?_, ?_, m3, fun i h1 h2 => ?_⟩
    · rw [a3.2.1 16 (by omega)]; exact m1
    · rw [a3.2.1 17 (by omega)]; exact m2
    · rw [a3.1 36 (by omega)]; exact m4 i h1 h2
  · rw [a3.2.2 1 (by decide)]; exact hK
  · exact a3.2.1 0 (by omega)
theorem op_tokens : OpA (Rel An) f_X_tokens f_Mo_tokens := by
  intro k d b r hR
  obtain ⟨T, n, cs, l, d', r', h1, h2, h3, h4, h5, h6, -⟩ := both hR
  unfold f_X_tokens f_Mo_tokens
  rw [h1, h2, Option.bind_some, Option.bind_some]
  exact ⟨_, _, rfl, rfl, h3.2.1.1.1.trans h4.2.1.1.1.symm, h5⟩
theorem op_faults : OpA (Rel An) f_X_faults f_Mo_faults := by
  intro k d b r hR
  obtain ⟨T, n, cs, l, d', r', h1, h2, h3, h4, h5, h6, -⟩ := both hR
  unfold f_X_faults f_Mo_faults
  rw [h1, h2, Option.bind_some, Option.bind_some]
  exact ⟨_, _, rfl, rfl, h3.2.2.2.2.1.1.trans h4.2.2.2.2.1.1.symm, h5⟩
theorem Rel.code {k d b : DS} {r : RS} {c : Int32} (h : Rel An k d b r) : Rel An k d b (r.1, va_up r.2.1 0 c, r.2.2) := h
theorem in_nat {a : Int32} {N : Nat} (h0 : ¬ a < 0) (h1 : a < Int32.ofNat N) (hN : N ≤ 244) : a = Int32.ofNat a.toNatClampNeg ∧ a.toNatClampNeg < N := by
  rw [i_lt, n0] at h0
  rw [i_lt, onat (by omega)] at h1
  have := i_nat (a := a) (by omega)
  exact ⟨o_of (by omega), by omega⟩
theorem op_fault (a : Int32) : OpX (Rel An) (f_La_fault a) (f_Mo_fault a) := by
  intro k d b o r hR
  obtain ⟨T, n, cs, l, d', r', h1, h2, h3, h4, h5, h6, -⟩ := both hR
  have hl := h3.2.2.2.2.2.2.1
  have fd := h3.2.2.2.2.1
  have fm := h4.2.2.2.2.1
  unfold f_La_fault f_X_fault f_Mo_fault f_Mo_fails f_Mo_thrown
  rw [h1, h2, Option.bind_some, Option.bind_some]
  by_cases c1 : a < 0
  · simp (decide := true) only [c1, ↓reduceIte, Option.bind_some]
    exact ⟨_, _, _, rfl, rfl, rfl, rfl, fun h => absurd h ne10, h5.code⟩
  · by_cases c2 : a < Int32.ofNat l.length
    · obtain ⟨e1, e2⟩ := in_nat c1 c2 hl
      have c2d : a < d'.2 1 := by rw [fd.1]; exact c2
      have c2m : a < r'.2.1 5 := by rw [fm.1]; exact c2
      have i1 : inb a 244 = true := by rw [e1]; exact o_inb (by omega) (by omega)
      have i2 : inb a 400 = true := by rw [e1]; exact o_inb (by omega) (by omega)
      simp (decide := true) only [c1, c2d, c2m, i1, i2, ↓reduceIte, Option.bind_some]
      refine ⟨_, _, _, rfl, rfl, rfl, h6, fun _ => ?_, h5⟩
      show lg_cmp (d'.1 29 a.toNatClampNeg).toInt64 (r'.1 20 a.toNatClampNeg).toInt64 = 0
      rw [fd.2 _ e2, fm.2 _ e2]; exact lgc
    · have c2d : ¬ a < d'.2 1 := by rw [fd.1]; exact c2
      have c2m : ¬ a < r'.2.1 5 := by rw [fm.1]; exact c2
      simp (decide := true) only [c1, c2d, c2m, ↓reduceIte, Option.bind_some]
      exact ⟨_, _, _, rfl, rfl, rfl, rfl, fun h => absurd h ne10, h5.code⟩
theorem op_token (a c : Int32) : OpX (Rel An) (f_La_token a c) (f_Mo_token a c) := by
  intro k d b o r hR
  unfold f_La_token f_X_token f_Mo_token f_Mo_fails f_Mo_thrown
  by_cases w0 : c < 0
  · simp (decide := true) only [w0, ↓reduceIte, Option.bind_some]
    exact ⟨_, _, _, rfl, rfl, rfl, rfl, fun h => absurd h ne10, hR.code⟩
  · by_cases w3 : c ≤ 3
    · obtain ⟨T, n, cs, l, d', r', h1, h2, h3, h4, h5, h6, -⟩ := both hR
      have hN := (tok_all h3.1.2.1 (fun i hi => (h3.1.2.2 i hi).2.2)).2.1
      have fd : d'.2 4 = Int32.ofNat (NN T n) := h3.2.1.1.1
      have fm : r'.2.1 3 = Int32.ofNat (NN T n) := h4.2.1.1.1
      simp only [w0, w3, ↓reduceIte]
      rw [h1, h2, Option.bind_some, Option.bind_some]
      by_cases c1 : a < 0
      · simp (decide := true) only [c1, ↓reduceIte, Option.bind_some]
        exact ⟨_, _, _, rfl, rfl, rfl, rfl, fun h => absurd (show (2 : Int32) = 0 from h) (by decide), h5.code⟩
      · by_cases c2 : a < Int32.ofNat (NN T n)
        · obtain ⟨e1, e2⟩ := in_nat c1 c2 (by omega)
          have c2d : a < d'.2 4 := by rw [fd]; exact c2
          have c2m : a < r'.2.1 3 := by rw [fm]; exact c2
          have i1 : inb a 240 = true := by rw [e1]; exact o_inb (by omega) (by omega)
          obtain ⟨y4, y6, y7⟩ := h3.2.2.1 _ e2
          obtain ⟨z5, z6, z7⟩ := h4.2.2.1 _ e2
          have y14 := h3.2.2.2.1 _ e2
          have z10 := h4.2.2.2.1 _ e2
          by_cases q0 : c = 0
          · simp (decide := true) only [c1, c2d, c2m, i1, q0, ↓reduceIte, Option.bind_some]
            refine ⟨_, _, _, rfl, rfl, rfl, h6, fun _ => ?_, h5⟩
            show lg_cmp (d'.1 4 a.toNatClampNeg).toInt64 (r'.1 5 a.toNatClampNeg).toInt64 = 0
            rw [y4, z5]; exact lgc
          · by_cases q1 : c = 1
            · simp (decide := true) only [c1, c2d, c2m, i1, q1, ↓reduceIte, Option.bind_some]
              refine ⟨_, _, _, rfl, rfl, rfl, h6, fun _ => ?_, h5⟩
              show lg_cmp (d'.1 6 a.toNatClampNeg).toInt64 (r'.1 6 a.toNatClampNeg).toInt64 = 0
              rw [y6, z6]; exact lgc
            · by_cases q2 : c = 2
              · simp (decide := true) only [c1, c2d, c2m, i1, q2, ↓reduceIte, Option.bind_some]
                refine ⟨_, _, _, rfl, rfl, rfl, h6, fun _ => ?_, h5⟩
                show lg_cmp (d'.1 7 a.toNatClampNeg).toInt64 (r'.1 7 a.toNatClampNeg).toInt64 = 0
                rw [y7, z7]; exact lgc
              · simp (decide := true) only [c1, c2d, c2m, i1, q0, q1, q2, ↓reduceIte, Option.bind_some]
                refine ⟨_, _, _, rfl, rfl, rfl, h6, fun _ => ?_, h5⟩
                show lg_cmp (d'.1 14 a.toNatClampNeg).toInt64 (r'.1 10 a.toNatClampNeg).toInt64 = 0
                rw [y14, z10]; exact lgc
        · have c2d : ¬ a < d'.2 4 := by rw [fd]; exact c2
          have c2m : ¬ a < r'.2.1 3 := by rw [fm]; exact c2
          simp (decide := true) only [c1, c2d, c2m, ↓reduceIte, Option.bind_some]
          exact ⟨_, _, _, rfl, rfl, rfl, rfl, fun h => absurd (show (2 : Int32) = 0 from h) (by decide), h5.code⟩
    · simp (decide := true) only [w0, w3, ↓reduceIte, Option.bind_some]
      exact ⟨_, _, _, rfl, rfl, rfl, rfl, fun h => absurd h ne10, hR.code⟩
/-- Desk and model hold the same rows of tokens. -/
def Same (N : Nat) (d : DS) (r : RS) : Prop := N ≤ 240 ∧ d.2 4 = Int32.ofNat N ∧ r.2.1 3 = Int32.ofNat N ∧ ∀ q, q < N → d.1 6 q = r.1 6 q ∧ d.1 7 q = r.1 7 q ∧ d.1 14 q = r.1 10 q
theorem Red.same {T : Nat → Nat} {n : Nat} {cs : Nat → Cds} {l : List Nat} {d : DS} {r : RS} (h3 : Red T n cs l d) (h4 : RedM T n cs l r) : Same (NN T n) d r := by
  have hN := (tok_all h3.1.2.1 (fun i hi => (h3.1.2.2 i hi).2.2)).2.1
  refine ⟨hN, h3.2.1.1.1, h4.2.1.1.1, fun q hq => ?_⟩
  obtain ⟨y4, y6, y7⟩ := h3.2.2.1 _ hq
  obtain ⟨z5, z6, z7⟩ := h4.2.2.1 _ hq
  exact ⟨y6.trans z6.symm, y7.trans z7.symm, (h3.2.2.2.1 _ hq).trans (h4.2.2.2.1 _ hq).symm⟩
theorem atB {N : Nat} {d : DS} {r : RS} {a : Int32} (hS : Same N d r) : ∃ v : Int32, f_Dr_declarationAt a d = some (v, d) ∧ f_Mo_boundAt a r = some (v, r) ∧ (v = -1 ∨ ∃ q, q < N ∧ v = d.1 14 q) := by
  obtain ⟨hN, h4, h3, hq⟩ := hS
  have loop : ∀ (z q M : Nat), N - q = z → q ≤ N → (lpN BTo_at_2 (M + z + 1) (a, Int32.ofNat q, d) = some (-1, d) ∧ lpN BMo_boundAt_2 (M + z + 1) (a, Int32.ofNat q, r) = some (-1, r)) ∨ ∃ q', q' < N ∧ lpN BTo_at_2 (M + z + 1) (a, Int32.ofNat q, d) = some (Int32.ofNat q', d) ∧ lpN BMo_boundAt_2 (M + z + 1) (a, Int32.ofNat q, r) = some (d.1 14 q', r) := by
    intro z
    induction z with
    | zero =>
      intro q M h1 h2
      have : q = N := by omega
      subst this
      refine Or.inl ⟨?_, ?_⟩
      · rw [Nat.add_zero, lp_succ]
        unfold BTo_at_2
        dsimp only
        rw [h4, if_pos (by rw [i_le]; omega)]
      · rw [Nat.add_zero, lp_succ]
        unfold BMo_boundAt_2
        dsimp only
        rw [h3, if_pos (by rw [i_le]; omega)]
    | succ z ih =>
      intro q M h1 h2
      obtain ⟨e6, e7, e14⟩ := hq q (by omega)
      have iq : inb (Int32.ofNat q) 240 = true := o_inb (by omega) (by omega)
      have hle : ¬ Int32.ofNat N ≤ Int32.ofNat q := by rw [o_le (by omega) (by omega)]; omega
      have ih' := ih (q + 1) M (by omega) (by omega)
      rw [show M + (z + 1) + 1 = (M + z + 1) + 1 by omega, lp_succ, lp_succ]
      unfold BTo_at_2 BMo_boundAt_2
      simp only [h4, h3, hle, iq, ↓reduceIte, o_nat (show q < 2147483648 by omega), o_p1, ← e6, ← e7, ← e14]
      by_cases c1 : a < d.1 6 q
      · simp only [c1, ↓reduceIte]
        exact ih'
      · by_cases c2 : d.1 7 q ≤ a
        · simp only [c1, c2, ↓reduceIte]
          exact ih'
        · simp only [c1, c2, ↓reduceIte]
          exact Or.inr ⟨q, by omega, rfl, rfl⟩
  have hl := loop N 0 (99999 - N) rfl (by omega)
  rw [show 99999 - N + N + 1 = 100000 by omega] at hl
  rcases hl with ⟨g1, g2⟩ | ⟨q', g0, g1, g2⟩
  · refine ⟨-1, ?_, g2, Or.inl rfl⟩
    have g1 : f_To_at a d = some (-1, d) := g1
    unfold f_Dr_declarationAt
    rw [g1, Option.bind_some]
    rfl
  · refine ⟨d.1 14 q', ?_, g2, Or.inr ⟨q', g0, rfl⟩⟩
    have g1 : f_To_at a d = some (Int32.ofNat q', d) := g1
    unfold f_Dr_declarationAt
    rw [g1, Option.bind_some]
    dsimp only
    rw [if_neg (show ¬ Int32.ofNat q' = -1 by rw [o_nm1 (by omega)]; exact id), if_pos (o_inb (by omega) (by omega)), o_nat (by omega)]
theorem pm_lt0 {t : Nat} (h : t ≤ 2147483647) : (pm t < 0) = (t = 0) := by
  cases t with
  | zero => exact propext ⟨fun _ => rfl, fun _ => by decide⟩
  | succ t =>
    show (Int32.ofNat t < 0) = _
    rw [i_lt, onat (by omega), n0]
    exact propext ⟨fun h => by omega, fun h => by omega⟩
theorem zB_le {T : Nat → Nat} {n : Nat} {cs : Nat → Cds} {q : Nat} (hq : q < NN T n) : zB T n cs q ≤ NN T n := by
  unfold zB wB
  split
  · split
    · omega
    · omega
  · split
    · rcases lsB_ok (P := ftB (gR (CL T n) (NM T n) (NN T n) cs) (NM T n) (gSc (CL T n) (NM T n) (NN T n) cs) (gSi (CL T n) (NM T n) (NN T n) cs) (gUn (CL T n) (NM T n) (NN T n) cs) (NM T n q) q) (NN T n) with ⟨g1, -⟩ | ⟨q', g1, g2, -⟩
      · show lsB _ _ ≤ _
        omega
      · show lsB _ _ ≤ _
        omega
    · split
      · rcases fsB_ok (P := hdB (gR (CL T n) (NM T n) (NN T n) cs) (NM T n) (NM T n q)) (NN T n) with ⟨g1, -⟩ | ⟨q', g1, g2, -⟩
        · show fsB _ _ ≤ _
          omega
        · show fsB _ _ ≤ _
          omega
      · omega
theorem op_reference (a c : Int32) : OpX (Rel An) (f_La_reference a c) (f_Mo_reference a c) := by
  intro k d b o r hR
  obtain ⟨T, n, cs, l, d', r', h1, h2, h3, h4, h5, h6, -⟩ := both hR
  have hS := h3.same h4
  obtain ⟨v, v1, v2, v3⟩ := atB (a := a) hS
  have hneg : (v < 0) = (v = -1) := by
    rcases v3 with rfl | ⟨q, q1, q2⟩
    · exact propext ⟨fun _ => rfl, fun _ => by decide⟩
    · have hle := zB_le (cs := cs) q1
      have hN := hS.1
      rw [q2, h3.2.2.2.1 q q1, pm_lt0 (by omega), pm_m1 (by omega)]
  unfold f_La_reference f_X_reference f_Mo_reference f_Mo_fails f_Mo_thrown
  rw [h1, h2, Option.bind_some, Option.bind_some, v1, v2, Option.bind_some, Option.bind_some]
  dsimp only
  by_cases c1 : v = -1
  · simp (decide := true) only [hneg, c1, ↓reduceIte, Option.bind_some]
    exact ⟨_, _, _, rfl, rfl, rfl, rfl, fun h => absurd h ne10, h5.code⟩
  · simp only [hneg, c1, ↓reduceIte]
    by_cases c2 : 0 ≤ c
    · simp only [c2, ↓reduceIte]
      obtain ⟨hN, g4, g3, hq⟩ := hS
      have loop : ∀ (z q M : Nat) (cnt : Int32), NN T n - q = z → q ≤ NN T n → ∃ w : Int32, lpN BX_reference_39 (M + z + 1) (a, c, v, cnt, Int32.ofNat q, k, d', b) = some (0, w, k, d', b) ∧ lpN BMo_reference_35 (M + z + 1) (a, c, v, cnt, Int32.ofNat q, r') = some (w, r') := by
        intro z
        induction z with
        | zero =>
          intro q M cnt y1 y2
          have hqe : q = NN T n := by omega
          refine ⟨-1, ?_, ?_⟩
          · rw [Nat.add_zero, lp_succ]
            unfold BX_reference_39
            dsimp only
            rw [g4, hqe, if_pos (by rw [i_le]; omega)]
          · rw [Nat.add_zero, lp_succ]
            unfold BMo_reference_35
            dsimp only
            rw [g3, hqe, if_pos (by rw [i_le]; omega)]
        | succ z ih =>
          intro q M cnt y1 y2
          obtain ⟨e6, e7, e14⟩ := hq q (by omega)
          have iq : inb (Int32.ofNat q) 240 = true := o_inb (by omega) (by omega)
          have hle : ¬ Int32.ofNat (NN T n) ≤ Int32.ofNat q := by rw [o_le (by omega) (by omega)]; omega
          rw [show M + (z + 1) + 1 = (M + z + 1) + 1 by omega, lp_succ, lp_succ]
          unfold BX_reference_39 BMo_reference_35
          simp only [g4, g3, hle, iq, ↓reduceIte, o_nat (show q < 2147483648 by omega), o_p1, ← e6, ← e14, bindv]
          by_cases c3 : d'.1 14 q = v
          · by_cases c4 : cnt = c
            · simp only [c3, c4, ↓reduceIte]
              exact ⟨_, rfl, rfl⟩
            · simp only [c3, c4, ↓reduceIte]
              exact ih (q + 1) M (cnt + 1) (by omega) (by omega)
          · simp only [c3, ↓reduceIte]
            exact ih (q + 1) M cnt (by omega) (by omega)
      obtain ⟨w, w1, w2⟩ := loop (NN T n) 0 (99999 - NN T n) 0 rfl (by omega)
      rw [show 99999 - NN T n + NN T n + 1 = 100000 by omega] at w1 w2
      have w1 : lpN BX_reference_39 100000 (a, c, v, 0, 0, k, d', b) = some (0, w, k, d', b) := w1
      have w2 : lpN BMo_reference_35 100000 (a, c, v, 0, 0, r') = some (w, r') := w2
      rw [w1, w2, Option.bind_some]
      exact ⟨_, _, _, rfl, rfl, rfl, h6, fun _ => lgc, h5⟩
    · simp (decide := true) only [c2, ↓reduceIte, Option.bind_some]
      exact ⟨_, _, _, rfl, rfl, rfl, rfl, fun h => absurd h ne10, h5.code⟩
