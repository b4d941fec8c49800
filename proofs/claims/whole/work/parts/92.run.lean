/-! run -/
section
variable {T : Nat → Nat} {n : Nat} {cs : Nat → Cds} {d : DS}
theorem r47_end {K : Int32 × Int32 × Int32 × RS → Option (Int32 × RS)} {a1 kk : Int32} {p P : Nat} {r : RS} (h4 : r.2.1 4 = Int32.ofNat P) (hP : P ≤ p) (hp : p ≤ 1000) : BMo_run_47 K (a1, kk, Int32.ofNat p, r) = ((f_Mo_partOf kk r).bind fun q6 => (f_Mo_execute q6.1 a1 q6.2).bind fun q7 => some (q7.1, q7.2)) := by
  unfold BMo_run_47
  generalize f_Mo_execute = E
  generalize f_Mo_partOf = F
  generalize f_Mo_function = G
  dsimp only
  rw [h4, if_pos (by rw [o_le (by omega) (by omega)]; exact hP)]
theorem r47_one {K : Int32 × Int32 × Int32 × RS → Option (Int32 × RS)} {a1 kk : Int32} {p P : Nat} {r r1 : RS} (h4 : r.2.1 4 = Int32.ofNat P) (hP : p < P) (hp : P ≤ 1000) (hf : f_Mo_function (Int32.ofNat p) r = some r1) : BMo_run_47 K (a1, kk, Int32.ofNat p, r) = K (a1, kk, Int32.ofNat (p + 1), r1) := by
  unfold BMo_run_47
  generalize f_Mo_execute = E
  generalize f_Mo_partOf = F
  generalize f_Mo_function = G at hf ⊢
  dsimp only
  rw [h4, if_neg (by rw [o_le (by omega) (by omega)]; omega), hf, Option.bind_some, o_p1]
theorem run47 (h : Red T n cs [] d) {a1 : Int32} {k : Nat} : ∀ (z p : Nat) (r : RS) (M : Nat), zP T n - p = z → p ≤ zP T n → MQt (CL T n) (NM T n) (SK T n) (NN T n) (zR T n cs) (zB T n cs) r → r.2.1 4 = Int32.ofNat (zP T n) → (∀ q, q < zP T n → r.1 16 q = Int32.ofNat (zb0 T n q) ∧ r.1 17 q = Int32.ofNat (zb0 T n (q + 1))) → MCd (zB T n cs) (zl T n cs) (zp T n) r (cs p) → (∀ q, q < p → r.1 26 q = Int32.ofNat (cs q).length) → ∃ r' : RS, lpN BMo_run_47 (M + z + 1) (a1, Int32.ofNat k, Int32.ofNat p, r) = ((f_Mo_partOf (Int32.ofNat k) r').bind fun q6 => (f_Mo_execute q6.1 a1 q6.2).bind fun q7 => some (q7.1, q7.2)) ∧ MCd (zB T n cs) (zl T n cs) (zp T n) r' (cs (zP T n)) ∧ (∀ q, q < zP T n → r'.1 26 q = Int32.ofNat (cs q).length) ∧ FrF r r' ∧ (∀ i, 33 ≤ i → r'.1 i = r.1 i) ∧ (∀ i, 13 ≤ i → r'.2.1 i = r.2.1 i) := by
  obtain ⟨hTk, hN, hK, hS⟩ := h.tk
  obtain ⟨b1, b2, b3, b4, b5, b6, b7, b8⟩ := bd_ok hK
  have b1' : zP T n ≤ 4 := b1
  intro z
  induction z with
  | zero =>
    intro p r M h1 h2 hM h4 h16 hC h26
    have : p = zP T n := by omega
    subst this
    refine ⟨r, ?_, hC, h26, ⟨fun _ _ => rfl, fun _ _ => rfl, rfl⟩, fun _ _ => rfl, fun _ _ => rfl⟩
    rw [Nat.add_zero, lp_succ]
    exact r47_end h4 (Nat.le_refl _) (by omega)
  | succ z ih =>
    intro p r M h1 h2 hM h4 h16 hC h26
    have hp : p < zP T n := by omega
    obtain ⟨g1, g2, g3, g4, g5, g6, -, -, -, -⟩ := part_f h hp
    have hPt := pt_of h hp
    obtain ⟨r1, k1, k2, k3, k4, k5, k6, -⟩ := func_m (p := p) hPt (by omega) g1 (fun q q1 q2 => by
      show dn (zR T n cs) (zb0 T n (zp T n q)) q = _
      rw [(part_R h hp q1 q2).1]) (fun k q1 q2 q3 q4 => by
      have e := (part_R h hp q1 q2).2
      by_cases c3 : zR T n cs k = 3
      · rw [(dec_own h (by omega) (Or.inr c3)).2, Nat.add_sub_cancel]
        exact ⟨q1, q2, Or.inr c3⟩
      · obtain ⟨q, e1, e2, -⟩ := use_vis h hp (t := k) (by omega)
        rw [e1, Nat.add_sub_cancel]
        exact ⟨e2.2.1, e2.2.2.1, e2.2.2.2⟩) hM (h16 p hp).1 (h16 p hp).2 hC
    rw [← g6] at k2
    obtain ⟨r', m1, m2, m3, m4, m5, m6⟩ := ih (p + 1) r1 M (by omega) (by omega) (hM.cg k3) ((k3.2.1 4 (by omega)).trans h4) (fun q hq => by rw [k3.1 16 (by omega), k3.1 17 (by omega)]; exact h16 q hq) k2 (fun q hq => by
      rw [k6]
      by_cases e : q = p
      · rw [e, ud_eq]
      · rw [ud_ne e]; exact h26 q (by omega))
    refine ⟨r', ?_, m2, m3, k3.tr m4, fun i hi => (m5 i hi).trans (k4 i hi), fun i hi => (m6 i hi).trans (k5 i hi)⟩
    rw [← m1, show M + (z + 1) + 1 = (M + z + 1) + 1 by omega, lp_succ]
    exact r47_one h4 hp (by omega) k1
end
section
variable {An : Nat → Nat → Ant} {Dc : Nat → Nat → Prop} {sl zb pq : Nat → Nat} {Vs : Nat → Nat → Nat → Prop} {Rp Gp : Nat → Nat → Nat} {P : Nat} {b np ht : Nat → Nat} {C : Cds} {d : DS}
theorem p33_end {K : Int32 × Int32 × Int32 × DS × DS → Option (Int32 × DS × DS)} {g j n0 : Nat} {a : Int32} {k : DS} (hg : g < 4) (hj : j ≤ 1000) (hn : n0 ≤ j) (h10 : d.1 10 g = Int32.ofNat n0) : BMa_perform_33 K (Int32.ofNat g, a, Int32.ofNat j, k, d) = ((f_Ma_begin (Int32.ofNat g) k d).bind fun q3 => lpN BMa_perform_79 100000 (Int32.ofNat g, a, 0, q3.1, q3.2)) := by
  unfold BMa_perform_33
  generalize lpN BMa_perform_79 100000 = G
  generalize f_Ma_begin = F
  dsimp only
  rw [if_pos (o_inb hg (by omega)), o_nat (by omega), h10, if_pos (by rw [o_le (by omega) (by omega)]; exact hn)]
theorem p33_one {K : Int32 × Int32 × Int32 × DS × DS → Option (Int32 × DS × DS)} {g j n0 : Nat} {a : Int32} {k k1 : DS} (hg : g < 4) (hj : j < n0) (hn : n0 ≤ 1000) (h10 : d.1 10 g = Int32.ofNat n0) (hp : f_Ma_push (if j = 0 then a else 0) k = some k1) : BMa_perform_33 K (Int32.ofNat g, a, Int32.ofNat j, k, d) = K (Int32.ofNat g, a, Int32.ofNat (j + 1), k1, d) := by
  unfold BMa_perform_33
  generalize lpN BMa_perform_79 100000 = G
  generalize f_Ma_begin = F
  dsimp only
  rw [if_pos (o_inb hg (by omega)), o_nat (by omega), h10, if_neg (by rw [o_le (by omega) (by omega)]; omega)]
  by_cases h0 : j = 0
  · rw [if_pos h0] at hp
    rw [if_pos (show Int32.ofNat j = 0 by rw [h0]; rfl), hp, Option.bind_some, o_p1]
  · rw [if_neg h0] at hp
    rw [if_neg (show ¬ Int32.ofNat j = 0 by rw [show (0 : Int32) = Int32.ofNat 0 from rfl, o_eq (by omega) (by omega)]; exact h0), hp, Option.bind_some, o_p1]
theorem e32_end {K : Int32 × Int32 × Int32 × RS → Option (Int32 × RS)} {g j n0 : Nat} {a : Int32} {r : RS} (hg : g < 122) (hj : j ≤ 1000) (hn : n0 ≤ j) (h19 : r.1 19 g = Int32.ofNat n0) : BMo_execute_32 K (Int32.ofNat g, a, Int32.ofNat j, r) = ((f_Mo_enter (Int32.ofNat g) (-1) (if n0 = 0 then (r.1, va_up r.2.1 13 0, r.2.2) else r)).bind fun q6 => lpN BMo_execute_74 100000 (Int32.ofNat g, a, q6.1, q6.2)) := by
  unfold BMo_execute_32
  generalize lpN BMo_execute_74 100000 = G
  generalize f_Mo_enter = F
  dsimp only
  rw [if_pos (o_inb hg (by omega)), o_nat (by omega), h19, if_pos (by rw [o_le (by omega) (by omega)]; exact hn), if_pos (o_inb hg (by omega))]
  by_cases h0 : n0 = 0
  · rw [if_pos (show Int32.ofNat n0 = 0 by rw [h0]; rfl), if_pos h0]
  · rw [if_neg (show ¬ Int32.ofNat n0 = 0 by rw [show (0 : Int32) = Int32.ofNat 0 from rfl, o_eq (by omega) (by omega)]; exact h0), if_neg h0]
theorem e32_one {K : Int32 × Int32 × Int32 × RS → Option (Int32 × RS)} {g j n0 : Nat} {a : Int32} {r r1 : RS} (hg : g < 122) (hj : j < n0) (hn : n0 ≤ 1000) (h19 : r.1 19 g = Int32.ofNat n0) (hp : f_Mo_push 0 r = some r1) : BMo_execute_32 K (Int32.ofNat g, a, Int32.ofNat j, r) = K (Int32.ofNat g, a, Int32.ofNat (j + 1), r1) := by
  unfold BMo_execute_32
  generalize lpN BMo_execute_74 100000 = G
  generalize f_Mo_enter = F
  dsimp only
  rw [if_pos (o_inb hg (by omega)), o_nat (by omega), h19, if_neg (by rw [o_le (by omega) (by omega)]; omega), hp, Option.bind_some, o_p1]
/-- Both push what the parameters of the first function get. -/
theorem fill (hW : Wd An Dc sl zb pq Vs Rp Gp P b np ht C d) {g : Nat} {a : Int32} (hg : g < P) : ∀ (z j : Nat) (k : DS) (r : RS) (u M M' : Nat), np g - j = z → 1 ≤ j → j ≤ np g → Mc k r j 0 u → Ms sl zb pq P b np C r → ∃ (k' : DS) (r' : RS), lpN BMa_perform_33 (M + z + 1) (Int32.ofNat g, a, Int32.ofNat j, k, d) = ((f_Ma_begin (Int32.ofNat g) k' d).bind fun q3 => lpN BMa_perform_79 100000 (Int32.ofNat g, a, 0, q3.1, q3.2)) ∧ lpN BMo_execute_32 (M' + z + 1) (Int32.ofNat g, a, Int32.ofNat j, r) = ((f_Mo_enter (Int32.ofNat g) (-1) r').bind fun q6 => lpN BMo_execute_74 100000 (Int32.ofNat g, a, q6.1, q6.2)) ∧ Mc k' r' (np g) 0 u ∧ (∀ i, i ≠ 3 → k'.1 i = k.1 i) ∧ (∀ i, i ≠ 2 → k'.2 i = k.2 i) ∧ (∀ i, i ≠ 35 → r'.1 i = r.1 i) ∧ (∀ i, i ≠ 13 → r'.2.1 i = r.2.1 i) ∧ r'.2.2 = r.2.2 := by
  have hP4 := hW.P4
  obtain ⟨e9, e10, e11⟩ := hW.d9 g hg
  obtain ⟨hnp, hnj⟩ := hW.np1 g hg
  have ig : inb (Int32.ofNat g) 4 = true := o_inb (by omega) (by omega)
  have ig2 : inb (Int32.ofNat g) 122 = true := o_inb (by omega) (by omega)
  intro z
  induction z with
  | zero =>
    intro j k r u M M' h1 h2 h3 hM hs
    have : j = np g := by omega
    subst this
    refine ⟨k, r, ?_, ?_, hM, fun _ _ => rfl, fun _ _ => rfl, fun _ _ => rfl, fun _ _ => rfl, rfl⟩
    · rw [Nat.add_zero, lp_succ]
      exact p33_end (by omega) (by omega) (Nat.le_refl _) e10
    · rw [Nat.add_zero, lp_succ, e32_end (by omega) (by omega) (Nat.le_refl _) (hs.e19 g hg), if_neg (by omega)]
  | succ z ih =>
    intro j k r u M M' h1 h2 h3 hM hs
    obtain ⟨P1, P2, P3⟩ := hM.push (v := 0) (by omega)
    have hfx : FrXm r (va_up r.1 35 (upd (r.1 35) j 0), va_up r.2.1 13 (Int32.ofNat (j + 1)), r.2.2) := ⟨fun i _ _ h _ => up_ne h, fun i h => up_ne (by omega), rfl⟩
    obtain ⟨k', r', g1, g2, g3, g4, g5, g6, g7, g8⟩ := ih (j + 1) _ _ u M M' (by omega) (by omega) (by omega) P3 (hs.cg hfx)
    refine ⟨k', r', ?_, ?_, g3, fun i hi => (g4 i hi).trans (up_ne hi), fun i hi => (g5 i hi).trans (up_ne hi), fun i hi => (g6 i hi).trans (up_ne hi), fun i hi => (g7 i hi).trans (up_ne hi), g8⟩
    · rw [← g1, show M + (z + 1) + 1 = (M + z + 1) + 1 by omega, lp_succ]
      exact p33_one (by omega) (by omega) (by omega) e10 (by rw [if_neg (show ¬ j = 0 by omega)]; exact P1)
    · rw [← g2, show M' + (z + 1) + 1 = (M' + z + 1) + 1 by omega, lp_succ]
      exact e32_one (by omega) (by omega) (by omega) (hs.e19 g hg) P2
/-- From the parameters on the stack to the end. -/
theorem start_run (hW : Wd An Dc sl zb pq Vs Rp Gp P b np ht C d) {g : Nat} {a : Int32} (hg : g < P) {k : DS} {r : RS} (hM : Mc k r (np g) 0 0) (h3 : k.2 3 = 0) (h14 : r.2.1 14 = 0) (hs : Ms sl zb pq P b np C r) : ∃ (v : Int32) (k' : DS) (r' : RS), ((f_Ma_begin (Int32.ofNat g) k d).bind fun q3 => lpN BMa_perform_79 100000 (Int32.ofNat g, a, 0, q3.1, q3.2)) = some (v, k', d) ∧ ((f_Mo_enter (Int32.ofNat g) (-1) r).bind fun q6 => lpN BMo_execute_74 100000 (Int32.ofNat g, a, q6.1, q6.2)) = some (v, r') ∧ EndR k' r r' := by
  have hP4 := hW.P4
  obtain ⟨e9, e10, e11⟩ := hW.d9 g hg
  obtain ⟨hnp, hnj⟩ := hW.np1 g hg
  have hbg := hW.bm g hg
  have hbC := hW.bC g hg
  have hC240 := hW.C240
  obtain ⟨en1, en2, en3⟩ := hW.ent g hg
  have ig : inb (Int32.ofNat g) 4 = true := o_inb (by omega) (by omega)
  have ig2 : inb (Int32.ofNat g) 122 = true := o_inb (by omega) (by omega)
  have hf0 : FrXm r (va_up r.1 34 (upd (r.1 34) 0 (-1)), va_up r.2.1 15 1, r.2.2) := ⟨fun j _ h _ _ => up_ne h, fun j h => up_ne (by omega), rfl⟩
  have hM0 : Mc (va_up k.1 4 (upd (k.1 4) 0 (k.2 5)), va_up (va_up k.2 4 1) 3 1) (va_up r.1 34 (upd (r.1 34) 0 (-1)), va_up r.2.1 15 1, r.2.2) (0 + np g) 1 0 := by
    rw [Nat.zero_add]
    exact ⟨hM.kh, hM.rh, rfl, rfl, hM.ku, hM.ru, hM.k1, hM.r1, hM.k6, hM.st, hM.pr⟩
  obtain ⟨k', r', g1, g2, g3, g4, g5, g6, g7, g8, g9, g10, g11, g12⟩ := par_lp hW hg (D := 0) (by omega) (x2 := -1) (np g) _ _ 0 1 0 (99999 - np g) (99999 - np g) (Nat.le_refl _) hM0 (by omega) rfl h14 (hs.cg hf0)
  rw [show 99999 - np g + np g + 1 = 100000 by omega] at g1 g2
  have eb : f_Ma_begin (Int32.ofNat g) k d = some ((k'.1, va_up k'.2 5 (Int32.ofNat (b g))), d) := by
    rw [be_in (D := 0) (n := 0) h3 (by omega) hM.kn (by omega) hM.k6 rfl (by omega) e10 (by omega)]
    exact g1
  have ee : f_Mo_enter (Int32.ofNat g) (-1) r = some (Int32.ofNat (b g), (r'.1, va_up r'.2.1 14 (r'.2.1 14 + 1), r'.2.2)) := by
    unfold f_Mo_enter
    rw [un_in (D := 0) (r := (r.1, va_up r.2.1 15 1, r.2.2)) h14 (by omega) (by omega) (hs.e19 g hg) (by omega)]
    exact (congrArg (fun z => Option.bind z _) g2).trans rfl
  rw [eb, ee, Option.bind_some, Option.bind_some]
  have hf1 : FrXm r (r'.1, va_up r'.2.1 14 (r'.2.1 14 + 1), r'.2.2) := hf0.tr ⟨fun j h1 h2 h3 h4 => g6 j h1, fun j h => (up_ne (by omega)).trans (g7 j (by omega)), g8⟩
  have e14 : r'.2.1 14 = 0 := (g7 14 (by decide)).trans h14
  obtain ⟨v, k2, r2, q1, q2, q3⟩ := lock hW (a2 := Int32.ofNat g) (a3 := a) (x1 := Int32.ofNat g) (x2 := a) 72300 (k'.1, va_up k'.2 5 (Int32.ofNat (b g))) (r'.1, va_up r'.2.1 14 (r'.2.1 14 + 1), r'.2.2) g (b g) [] 1 0 0 27698 27698 ⟨by
      rw [en1]
      exact ⟨g3.kh, g3.rh, g3.kn, g3.rn, g3.ku, g3.ru, g3.k1, g3.r1, g3.k6, g3.st, g3.pr⟩, (g5 3 (by decide)).trans rfl, by
      show r'.2.1 14 + 1 = _
      rw [e14]
      rfl, rfl, hg, Nat.le_refl _, hbg, fun y hy => absurd hy List.not_mem_nil, ⟨fun q hq hD => by
      obtain ⟨j, hj, e⟩ := en3 q hq hD
      rw [e, (hnj j hj).1]
      exact g11 j hj, trivial⟩, by
      show r'.1 34 0 = -1
      rw [g6 34 (by decide)]
      show upd (r.1 34) 0 (-1) 0 = -1
      rw [ud_eq], by omega, by show 0 ≤ 7; omega, hs.cg hf1⟩ (by
      show cr 1 + (C.length - b g + 240 * (An g (b g)).2.1 + 1 + 0) ≤ 72300
      have hc1 : cr 1 = 72059 := rfl
      rw [en2]
      omega) (by omega) (by omega)
  exact ⟨v, k2, r2, q1, q2, q3.1, q3.2.1, q3.2.2.1, q3.2.2.2.1, hf1.tr q3.2.2.2.2⟩
theorem exec_run (hW : Wd An Dc sl zb pq Vs Rp Gp P b np ht C d) {g : Nat} {a : Int32} (hg : g < P) {k : DS} {r : RS} (hs : Ms sl zb pq P b np C r) : ∃ (v : Int32) (k' : DS) (r' : RS), f_Ma_perform (Int32.ofNat g) a k d = some (v, k', d) ∧ f_Mo_execute (Int32.ofNat g) a r = some (v, r') ∧ EndR k' r r' := by
  have hP4 := hW.P4
  obtain ⟨e9, e10, e11⟩ := hW.d9 g hg
  obtain ⟨hnp, hnj⟩ := hW.np1 g hg
  have ig : inb (Int32.ofNat g) 4 = true := o_inb (by omega) (by omega)
  have ig2 : inb (Int32.ofNat g) 122 = true := o_inb (by omega) (by omega)
  have hM0 : Mc (k.1, va_up (va_up (va_up (va_up (va_up (va_up k.2 0 0) 1 0) 2 0) 3 0) 4 0) 6 (-1)) (r.1, va_up (va_up (va_up (va_up (va_up r.2.1 14 0) 13 0) 15 0) 16 0) 17 0, r.2.2) 0 0 0 := ⟨rfl, rfl, rfl, rfl, rfl, rfl, rfl, rfl, rfl, fun q hq => absurd hq (Nat.not_lt_zero _), fun q _ hq => absurd hq (Nat.not_lt_zero _)⟩
  have hf0 : FrXm r (r.1, va_up (va_up (va_up (va_up (va_up r.2.1 14 0) 13 0) 15 0) 16 0) 17 0, r.2.2) := ⟨fun _ _ _ _ _ => rfl, fun j h => by dsimp only; rw [up_ne (by omega), up_ne (by omega), up_ne (by omega), up_ne (by omega), up_ne (by omega)], rfl⟩
  obtain ⟨P1, P2, P3⟩ := hM0.push (v := a) (by omega)
  unfold f_Ma_perform f_Mo_execute
  rw [P2, Option.bind_some]
  dsimp only
  by_cases h0 : np g = 0
  · have hMz : Mc (k.1, va_up (va_up (va_up (va_up (va_up (va_up k.2 0 0) 1 0) 2 0) 3 0) 4 0) 6 (-1)) (va_up r.1 35 (upd (r.1 35) 0 a), va_up (va_up (va_up (va_up (va_up (va_up (va_up r.2.1 14 0) 13 0) 15 0) 16 0) 17 0) 13 (Int32.ofNat (0 + 1))) 13 0, r.2.2) (np g) 0 0 := by
      rw [h0]
      exact ⟨rfl, rfl, rfl, rfl, rfl, rfl, rfl, rfl, rfl, fun q hq => absurd hq (Nat.not_lt_zero _), fun q _ hq => absurd hq (Nat.not_lt_zero _)⟩
    have hfz : FrXm r (va_up r.1 35 (upd (r.1 35) 0 a), va_up (va_up (va_up (va_up (va_up (va_up (va_up r.2.1 14 0) 13 0) 15 0) 16 0) 17 0) 13 (Int32.ofNat (0 + 1))) 13 0, r.2.2) := ⟨fun j _ _ h _ => up_ne h, fun j h => by dsimp only; rw [up_ne (by omega), up_ne (by omega), up_ne (by omega), up_ne (by omega), up_ne (by omega), up_ne (by omega), up_ne (by omega)], rfl⟩
    obtain ⟨v, k', r', q1, q2, q3⟩ := start_run hW (a := a) hg hMz rfl rfl (hs.cg hfz)
    refine ⟨v, k', r', ?_, ?_, q3.1, q3.2.1, q3.2.2.1, q3.2.2.2.1, hfz.tr q3.2.2.2.2⟩
    · have Ed := p33_end (K := lpN BMa_perform_33 99999) (d := d) (a := a) (j := 0) (n0 := np g) (k := (k.1, va_up (va_up (va_up (va_up (va_up (va_up k.2 0 0) 1 0) 2 0) 3 0) 4 0) 6 (-1))) (show g < 4 by omega) (by omega) (Nat.le_of_eq h0) e10
      exact (lp_succ (n := 99999)).trans (Ed.trans q1)
    · have Em := e32_end (K := lpN BMo_execute_32 99999) (a := a) (j := 1) (n0 := np g) (r := (va_up r.1 35 (upd (r.1 35) 0 a), va_up (va_up (va_up (va_up (va_up (va_up r.2.1 14 0) 13 0) 15 0) 16 0) 17 0) 13 (Int32.ofNat (0 + 1)), r.2.2)) (show g < 122 by omega) (by omega) (by omega) (hs.e19 g hg)
      rw [if_pos h0] at Em
      exact (lp_succ (n := 99999)).trans (Em.trans q2)
  · have hf1 : FrXm r (va_up r.1 35 (upd (r.1 35) 0 a), va_up (va_up (va_up (va_up (va_up (va_up r.2.1 14 0) 13 0) 15 0) 16 0) 17 0) 13 (Int32.ofNat (0 + 1)), r.2.2) := ⟨fun j _ _ h _ => up_ne h, fun j h => by dsimp only; rw [up_ne (by omega), up_ne (by omega), up_ne (by omega), up_ne (by omega), up_ne (by omega), up_ne (by omega)], rfl⟩
    obtain ⟨k1, r1, g1, g2, g3, g4, g5, g6, g7, g8⟩ := fill hW (a := a) hg (np g - 1) 1 _ _ 0 (99998 - (np g - 1)) (99999 - (np g - 1)) rfl (by omega) (by omega) P3 (hs.cg hf1)
    have hf2 : FrXm r r1 := hf1.tr ⟨fun j _ _ h _ => g6 j h, fun j h => g7 j (by omega), g8⟩
    obtain ⟨v, k', r', q1, q2, q3⟩ := start_run hW (a := a) hg g3 ((g5 3 (by decide)).trans rfl) ((g7 14 (by decide)).trans rfl) (hs.cg hf2)
    refine ⟨v, k', r', ?_, ?_, q3.1, q3.2.1, q3.2.2.1, q3.2.2.2.1, hf2.tr q3.2.2.2.2⟩
    · rw [show 99998 - (np g - 1) + (np g - 1) + 1 = 99999 by omega] at g1
      have Ed := p33_one (K := lpN BMa_perform_33 99999) (d := d) (a := a) (j := 0) (n0 := np g) (k := (k.1, va_up (va_up (va_up (va_up (va_up (va_up k.2 0 0) 1 0) 2 0) 3 0) 4 0) 6 (-1))) (show g < 4 by omega) (by omega) (by omega) e10 (by rw [if_pos rfl]; exact P1)
      exact (lp_succ (n := 99999)).trans (Ed.trans (g1.trans q1))
    · rw [show 99999 - (np g - 1) + (np g - 1) + 1 = 100000 by omega] at g2
      exact g2.trans q2
end
theorem op_run (a : Int32) : OpX (Rel An) (f_La_run a) (f_Mo_run a) := by
  intro k d b o r hR
  obtain ⟨T, n, cs, l, d', r', h1, h2, h3, h4, h5, h6, hFr⟩ := both hR
  have fd : d'.2 1 = Int32.ofNat l.length := h3.2.2.2.2.1.1
  have fm : r'.2.1 5 = Int32.ofNat l.length := h4.2.2.2.2.1.1
  have hl := h3.2.2.2.2.2.2.1
  unfold f_La_run f_X_run f_Mo_run f_Mo_thrown
  rw [h1, h2, Option.bind_some, Option.bind_some]
  by_cases c1 : l.length = 0
  · have hl0 : l = [] := List.length_eq_zero_iff.mp c1
    subst hl0
    rw [if_pos (show d'.2 1 ≤ 0 by rw [fd]; decide), if_pos (show r'.2.1 5 ≤ 0 by rw [fm]; decide)]
    obtain ⟨hTk, hN, hK, hS⟩ := h3.tk
    have hhd := hdM (w := 468013) hK h4.2.1 (by decide)
    have hfd := findD (w := 468013) hK (gAW cs hK) h3.2.1 (by decide)
    rw [← main6] at hfd
    have hhd' : f_Mo_functionNamed 468013 r' = some (pm (hd (zR T n cs) (NM T n) (NN T n) 468013), r') := hhd
    rw [hhd', Option.bind_some]
    rcases hfd with ⟨x1, x2⟩ | ⟨g, x0, xo, -, x1, x2⟩
    · have x1' : hd (zR T n cs) (NM T n) (NN T n) 468013 = 0 := x1
      rw [x2, x1', Option.bind_some]
      unfold f_Mo_fails
      simp (decide := true) only [↓reduceIte, Option.bind_some, pm]
      exact ⟨_, _, _, rfl, rfl, rfl, rfl, fun h => absurd (show (2 : Int32) = 0 from h) (by decide), h5.code⟩
    · have x1' : hd (zR T n cs) (NM T n) (NN T n) 468013 = zb0 T n g + 1 + 1 := x1
      have x0' : g < zP T n := x0
      obtain ⟨b1, b2, b3, b4, b5, b6, b7, b8⟩ := bd_ok hK
      have b1' : zP T n ≤ 4 := b1
      rw [nfn_all (all_ok h3).1 g (Nat.le_of_lt x0)] at x2
      rw [x2, x1', Option.bind_some]
      obtain ⟨w1, w2⟩ := (gAW cs hK).2.1 g x0 xo
      have w1' : zb0 T n g + 1 < zb0 T n (g + 1) := w1
      have b5' : zb0 T n (g + 1) ≤ NN T n := b5 (g + 1)
      have ept : zp T n (zb0 T n g + 1) = g := pt_in hK x0 (Nat.le_succ _) w1
      obtain ⟨A, hA⟩ := part_A h3
      have hW := world h3 hA
      have hMQ := mq_of h3 h4
      have hf0 : FrF r' (r'.1, va_up r'.2.1 11 0, r'.2.2) := ⟨fun _ _ => rfl, fun i hi => up_ne (by omega), rfl⟩
      have hMW := h4.2.1
      have hcs0 : cs 0 = [] := h3.2.2.2.2.2.2.2.2.2.2
      obtain ⟨r1, k1, k2, k3, k4, k5, k6⟩ := run47 h3 (a1 := a) (k := zb0 T n g + 1) (zP T n) 0 (r'.1, va_up r'.2.1 11 0, r'.2.2) (99999 - zP T n) (by omega) (by omega) (hMQ.cg hf0) hMW.2.2.1 (fun q hq => ⟨h4.2.2.2.2.2.2.2.2 q hq, (hMW.2.2.2 q hq).1⟩) (by rw [hcs0]; exact ⟨rfl, fun i hi => absurd hi (Nat.not_lt_zero _)⟩) (fun q hq => absurd hq (Nat.not_lt_zero _))
      rw [show 99999 - zP T n + zP T n + 1 = 100000 by omega] at k1
      have k1' : lpN BMo_run_47 100000 (a, Int32.ofNat (zb0 T n g + 1), 0, (r'.1, va_up r'.2.1 11 0, r'.2.2)) = _ := k1
      have hpo := hMQ.2.2 (zb0 T n g + 1) (by omega) r1 (hf0.tr k4)
      have ept' : pt (CL T n) (NN T n) (zb0 T n g + 1) = g := ept
      rw [ept'] at hpo
      rw [hpo, Option.bind_some] at k1'
      have hMs : Ms (zl T n cs) (zB T n cs) (zp T n) (zP T n) (fun p => (cs p).length) (zNp T n cs) (cs (zP T n)) r1 := ⟨k2, k3, fun p hp => by
        rw [(hf0.tr k4).1 19 (by omega)]
        exact (hMW.2.2.2 p hp).2 ((all_ok h3).1 p hp)⟩
      obtain ⟨v, k', r2, q1, q2, q3⟩ := exec_run hW (a := a) (k := k) x0' hMs
      have q2' : f_Mo_execute (Int32.ofNat g) a r1 = some (v, r2) := q2
      rw [q2'] at k1'
      rw [if_neg (show ¬ Int32.ofNat g = -1 by rw [o_nm1 (by omega)]; exact id), if_pos (show 0 ≤ pm (zb0 T n g + 1 + 1) by show 0 ≤ Int32.ofNat (zb0 T n g + 1); rw [show (0 : Int32) = Int32.ofNat 0 from rfl, o_le (by omega) (by omega)]; omega), q1, Option.bind_some, Option.bind_some]
      show ∃ (q : Int32 × DS × DS × DS × OS) (q' t : Int32 × RS), _ ∧ lpN BMo_run_47 100000 (a, Int32.ofNat (zb0 T n g + 1), 0, (r'.1, va_up r'.2.1 11 0, r'.2.2)) = some q' ∧ _
      rw [k1']
      obtain ⟨e1, e2, e3, e4, e5⟩ := q3
      have t0 : r2.2.1 0 = 0 := (e5.2.1 0 (by omega)).trans (((hf0.tr k4).2.1 0 (by omega)).trans h6)
      obtain ⟨⟨t1, t2, t3, t4⟩, -, hk1, hfr⟩ := h5
      have a2 : r2.1 2 = r'.1 2 := (e5.1 2 (by decide) (by decide) (by decide) (by decide)).trans ((hf0.tr k4).1 2 (by omega))
      have i1 : r2.2.1 1 = r'.2.1 1 := (e5.2.1 1 (by omega)).trans ((hf0.tr k4).2.1 1 (by omega))
      have l1 : r2.2.2 = r'.2.2 := e5.2.2.trans (hf0.tr k4).2.2
      refine ⟨(0, k', d', b, vp_updL o 0 v.toInt64), (v, r2), (r2.2.1 0, r2), rfl, rfl, rfl, t0, fun _ => ?_, ⟨by rw [i1]; exact t1, t2, t3, by rw [a2]; exact t4⟩, ⟨e1, e2, e3, e4⟩, by rw [l1]; exact hk1, hfr⟩
      show lg_cmp (vp_updL o 0 v.toInt64 0) v.toInt64 = 0
      rw [uL_eq]
      exact lgc
  · rw [if_neg (show ¬ d'.2 1 ≤ 0 by rw [fd, show (0 : Int32) = Int32.ofNat 0 from rfl, o_le (by omega) (by omega)]; omega), if_neg (show ¬ r'.2.1 5 ≤ 0 by rw [fm, show (0 : Int32) = Int32.ofNat 0 from rfl, o_le (by omega) (by omega)]; omega)]
    unfold f_Mo_fails
    simp (decide := true) only [↓reduceIte, Option.bind_some]
    exact ⟨_, _, _, rfl, rfl, rfl, rfl, fun h => absurd (show (1 : Int32) = 0 from h) (by decide), h5.code⟩
