/-! rename: sizes and comparisons, by both -/
theorem cnt_le {P : Nat → Bool} : ∀ n, cnt P n ≤ n
  | 0 => Nat.le_refl _
  | n + 1 => by
    have := cnt_le (P := P) n
    show cnt P n + (if P n then 1 else 0) ≤ n + 1
    split <;> omega
theorem szM {N D wl dl n : Nat} {sk ek : Nat → Nat} {sel : Nat → Bool} {r : RS} {a1 : Int32} {a2 : Int64} (hN : N ≤ 240) (hn : n ≤ 240) (hw : wl ≤ 6) (hdl : dl ≤ 6) (h3 : r.2.1 3 = Int32.ofNat N) (h67 : ∀ q, q < N → r.1 6 q = Int32.ofNat (sk q) ∧ sk q ≤ 240 ∧ r.1 7 q = Int32.ofNat (ek q) ∧ ek q ≤ 240 ∧ (r.1 10 q = Int32.ofNat D ↔ sel q = true)) (hlen : ∀ q, q < N → sel q = true → sk q ≤ ek q ∧ ek q - sk q = dl) : ∀ (z k : Nat) (v : Int32) (M : Nat), N - k = z → k ≤ N → v.toInt = (n : Int) + cnt sel k * ((wl : Int) - dl) → ∃ v' : Int32, lpN BMo_rename_79 (M + z + 1) (a1, a2, Int32.ofNat D, Int32.ofNat wl, Int32.ofNat (cnt sel k), v, Int32.ofNat k, r) = BMo_rename_79 (fun _ => none) (a1, a2, Int32.ofNat D, Int32.ofNat wl, Int32.ofNat (cnt sel N), v', Int32.ofNat N, r) ∧ v'.toInt = (n : Int) + cnt sel N * ((wl : Int) - dl) := by
  intro z
  induction z with
  | zero =>
    intro k v M y1 y2 y3
    have : k = N := by omega
    subst this
    refine ⟨v, ?_, y3⟩
    have hle : r.2.1 3 ≤ Int32.ofNat k := by rw [h3, i_le]; omega
    rw [Nat.add_zero, lp_succ]
    unfold BMo_rename_79
    dsimp only
    rw [if_pos hle, if_pos hle]
  | succ z ih =>
    intro k v M y1 y2 y3
    obtain ⟨e6, e6b, e7, e7b, e10⟩ := h67 k (by omega)
    have hc : cnt sel (k + 1) = cnt sel k + (if sel k then 1 else 0) := rfl
    have hck := cnt_le (P := sel) k
    have hle : ¬ Int32.ofNat N ≤ Int32.ofNat k := by rw [o_le (by omega) (by omega)]; omega
    have ik : inb (Int32.ofNat k) 240 = true := o_inb (by omega) (by omega)
    rw [show M + (z + 1) + 1 = (M + z + 1) + 1 by omega, lp_succ]
    have hun : ∀ K, BMo_rename_79 K (a1, a2, Int32.ofNat D, Int32.ofNat wl, Int32.ofNat (cnt sel k), v, Int32.ofNat k, r) = (if r.1 10 k = Int32.ofNat D then K (a1, a2, Int32.ofNat D, Int32.ofNat wl, Int32.ofNat (cnt sel k + 1), v + (Int32.ofNat wl - (Int32.ofNat (ek k) - Int32.ofNat (sk k))), Int32.ofNat (k + 1), r) else K (a1, a2, Int32.ofNat D, Int32.ofNat wl, Int32.ofNat (cnt sel k), v, Int32.ofNat (k + 1), r)) := by
      intro K
      unfold BMo_rename_79
      simp only [h3, hle, ik, ↓reduceIte, o_nat (show k < 2147483648 by omega), e6, e7, bindv, o_p1]
    rw [hun]
    cases hs : sel k with
    | true =>
      rw [hs, if_pos rfl] at hc
      obtain ⟨l1, l2⟩ := hlen k (by omega) hs
      rw [if_pos (e10.mpr hs)]
      have hm1 : -2000 < (cnt sel k : Int) * ((wl : Int) - dl) ∧ (cnt sel k : Int) * ((wl : Int) - dl) < 2000 := by
        have q1 : (cnt sel k : Int) * ((wl : Int) - dl) = (cnt sel k : Int) * wl - (cnt sel k : Int) * dl := Int.mul_sub ..
        have q2 : (cnt sel k) * wl ≤ 240 * 6 := Nat.mul_le_mul (by omega) hw
        have q3 : (cnt sel k) * dl ≤ 240 * 6 := Nat.mul_le_mul (by omega) hdl
        have q2' : ((cnt sel k : Int)) * wl ≤ 1440 := by rw [← Int.natCast_mul]; omega
        have q3' : ((cnt sel k : Int)) * dl ≤ 1440 := by rw [← Int.natCast_mul]; omega
        have q4 : 0 ≤ ((cnt sel k : Int)) * wl := by rw [← Int.natCast_mul]; omega
        have q5 : 0 ≤ ((cnt sel k : Int)) * dl := by rw [← Int.natCast_mul]; omega
        omega
      have s1 : (Int32.ofNat (ek k) - Int32.ofNat (sk k)).toInt = dl := by
        rw [i_sub (by rw [onat (by omega), onat (by omega)]; omega) (by rw [onat (by omega), onat (by omega)]; omega), onat (by omega), onat (by omega)]
        omega
      have s2 : (Int32.ofNat wl - (Int32.ofNat (ek k) - Int32.ofNat (sk k))).toInt = (wl : Int) - dl := by
        rw [i_sub (by rw [s1, onat (by omega)]; omega) (by rw [s1, onat (by omega)]; omega), s1, onat (by omega)]
      obtain ⟨v', g1, g2⟩ := ih (k + 1) (v + (Int32.ofNat wl - (Int32.ofNat (ek k) - Int32.ofNat (sk k)))) M (by omega) (by omega) (by
        rw [i_add (by rw [s2, y3]; omega) (by rw [s2, y3]; omega), s2, y3, hc]
        push_cast
        rw [Int.add_mul, Int.one_mul]
        omega)
      rw [hc] at g1
      exact ⟨v', g1, g2⟩
    | false =>
      rw [hs] at hc
      have hc' : cnt sel (k + 1) = cnt sel k := hc
      rw [if_neg (fun h => by rw [e10.mp h] at hs; exact absurd hs (by decide))]
      obtain ⟨v', g1, g2⟩ := ih (k + 1) v M (by omega) (by omega) (by rw [hc']; exact y3)
      rw [hc'] at g1
      exact ⟨v', g1, g2⟩
theorem ren0 {a1 D wl many v h0 al q : Int32} {a2 : Int64} {r : RS} {M : Nat} : lpN BMo_rename_216 (M + 1) (a1, a2, D, wl, many, v, h0, al, 0, q, r) = (f_Mo_takeBack 4 r).bind fun q20 => some (q20.1, q20.2) := by
  rw [lp_succ]
  unfold BMo_rename_216
  dsimp only
  by_cases h : al ≤ q
  · rw [if_pos h, if_pos rfl]
  · rw [if_neg h, if_pos rfl, if_pos rfl]
theorem ren216 {N : Nat} {x y : Nat → Nat} {a1 D wl many v h0 : Int32} {a2 : Int64} {r : RS} (hN : N ≤ 240) (hb : ∀ q, q < N → r.1 10 q = pm (x q) ∧ r.1 11 q = pm (y q) ∧ x q ≤ 1000 ∧ y q ≤ 1000) : ∀ (z q M : Nat), N - q = z → q ≤ N → ((∀ i, q ≤ i → i < N → x i = y i) → lpN BMo_rename_216 (M + z + 1) (a1, a2, D, wl, many, v, h0, Int32.ofNat N, 1, Int32.ofNat q, r) = some (many, r)) ∧ ((¬ ∀ i, q ≤ i → i < N → x i = y i) → lpN BMo_rename_216 (M + z + 1) (a1, a2, D, wl, many, v, h0, Int32.ofNat N, 1, Int32.ofNat q, r) = (f_Mo_takeBack 4 r).bind fun q20 => some (q20.1, q20.2)) := by
  intro z
  induction z with
  | zero =>
    intro q M y1 y2
    have : q = N := by omega
    subst this
    refine ⟨fun _ => ?_, fun h => absurd (fun i i1 i2 => by omega) h⟩
    rw [Nat.add_zero, lp_succ]
    unfold BMo_rename_216
    dsimp only
    rw [if_pos (show Int32.ofNat q ≤ Int32.ofNat q by rw [i_le]; omega), if_neg (show ¬ (1 : Int32) = 0 by decide)]
  | succ z ih =>
    intro q M y1 y2
    obtain ⟨e10, e11, ex, ey⟩ := hb q (by omega)
    obtain ⟨i1, i2⟩ := ih (q + 1) M (by omega) (by omega)
    have hle : ¬ Int32.ofNat N ≤ Int32.ofNat q := by rw [o_le (by omega) (by omega)]; omega
    have iq : inb (Int32.ofNat q) 240 = true := o_inb (by omega) (by omega)
    rw [show M + (z + 1) + 1 = (M + z + 1) + 1 by omega, lp_succ]
    have hun : ∀ K, BMo_rename_216 K (a1, a2, D, wl, many, v, h0, Int32.ofNat N, 1, Int32.ofNat q, r) = (if x q = y q then K (a1, a2, D, wl, many, v, h0, Int32.ofNat N, 1, Int32.ofNat (q + 1), r) else K (a1, a2, D, wl, many, v, h0, Int32.ofNat N, 0, Int32.ofNat (q + 1), r)) := by
      intro K
      unfold BMo_rename_216
      simp only [hle, iq, ↓reduceIte, show ¬ (1 : Int32) = 0 by decide, o_nat (show q < 2147483648 by omega), e10, e11, bindv, o_p1, pm_inj ex ey]
    rw [hun]
    by_cases hxy : x q = y q
    · rw [if_pos hxy]
      refine ⟨fun h => i1 (fun i a b => h i (by omega) b), fun h => i2 (fun h2 => h (fun i a b => ?_))⟩
      by_cases hi : i = q
      · subst hi; exact hxy
      · exact h2 i (by omega) b
    · rw [if_neg hxy]
      exact ⟨fun h => absurd (h q (Nat.le_refl _) (by omega)) hxy, fun _ => ren0⟩
theorem sameD {N : Nat} {x y : Nat → Nat} {t d : DS} {i j : Int32} (hN : N ≤ 240) (h4 : t.2 4 = Int32.ofNat N) (hb : ∀ q, q < N → t.1 14 q = pm (x q) ∧ d.1 14 q = pm (y q) ∧ x q ≤ 1000 ∧ y q ≤ 1000) (hi : f_Fn_find (tabW 6) t = some (i, t)) (hj : f_Fn_find (tabW 6) d = some (j, d)) : ((∀ q, q < N → x q = y q) → i = j → f_Dr_meansTheSameAs t d = some (1, t, d)) ∧ ((¬ ((∀ q, q < N → x q = y q) ∧ i = j)) → f_Dr_meansTheSameAs t d = some (0, t, d)) := by
  have loop : ∀ (z q M : Nat), N - q = z → q ≤ N → ((∀ k, q ≤ k → k < N → x k = y k) ∧ i = j → lpN BDr_meansTheSameAs_2 (M + z + 1) (Int32.ofNat q, t, d) = some (1, t, d)) ∧ ((¬ ((∀ k, q ≤ k → k < N → x k = y k) ∧ i = j)) → lpN BDr_meansTheSameAs_2 (M + z + 1) (Int32.ofNat q, t, d) = some (0, t, d)) := by
    intro z
    induction z with
    | zero =>
      intro q M y1 y2
      have : q = N := by omega
      subst this
      rw [Nat.add_zero, lp_succ]
      have hun : ∀ K, BDr_meansTheSameAs_2 K (Int32.ofNat q, t, d) = if i = j then some (1, t, d) else some (0, t, d) := by
        intro K
        unfold BDr_meansTheSameAs_2
        dsimp only
        rw [h4, if_pos (show Int32.ofNat q ≤ Int32.ofNat q by rw [i_le]; omega), hi, Option.bind_some]
        dsimp only
        rw [hj, Option.bind_some]
      rw [hun]
      refine ⟨fun h => by rw [if_pos h.2], fun h => ?_⟩
      rw [if_neg (fun e => h ⟨fun k a b => by omega, e⟩)]
    | succ z ih =>
      intro q M y1 y2
      obtain ⟨e14, f14, ex, ey⟩ := hb q (by omega)
      obtain ⟨i1, i2⟩ := ih (q + 1) M (by omega) (by omega)
      have hle : ¬ Int32.ofNat N ≤ Int32.ofNat q := by rw [o_le (by omega) (by omega)]; omega
      have iq : inb (Int32.ofNat q) 240 = true := o_inb (by omega) (by omega)
      rw [show M + (z + 1) + 1 = (M + z + 1) + 1 by omega, lp_succ]
      have hun : ∀ K, BDr_meansTheSameAs_2 K (Int32.ofNat q, t, d) = if x q = y q then K (Int32.ofNat (q + 1), t, d) else some (0, t, d) := by
        intro K
        unfold BDr_meansTheSameAs_2
        simp only [h4, hle, iq, ↓reduceIte, o_nat (show q < 2147483648 by omega), e14, f14, o_p1, pm_inj ex ey]
      rw [hun]
      by_cases hxy : x q = y q
      · rw [if_pos hxy]
        refine ⟨fun h => i1 ⟨fun k a b => h.1 k (by omega) b, h.2⟩, fun h => i2 (fun h2 => h ⟨fun k a b => ?_, h2.2⟩)⟩
        by_cases hk : k = q
        · subst hk; exact hxy
        · exact h2.1 k (by omega) b
      · rw [if_neg hxy]
        exact ⟨fun h => absurd (h.1 q (Nat.le_refl _) (by omega)) hxy, fun _ => rfl⟩
  obtain ⟨l1, l2⟩ := loop N 0 (99999 - N) rfl (by omega)
  rw [show 99999 - N + N + 1 = 100000 by omega] at l1 l2
  exact ⟨fun h e => l1 ⟨fun k _ b => h k b, e⟩, fun h => l2 (fun g => h ⟨fun k b => g.1 k (Nat.zero_le _) b, g.2⟩)⟩
theorem main6 : tabW 6 = Int32.ofNat 468013 := by decide
/-- Without faults the desk's number of main tells as much as its place. -/
theorem findSame {T T' : Nat → Nat} {n n' : Nat} {cs cs' : Nat → Cds} {d t : DS} (h : Red T n cs [] d) (h' : Red T' n' cs' [] t) (hNN : NN T' n' = NN T n) (hC : ∀ k, k < NN T n → CL T' n' k = CL T n k) : ∃ i j : Int32, f_Fn_find (tabW 6) t = some (i, t) ∧ f_Fn_find (tabW 6) d = some (j, d) ∧ (i = j ↔ hd (gR (CL T' n') (NM T' n') (NN T' n') cs') (NM T' n') (NN T' n') 468013 = hd (gR (CL T n) (NM T n) (NN T n) cs) (NM T n) (NN T n) 468013) := by
  have hT : ∀ i, i < n → T i ≤ 126 := fun i hi => (h.1.2.2 i hi).2.2
  have hT' : ∀ i, i < n' → T' i ≤ 126 := fun i hi => (h'.1.2.2 i hi).2.2
  obtain ⟨-, hN, hK, -⟩ := tok_all h.1.2.1 hT
  obtain ⟨-, hN', hK', -⟩ := tok_all h'.1.2.1 hT'
  obtain ⟨o1, -⟩ := all_ok h
  obtain ⟨o2, -⟩ := all_ok h'
  have hps : ps (CL T' n') (NN T' n') = ps (CL T n) (NN T n) := by rw [hNN]; exact ps_cg _ hC
  have hbd : ∀ p, bd (CL T' n') (NN T' n') p = bd (CL T n) (NN T n) p := fun p => by
    unfold bd
    rw [hps, hNN]
  have f1 := findD (w := 468013) hK' (gAW cs' hK') h'.2.1 (by decide)
  have f2 := findD (w := 468013) hK (gAW cs hK) h.2.1 (by decide)
  rw [← main6] at f1 f2
  have n1 := nfn_all o1
  have n2 := nfn_all o2
  have b1 := (bd_ok hK).1
  rw [hps] at f1
  have hps' : (ps (CL T' n') (NN T' n')).length = (ps (CL T n) (NN T n)).length := by rw [hps]
  have mono : ∀ p q, p < q → q < (ps (CL T n) (NN T n)).length → bd (CL T n) (NN T n) p < bd (CL T n) (NN T n) q := fun p q hpq hq => by
    have h1 := (bd_ok hK).2.2.1 p (by omega)
    have h2 := bd_le hK (q - (p + 1)) (p + 1)
    rw [show p + 1 + (q - (p + 1)) = q by omega] at h2
    omega
  rcases f1 with ⟨x1, x2⟩ | ⟨p, x0, -, -, x1, x2⟩
  · rcases f2 with ⟨y1, y2⟩ | ⟨q, y0, -, -, y1, y2⟩
    · exact ⟨-1, -1, x2, y2, ⟨fun _ => by rw [x1, y1], fun _ => rfl⟩⟩
    · refine ⟨-1, _, x2, y2, ⟨fun hh => ?_, fun hh => by rw [x1, y1] at hh; omega⟩⟩
      rw [n1 q (by omega)] at hh
      have := congrArg Int32.toInt hh
      rw [onat (by omega), nm1] at this
      omega
  · rcases f2 with ⟨y1, y2⟩ | ⟨q, y0, -, -, y1, y2⟩
    · refine ⟨_, -1, x2, y2, ⟨fun hh => ?_, fun hh => by rw [x1, y1] at hh; omega⟩⟩
      rw [n2 p (by omega)] at hh
      have := congrArg Int32.toInt hh
      rw [onat (by omega), nm1] at this
      omega
    · refine ⟨_, _, x2, y2, ?_⟩
      rw [n1 q (by omega), n2 p (by omega), o_eq (by omega) (by omega), x1, y1, hbd]
      constructor
      · intro e; rw [e]
      · intro e
        rcases Nat.lt_trichotomy p q with g | g | g
        · have := mono p q g y0; omega
        · exact g
        · have := mono q p g x0; omega
