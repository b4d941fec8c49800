/-! rename, by both -/
theorem op_rename (a : Int32) (c : Int64) : OpX (Rel An) (f_La_rename a c) (f_Mo_rename a c) := by
  intro k d b o r hR
  have hKw : r.2.2 1 = r0.2.2 1 := hR.2.2.1
  have u10 : ¬ (1 : Int32) = 0 := by decide
  rcases name_ok c (r.1, va_up r.2.1 0 0, r.2.2) hKw with ⟨w1, w2⟩ | ⟨w1, w2, g, w3, w4⟩ | ⟨w1, w2, g, w3, w4, w5, w6⟩
  · unfold f_La_rename f_X_rename f_Mo_rename f_Mo_fails f_Mo_thrown
    rw [w1, w2]
    simp (decide := true) only [↓reduceIte, Option.bind_some]
    exact ⟨_, _, _, rfl, rfl, rfl, rfl, fun h => absurd h ne10, hR.code⟩
  · unfold f_La_rename f_X_rename f_Mo_rename f_Mo_fails f_Mo_thrown
    rw [w1, w2, Option.bind_some, Option.bind_some, if_neg u10, w3]
    simp (decide := true) only [w4, ↓reduceIte, Option.bind_some]
    exact ⟨_, _, _, rfl, rfl, rfl, rfl, fun h => absurd h ne10, hR.code⟩
  · obtain ⟨w, e1, e2, e3, e4, e5, e6, e7⟩ := nameW w1 w5 w6
    obtain ⟨T, n, cs, l, d', r', h1, h2, h3, h4, h5, h6, hFr⟩ := both hR
    have fd : d'.2 1 = Int32.ofNat l.length := h3.2.2.2.2.1.1
    have fm : r'.2.1 5 = Int32.ofNat l.length := h4.2.2.2.2.1.1
    have hl := h3.2.2.2.2.2.2.1
    unfold f_La_rename f_X_rename f_Mo_rename f_Mo_thrown
    rw [w1, w2, Option.bind_some, Option.bind_some, if_neg u10, if_neg u10, w3, Option.bind_some]
    dsimp only
    rw [if_pos w4, h1, h2, Option.bind_some, Option.bind_some]
    by_cases c1 : l.length = 0
    · have hl0 : l = [] := List.length_eq_zero_iff.mp c1
      subst hl0
      rw [if_pos (show d'.2 1 ≤ 0 by rw [fd]; decide), if_pos (show r'.2.1 5 ≤ 0 by rw [fm]; decide)]
      have hSm := h3.same h4
      obtain ⟨v, v1, v2, v3⟩ := atB (a := a) hSm
      rw [v1, v2, Option.bind_some, Option.bind_some]
      dsimp only
      have hn := h3.1.2.1
      have hT : ∀ i, i < n → T i ≤ 126 := fun i hi => (h3.1.2.2 i hi).2.2
      obtain ⟨hTk, hN, hK, hS⟩ := tok_all hn hT
      by_cases c2 : v = -1
      · subst c2
        unfold f_Mo_fails
        simp (decide := true) only [↓reduceIte, Option.bind_some]
        exact ⟨_, _, _, rfl, rfl, rfl, rfl, fun h => absurd (show (3 : Int32) = 0 from h) (by decide), h5.code⟩
      · rcases v3 with v3 | ⟨q0, hq0, v3⟩
        · exact absurd v3 c2
        rw [h3.2.2.2.1 q0 hq0] at v3
        have hz0 : zB T n cs q0 ≠ 0 := fun h => c2 (by rw [v3, h]; rfl)
        have hzle := zB_le (cs := cs) hq0
        obtain ⟨D, hD⟩ : ∃ D, zB T n cs q0 = D + 1 := ⟨zB T n cs q0 - 1, by omega⟩
        have hvD : v = Int32.ofNat D := by rw [v3, hD]; rfl
        subst hvD
        obtain ⟨-, zq1, zq2, zq3⟩ := zB_nm hD
        have hDN := zq3 hq0
        have hAW := gAW cs hK
        have hcD : CL T n D = 200 := ((hAW.1 D hDN).2.1 zq2).2.1
        rw [if_neg c2, if_pos (show (0 : Int32) ≤ Int32.ofNat D by rw [i_le, onat (by omega), n0]; omega)]
        -- which tokens
        obtain ⟨sel, hsel⟩ : ∃ sel : Nat → Bool, ∀ q, sel q = true ↔ zB T n cs q = D + 1 := ⟨fun q => decide (zB T n cs q = D + 1), fun q => decide_eq_true_iff⟩
        have hs14 : ∀ q, q < NN T n → (d'.1 14 q = Int32.ofNat D ↔ sel q = true) := fun q hq => by
          rw [h3.2.2.2.1 q hq, hsel]
          have := zB_le (cs := cs) hq
          exact pm_D (by omega) (by omega)
        have hs10 : ∀ q, q < NN T n → (r'.1 10 q = Int32.ofNat D ↔ sel q = true) := fun q hq => by
          rw [h4.2.2.2.1 q hq, hsel]
          have := zB_le (cs := cs) hq
          exact pm_D (by omega) (by omega)
        have hs200 : ∀ q, q < NN T n → sel q = true → CL T n q = 200 := fun q hq hs => by
          obtain ⟨-, y1, -⟩ := zB_nm ((hsel q).mp hs)
          exact ((hAW.1 q hq).2.1 y1).2.1
        obtain ⟨dl, hdl⟩ : ∃ dl, dl = (ltL 6 (NM T n D)).length := ⟨_, rfl⟩
        obtain ⟨wl, hwl⟩ : ∃ wl, wl = (ltL 6 w).length := ⟨_, rfl⟩
        have hdl6 : dl ≤ 6 := by rw [hdl]; exact ltL_len
        have hwl6 : wl ≤ 6 := by rw [hwl]; exact ltL_len
        have hlen : ∀ q, q < NN T n → sel q = true → EK T n q - SK T n q = dl := fun q hq hs => by
          obtain ⟨y0, -⟩ := zB_nm ((hsel q).mp hs)
          have := (nm_str hn hT hq (hs200 q hq hs)).2.1
          rw [this, y0, hdl]
        have hen : ∀ q, q < NN T n → EK T n q ≤ n := fun q hq => (hTk q hq).2.1
        have hse : ∀ q, q < NN T n → SK T n q < EK T n q := fun q hq => (hTk q hq).1
        obtain ⟨L, hL⟩ : ∃ L, L = rnL T n (SK T n) (EK T n) sel (ltL 6 w) (NN T n) 0 0 := ⟨_, rfl⟩
        have hLl : (L.length : Int) = (n : Int) + cnt sel (NN T n) * ((wl : Int) - dl) := by
          have := rn_length (T := T) (W := ltL 6 w) hS hen hlen (NN T n) 0 0 (by omega) (by omega) (by omega) (fun q _ _ => Nat.zero_le _)
          rw [hL, this, ← hwl]
          show (n : Int) - (0 : Nat) + ((cnt sel (NN T n) : Int) - (0 : Nat)) * ((wl : Int) - dl) = _
          rw [Int.natCast_zero, Int.sub_zero, Int.sub_zero]
        have hcN := cnt_le (P := sel) (NN T n)
        have hm1 : -2000 < (cnt sel (NN T n) : Int) * ((wl : Int) - dl) ∧ (cnt sel (NN T n) : Int) * ((wl : Int) - dl) < 2000 := by
          have q1 : (cnt sel (NN T n) : Int) * ((wl : Int) - dl) = (cnt sel (NN T n) : Int) * wl - (cnt sel (NN T n) : Int) * dl := Int.mul_sub ..
          have q2 : (cnt sel (NN T n)) * wl ≤ 240 * 6 := Nat.mul_le_mul (by omega) hwl6
          have q3 : (cnt sel (NN T n)) * dl ≤ 240 * 6 := Nat.mul_le_mul (by omega) hdl6
          rw [q1, ← Int.natCast_mul, ← Int.natCast_mul]
          omega
        have hrefs := refsD hN h3.2.1.1.1 hs14
        rw [hrefs, Option.bind_some, e4, lettersD e3, Option.bind_some, if_pos (o_inb (show D < 240 by omega) (by omega)), o_nat (by omega)]
        dsimp only
        have hsD : d'.1 5 D = Int32.ofNat (NM T n D) := (h3.2.1.1.2 D hDN).2.2.1 (Or.inl hcD)
        rw [hsD, lettersD (hK.2.2.1 D), Option.bind_some, ← hwl, ← hdl, lettersM e1 e3, ← hwl, Option.bind_some]
        have s2 : (Int32.ofNat wl - Int32.ofNat dl).toInt = (wl : Int) - dl := by
          rw [i_sub (by rw [onat (by omega), onat (by omega)]; omega) (by rw [onat (by omega), onat (by omega)]; omega), onat (by omega), onat (by omega)]
        have s3 : (Int32.ofNat (cnt sel (NN T n)) * (Int32.ofNat wl - Int32.ofNat dl)).toInt = (cnt sel (NN T n) : Int) * ((wl : Int) - dl) := by
          rw [i_mul (by rw [s2, onat (by omega)]; omega) (by rw [s2, onat (by omega)]; omega), s2, onat (by omega)]
        have s4 : (d'.2 3 + Int32.ofNat (cnt sel (NN T n)) * (Int32.ofNat wl - Int32.ofNat dl)).toInt = (L.length : Int) := by
          rw [h3.1.1, i_add (by rw [s3, onat (by omega)]; omega) (by rw [s3, onat (by omega)]; omega), s3, onat (by omega), hLl]
        have h67m : ∀ q, q < NN T n → r'.1 6 q = Int32.ofNat (SK T n q) ∧ SK T n q ≤ 240 ∧ r'.1 7 q = Int32.ofNat (EK T n q) ∧ EK T n q ≤ 240 ∧ (r'.1 10 q = Int32.ofNat D ↔ sel q = true) := fun q hq => by
          obtain ⟨-, z6, z7⟩ := h4.2.2.1 q hq
          have := hen q hq
          have := hse q hq
          exact ⟨z6, by omega, z7, by omega, hs10 q hq⟩
        have m3 : r'.2.1 3 = Int32.ofNat (NN T n) := h4.2.1.1.1
        have m1 : r'.2.1 1 = Int32.ofNat n := h4.1.1
        obtain ⟨v', z1, z2⟩ := szM (a1 := a) (a2 := c) hN hn hwl6 hdl6 m3 h67m (fun q hq hs => ⟨Nat.le_of_lt (hse q hq), hlen q hq hs⟩) (NN T n) 0 (r'.2.1 1) (99999 - NN T n) rfl (by omega) (by
          rw [m1, onat (by omega)]
          show _ = (n : Int) + ((0 : Nat) : Int) * _
          rw [Int.natCast_zero, Int.zero_mul, Int.add_zero])
        rw [show 99999 - NN T n + NN T n + 1 = 100000 by omega] at z1
        have z1' : lpN BMo_rename_79 100000 (a, c, Int32.ofNat D, Int32.ofNat wl, 0, r'.2.1 1, 0, r') = _ := z1
        rw [← hLl] at z2
        rw [z1']
        unfold BMo_rename_79
        dsimp only
        rw [m3, if_pos (show Int32.ofNat (NN T n) ≤ Int32.ofNat (NN T n) by rw [i_le]; omega)]
        by_cases c3 : L.length ≤ 240
        · rw [if_pos (show v' ≤ 240 by rw [i_le, z2, n240]; omega), if_pos (show d'.2 3 + Int32.ofNat (cnt sel (NN T n)) * (Int32.ofNat wl - Int32.ofNat dl) ≤ 240 by rw [i_le, s4, n240]; omega)]
          -- the desk's new text
          have hb0 : TL (b.1, va_up (va_up b.2 2 0) 3 0) [] := ⟨rfl, by decide, fun i hi => absurd hi (Nat.not_lt_zero _), fun x hx => absurd hx List.not_mem_nil⟩
          obtain ⟨b', k1, k2, k3⟩ := crD (D := D) (w := w) (sel := sel) (b := (b.1, va_up (va_up b.2 2 0) 3 0)) h3.1 hS hN hen h3.2.1.1.1 (fun q hq => ⟨(h3.2.2.1 q hq).2.1, (h3.2.2.1 q hq).2.2, hs14 q hq⟩) e3 e6 (NN T n) 0 0 (b.1, va_up (va_up b.2 2 0) 3 0) [] (99999 - NN T n) rfl (by omega) (by omega) (fun q _ _ => Nat.zero_le _) hb0 FrX.rf (by rw [← hL]; show 0 + L.length ≤ 240; omega)
          rw [show 99999 - NN T n + NN T n + 1 = 100000 by omega] at k1
          have k1' : f_Dr_copyRenamed (Int32.ofNat D) (Int32.ofNat w) b d' = some (b', d') := k1
          have k2' : TL b' L := by rw [hL]; exact k2
          have b2 : b'.2 2 = 0 := (k3.2 2 (by decide)).trans rfl
          -- the model's
          obtain ⟨r1, p1, p2, p3, p4, p5, p6, p7⟩ := keepM hn hN m1 m3
          have hW1 := h4.2.1.cg2 (r' := r1) (fun i x y z => p4 i x z) p6 p7
          have hm1 : f_Mo_functionNamed 468013 r1 = some (pm (hd (gR (CL T n) (NM T n) (NN T n) cs) (NM T n) (NN T n) 468013), r1) := hdM (w := 468013) hK hW1 (by decide)
          have hX1 : TxM T n r1 := ⟨(p6 1 (by decide)).trans m1, hn, fun i hi => by rw [p4 2 (by decide) (by decide)]; exact h4.1.2.2.1 i hi, by rw [p7]; exact h4.1.2.2.2⟩
          obtain ⟨r2, s91, s92, s93⟩ := s9 (D := D) (w := w) (sel := sel) (name := c) e1 hN hS hen n 0 0 0 [] r1 (99999 - n) (by omega) (by omega) (Nat.le_refl _) (Nat.zero_le _) (fun q _ x => absurd x (Nat.not_lt_zero _)) (fun q _ _ _ => Nat.zero_le _) hX1 ((p6 3 (by decide)).trans m3) (fun q hq => by
            rw [p4 6 (by decide) (by decide), p4 7 (by decide) (by decide), p4 10 (by decide) (by decide)]
            obtain ⟨y1, y2, y3, y4, y5⟩ := h67m q hq
            have := hen q hq
            have := hse q hq
            exact ⟨y1, by omega, y3, y4, y5⟩) (fun i hi => absurd hi (Nat.not_lt_zero _)) (by rw [Nat.sub_zero, ← hL]; show 0 + L.length ≤ 240; omega)
          rw [show 99999 - n + n + 1 = 100000 by omega, Nat.sub_zero, List.nil_append, ← hL, ← hwl] at s91
          rw [Nat.sub_zero, List.nil_append, ← hL] at s92
          have s91' : f_Mo_spell (Int32.ofNat D) c (Int32.ofNat wl) r1 = f_Mo_becomeFresh (Int32.ofNat L.length) r2 := s91
          obtain ⟨r3, t1, t2, t3, t4, t5, t6⟩ := becomeM s92 c3
          have hX3 : TxM (tL L) L.length r3 := ⟨t3, c3, fun i hi => ⟨t2 i hi, (k2'.tx.2.2 i hi).2⟩, by rw [t6, s93.2]; exact hX1.2.2.2⟩
          obtain ⟨cs2, l2, t, r4, q1, q2, q3, q4, q5, q6⟩ := again k2' b2 hX3
          have f11 : r4.1 11 = r1.1 11 := by rw [q6.1 11 (by omega), t4 11 (by decide), s93.1 11 (by decide)]
          have f3 : r4.1 3 = r1.1 3 := by rw [q6.1 3 (by omega), t4 3 (by decide), s93.1 3 (by decide)]
          have f36 : r4.1 36 = r'.1 36 := by rw [q6.1 36 (by omega), t4 36 (by decide), s93.1 36 (by decide), p4 36 (by decide) (by decide)]
          have fI : ∀ i, (i < 3 ∨ 11 ≤ i) → i ≠ 1 → i ≠ 2 → r4.2.1 i = r'.2.1 i := fun i x y z => by rw [q6.2.1 i x, t5 i y, s93.2, p6 i z]
          have f2 : r4.2.1 2 = Int32.ofNat n := by rw [q6.2.1 2 (by omega), t5 2 (by decide), s93.2, p5]
          have f0 : r4.2.1 0 = 0 := (fI 0 (by omega) (by decide) (by decide)).trans h6
          obtain ⟨r5, u1, u2, u3, u4, u5, u6, u7⟩ := takeM (a := 4) hn f2
          have hX5 : TxM T n r5 := ⟨u3, hn, fun i hi => by
            rw [u2 i hi, f3, p2 i hi]; exact h4.1.2.2.1 i hi, by rw [u7]; exact q4.1.2.2.2⟩
          have hR5 : ∀ t', Rel An k d' t' r5 := fun t' => by
            refine ⟨tr_of h3.1 hX5, mr_of h5.2.1 ?_ ?_ ?_, hX5.2.2.2, h5.2.2.2⟩
            · rw [u6 16 (by decide) (by decide)]; exact fI 16 (by omega) (by decide) (by decide)
            · rw [u6 17 (by decide) (by decide)]; exact fI 17 (by omega) (by decide) (by decide)
            · rw [u5 36 (by decide)]; exact f36
          rw [k1', Option.bind_some, p1, Option.bind_some]
          dsimp only
          rw [hm1, Option.bind_some]
          dsimp only
          rw [s91', t1, Option.bind_some, q1, q2, Option.bind_some, Option.bind_some]
          have gd : t.2 1 = Int32.ofNat l2.length := q3.2.2.2.2.1.1
          have gm : r4.2.1 5 = Int32.ofNat l2.length := q4.2.2.2.2.1.1
          have hl2 := q3.2.2.2.2.2.2.1
          have hN1 : r1.2.1 3 = Int32.ofNat (NN T n) := (p6 3 (by decide)).trans m3
          obtain ⟨tk1, tk2⟩ := renTok hn hT e3 e6 (by omega) e7 hs200 hL c3 k2'.2.2.2
          by_cases c4 : l2.length = 0
          · have hl0 : l2 = [] := List.length_eq_zero_iff.mp c4
            subst hl0
            rw [if_neg (show ¬ 0 < t.2 1 by rw [gd]; decide), if_pos (show r4.2.1 5 = 0 by rw [gm]; rfl), if_pos (show r4.2.1 3 = r1.2.1 3 by rw [hN1, q4.2.1.1.1, tk1])]
            have hK2 := (tok_all (T := tL L) (n := L.length) c3 (fun i hi => (k2'.tx.2.2 i hi).2.2)).2.2.1
            have hm4 : f_Mo_functionNamed 468013 r4 = some (pm (hd (gR (CL (tL L) L.length) (NM (tL L) L.length) (NN (tL L) L.length) cs2) (NM (tL L) L.length) (NN (tL L) L.length) 468013), r4) := hdM (w := 468013) hK2 q4.2.1 (by decide)
            obtain ⟨i, j, x1, x2, x3⟩ := findSame h3 q3 tk1 tk2
            have hzz : ∀ q, q < NN T n → zB (tL L) L.length cs2 q ≤ 1000 ∧ zB T n cs q ≤ 1000 := fun q hq => by
              have g1 := zB_le (cs := cs) hq
              have g2 := zB_le (T := tL L) (n := L.length) (cs := cs2) (q := q) (by rw [tk1]; exact hq)
              rw [tk1] at g2
              omega
            have hsd := sameD (x := zB (tL L) L.length cs2) (y := zB T n cs) hN (by rw [q3.2.1.1.1, tk1]) (fun q hq => ⟨q3.2.2.2.1 q (by rw [tk1]; exact hq), h3.2.2.2.1 q hq, hzz q hq⟩) x1 x2
            have hsm := ren216 (x := zB (tL L) L.length cs2) (y := zB T n cs) (a1 := a) (a2 := c) (D := Int32.ofNat D) (wl := Int32.ofNat wl) (many := Int32.ofNat (cnt sel (NN T n))) (v := v') (h0 := pm (hd (gR (CL T n) (NM T n) (NN T n) cs) (NM T n) (NN T n) 468013)) hN (fun q hq => ⟨q4.2.2.2.1 q (by rw [tk1]; exact hq), by rw [f11, p3 q hq]; exact h4.2.2.2.1 q hq, hzz q hq⟩) (NN T n) 0 (99999 - NN T n) rfl (by omega)
            rw [show 99999 - NN T n + NN T n + 1 = 100000 by omega] at hsm
            have hhd : ∀ {X : Nat → Nat} {Y : Nat → Nat} {Z : Nat}, Z ≤ 240 → hd X Y Z 468013 ≤ 1000 := fun {X Y Z} hZ => by
              rcases fsB_ok (P := hdB X Y 468013) Z with ⟨g1, -⟩ | ⟨q', g1, g2, -⟩
              · show fsB _ _ ≤ _
                omega
              · show fsB _ _ ≤ _
                omega
            have hpm := pm_inj (hhd (X := gR (CL (tL L) L.length) (NM (tL L) L.length) (NN (tL L) L.length) cs2) (Y := NM (tL L) L.length) (Z := NN (tL L) L.length) (by rw [tk1]; exact hN)) (hhd (X := gR (CL T n) (NM T n) (NN T n) cs) (Y := NM T n) hN)
            rw [hm4, Option.bind_some]
            dsimp only
            rw [hN1]
            by_cases c5 : i = j
            · have c5' := x3.mp c5
              rw [if_pos (show pm _ = pm _ by rw [c5'])]
              by_cases c6 : ∀ q, q < NN T n → zB (tL L) L.length cs2 q = zB T n cs q
              · have y1 := hsd.1 c6 c5
                have y2 : lpN BMo_rename_216 100000 (a, c, Int32.ofNat D, Int32.ofNat wl, Int32.ofNat (cnt sel (NN T n)), v', pm (hd (gR (CL T n) (NM T n) (NN T n) cs) (NM T n) (NN T n) 468013), Int32.ofNat (NN T n), 1, 0, r4) = some (Int32.ofNat (cnt sel (NN T n)), r4) := hsm.1 (fun q _ hq => c6 q hq)
                rw [y1, y2, Option.bind_some]
                simp (decide := true) only [↓reduceIte, Option.bind_some]
                refine ⟨_, _, _, rfl, rfl, rfl, f0, fun _ => lgc, ?_⟩
                refine ⟨tr_of q3.1 q4.1, mr_of h5.2.1 ?_ ?_ f36, q4.1.2.2.2, Or.inr ⟨q5, _, _, _, _, q3⟩⟩
                · exact fI 16 (by omega) (by decide) (by decide)
                · exact fI 17 (by omega) (by decide) (by decide)
              · have y1 := hsd.2 (fun h => c6 h.1)
                have y2 : lpN BMo_rename_216 100000 (a, c, Int32.ofNat D, Int32.ofNat wl, Int32.ofNat (cnt sel (NN T n)), v', pm (hd (gR (CL T n) (NM T n) (NN T n) cs) (NM T n) (NN T n) 468013), Int32.ofNat (NN T n), 1, 0, r4) = _ := hsm.2 (fun h => c6 (fun q hq => h q (Nat.zero_le _) hq))
                rw [y1, y2, u1, Option.bind_some]
                simp (decide := true) only [↓reduceIte, Option.bind_some]
                exact ⟨_, _, _, rfl, rfl, rfl, u4, fun h => absurd (show (4 : Int32) = 0 from h) (by decide), hR5 t⟩
            · rw [if_neg (show ¬ pm _ = pm _ from fun h => c5 (x3.mpr (hpm.mp h)))]
              have y1 := hsd.2 (fun h => c5 h.2)
              rw [y1, ren0, u1, Option.bind_some]
              simp (decide := true) only [↓reduceIte, Option.bind_some]
              exact ⟨_, _, _, rfl, rfl, rfl, u4, fun h => absurd (show (4 : Int32) = 0 from h) (by decide), hR5 t⟩
          · rw [if_pos (show 0 < t.2 1 by rw [gd, i_lt, onat (by omega), n0]; omega), if_neg (show ¬ r4.2.1 5 = 0 by rw [gm, i_eq, onat (by omega), n0]; omega), ren0, u1, Option.bind_some]
            simp (decide := true) only [↓reduceIte, Option.bind_some]
            exact ⟨_, _, _, rfl, rfl, rfl, u4, fun h => absurd (show (4 : Int32) = 0 from h) (by decide), hR5 t⟩
        · rw [if_neg (show ¬ v' ≤ 240 by rw [i_le, z2, n240]; omega), if_neg (show ¬ d'.2 3 + Int32.ofNat (cnt sel (NN T n)) * (Int32.ofNat wl - Int32.ofNat dl) ≤ 240 by rw [i_le, s4, n240]; omega)]
          unfold f_Mo_fails
          simp (decide := true) only [↓reduceIte, Option.bind_some]
          exact ⟨_, _, _, rfl, rfl, rfl, rfl, fun h => absurd (show (2 : Int32) = 0 from h) (by decide), h5.code⟩
    · rw [if_neg (show ¬ d'.2 1 ≤ 0 by rw [fd, i_le, onat (by omega), n0]; omega), if_neg (show ¬ r'.2.1 5 ≤ 0 by rw [fm, i_le, onat (by omega), n0]; omega)]
      unfold f_Mo_fails
      simp (decide := true) only [↓reduceIte, Option.bind_some]
      exact ⟨_, _, _, rfl, rfl, rfl, rfl, fun h => absurd (show (2 : Int32) = 0 from h) (by decide), h5.code⟩
