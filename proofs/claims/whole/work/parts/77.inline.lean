/-! inline, by both -/
theorem o_sub1 {a : Nat} (h0 : 0 < a) (h : a < 100000) : Int32.ofNat a - 1 = Int32.ofNat (a - 1) := by
  rw [i_eq, i_sub (by rw [onat (by omega), n1]; omega) (by rw [onat (by omega), n1]; omega), onat (by omega), onat (by omega), n1]
  omega
theorem op_inline (a : Int32) : OpX (Rel An) (f_La_inline a) (f_Mo_inline a) := by
  intro k d b o r hR
  obtain ⟨T, n, cs, l, d', r', h1, h2, h3, h4, h5, h6, hFr⟩ := both hR
  have fd : d'.2 1 = Int32.ofNat l.length := h3.2.2.2.2.1.1
  have fm : r'.2.1 5 = Int32.ofNat l.length := h4.2.2.2.2.1.1
  have hl := h3.2.2.2.2.2.2.1
  unfold f_La_inline f_X_inline f_Mo_inline f_Mo_thrown
  rw [h1, h2, Option.bind_some, Option.bind_some]
  by_cases c1 : l.length = 0
  · have hl0 : l = [] := List.length_eq_zero_iff.mp c1
    subst hl0
    rw [if_pos (show d'.2 1 ≤ 0 by rw [fd]; decide), if_pos (show r'.2.1 5 ≤ 0 by rw [fm]; decide)]
    have hSm := h3.same h4
    obtain ⟨v, v1, v2, v3⟩ := atB (a := a) hSm
    rw [v1, v2, Option.bind_some, Option.bind_some]
    dsimp only
    have hn := h3.1.2.1
    have hT : ∀ i, i < n → T i ≤ 126 := fun i hi => (h3.1.2.2 i hi).2.2
    obtain ⟨hTk, hN, hK, hS⟩ := tok_all hn hT
    by_cases c2 : v = -1
    · subst c2
      unfold f_Mo_fails
      simp (decide := true) only [↓reduceIte, Option.bind_some]
      exact ⟨_, _, _, rfl, rfl, rfl, rfl, fun h => absurd (show (2 : Int32) = 0 from h) (by decide), h5.code⟩
    · rcases v3 with v3 | ⟨q0, hq0, v3⟩
      · exact absurd v3 c2
      rw [h3.2.2.2.1 q0 hq0] at v3
      have hz0 : zB T n cs q0 ≠ 0 := fun h => c2 (by rw [v3, h]; rfl)
      have hzle := zB_le (cs := cs) hq0
      obtain ⟨D, hD⟩ : ∃ D, zB T n cs q0 = D + 1 := ⟨zB T n cs q0 - 1, by omega⟩
      have hvD : v = Int32.ofNat D := by rw [v3, hD]; rfl
      subst hvD
      obtain ⟨-, zq1, zq2, zq3⟩ := zB_nm hD
      have hDN := zq3 hq0
      obtain ⟨d13, dR, d14, dB, d5⟩ := h3.at hDN
      obtain ⟨m9, -, -, -, -⟩ := h4.at h3 hDN
      have sw3 := (sw_is dR).2.2.2
      have o3 : Int32.ofNat (zR T n cs D) = 3 ↔ zR T n cs D = 3 := on_is (v := 3) dR (by omega)
      have iD : inb (Int32.ofNat D) 240 = true := o_inb (by omega) (by omega)
      rw [if_neg c2, if_neg (show ¬ Int32.ofNat D < 0 by rw [i_lt, onat (by omega), n0]; omega), if_pos iD, if_pos iD, o_nat (by omega), d13, m9]
      by_cases c3 : zR T n cs D = 3
      · rw [if_pos (sw3.mpr c3), if_pos (o3.mpr c3)]
        obtain ⟨S, hSd⟩ : ∃ S, S = zS T n cs D := ⟨_, rfl⟩
        obtain ⟨U, hUd⟩ : ∃ U, U = zU T n cs D := ⟨_, rfl⟩
        have hLt : Lt T n cs D S U := by rw [hSd, hUd]; exact Lt.of h3 hDN c3
        obtain ⟨s1, s2, sc, s3, s4, s5⟩ := semiD h3 hLt
        have hLt' := hLt
        obtain ⟨l1, l2, l3, l4, l5, l6, l7, l8, l9, l10⟩ := hLt
        obtain ⟨s, hs⟩ : ∃ s, s = S - 1 := ⟨_, rfl⟩
        have m14 : r'.1 14 D = Int32.ofNat S := by
          rw [← l3]
          exact ((h4.2.1.2.1 D l1).2.2.2.2 (Or.inr l2)).2.2.1
        have mS : Int32.ofNat S - 1 = Int32.ofNat s := by rw [hs]; exact o_sub1 (by omega) (by omega)
        have mE : Int32.ofNat D + 2 = Int32.ofNat (D + 2) := o_add (a := D) (b := 2)
        have hheld := heldM h3 h4 hLt'
        rw [← hs] at hheld
        rw [if_pos iD, m14, mS, mE]
        obtain ⟨hc1, hc2⟩ := hasCallD h3 hLt'
        obtain ⟨ho1, ho2⟩ := overD h3 hLt'
        obtain ⟨hm1, hm2⟩ := losesD h3 hLt'
        by_cases H : hP1 T n cs D S ∨ hP2 T n cs D S U ∨ hP3 T n cs D S U
        · rw [hheld.1 H, Option.bind_some]
          dsimp only
          rw [if_neg (show ¬ (1 : Int32) = 0 by decide)]
          have hdesk : ((f_Na_hasCall (Int32.ofNat D) d').bind fun q7 => if q7.1 = 0 then (f_Na_isOvertaken (Int32.ofNat D) q7.2).bind fun q9 => if q9.1 = 0 then (f_Na_losesMeaning (Int32.ofNat D) q9.2).bind fun q11 => if q11.1 = 0 then (f_Dr_referencesOf (Int32.ofNat D) q11.2).bind fun q13 => (f_Dr_sizeInlined (Int32.ofNat D) (q13.1 - 1) q13.2).bind fun q14 => if q14.1 ≤ 240 then (f_Dr_copyInlined (Int32.ofNat D) b q14.2).bind fun q16 => (f_Dr_refresh q16.1).bind fun q17 => if q17.2 1 ≤ 0 then some (0, q13.1 - 1, k, q17, q16.2) else some (5, 0, k, q16.2, q17) else some (3, 0, k, q14.2, b) else some (5, 0, k, q11.2, b) else some (5, 0, k, q9.2, b) else some (5, 0, k, q7.2, b)) = some ((5 : Nat), (0 : Int32), k, d', b) := by
            by_cases H1 : hP1 T n cs D S
            · rw [hc1 H1, Option.bind_some]
              dsimp only
              rw [if_neg (show ¬ (1 : Int32) = 0 by decide)]
            · rw [hc2 H1, Option.bind_some]
              dsimp only
              rw [if_pos rfl]
              by_cases H2 : hP2 T n cs D S U
              · rw [ho1 H2, Option.bind_some]
                dsimp only
                rw [if_neg (show ¬ (1 : Int32) = 0 by decide)]
              · rw [ho2 H2, Option.bind_some]
                dsimp only
                rw [if_pos rfl]
                have H3 := (H.resolve_left H1).resolve_left H2
                rw [hm1 H3, Option.bind_some]
                dsimp only
                rw [if_neg (show ¬ (1 : Int32) = 0 by decide)]
          rw [hdesk, Option.bind_some]
          unfold f_Mo_fails
          simp (decide := true) only [↓reduceIte, Option.bind_some]
          exact ⟨_, _, _, rfl, rfl, rfl, rfl, fun h => absurd (show (3 : Int32) = 0 from h) (by decide), h5.code⟩
        · have H1 : ¬ hP1 T n cs D S := fun h => H (Or.inl h)
          have H2 : ¬ hP2 T n cs D S U := fun h => H (Or.inr (Or.inl h))
          have H3 : ¬ hP3 T n cs D S U := fun h => H (Or.inr (Or.inr h))
          rw [hheld.2 H, Option.bind_some, hc2 H1, Option.bind_some]
          dsimp only
          rw [if_pos rfl, if_pos rfl, ho2 H2, Option.bind_some]
          dsimp only
          rw [if_pos rfl, hm2 H3, Option.bind_some]
          dsimp only
          rw [if_pos rfl]
          -- who is replaced
          have hDB : zB T n cs D = D + 1 := by
            have hF := (all_ok h3).2 D hDN
            have hF' : wF (CL T n) (NM T n) (NN T n) (gR (CL T n) (NM T n) (NN T n) cs) (gG (CL T n) (NM T n) (NN T n) cs) (gSc (CL T n) (NM T n) (NN T n) cs) (gSi (CL T n) (NM T n) (NN T n) cs) (gUn (CL T n) (NM T n) (NN T n) cs) (gN (CL T n) (NM T n) (NN T n) cs) D = 0 := hF
            have c3' : gR (CL T n) (NM T n) (NN T n) cs D = 3 := c3
            unfold wF at hF'
            rw [if_neg (show ¬ gR (CL T n) (NM T n) (NN T n) cs D = 1 by omega), if_pos (show gR (CL T n) (NM T n) (NN T n) cs D = 2 ∨ gR (CL T n) (NM T n) (NN T n) cs D = 3 from Or.inr c3')] at hF'
            rw [zB_decl (Or.inr c3)]
            cases hrp : rp (zR T n cs) (NM T n) (gSc (CL T n) (NM T n) (NN T n) cs) D with
            | false => rfl
            | true =>
              rw [if_pos hrp] at hF'
              omega
          obtain ⟨sa, hsa⟩ : ∃ sa : Nat → Bool, ∀ q, sa q = true ↔ zB T n cs q = D + 1 := ⟨fun q => decide (zB T n cs q = D + 1), fun q => decide_eq_true_iff⟩
          obtain ⟨sel, hsel⟩ : ∃ sel : Nat → Bool, ∀ q, sel q = true ↔ (zB T n cs q = D + 1 ∧ q ≠ D) := ⟨fun q => decide (zB T n cs q = D + 1 ∧ q ≠ D), fun q => decide_eq_true_iff⟩
          have hselD : sel D = false := by
            cases hq : sel D with
            | false => rfl
            | true => exact absurd rfl ((hsel D).mp hq).2
          have huse : ∀ q, q < NN T n → sel q = true → zR T n cs q = 5 ∧ S ≤ q := fun q hq hh => by
            obtain ⟨y1, y2⟩ := (hsel q).mp hh
            obtain ⟨z1, z2, z3⟩ := use_ge hK hLt' hq y1 y2
            refine ⟨z1.resolve_left (fun z4 => H2 ⟨q, z2, z3, z4, Or.inl y1⟩), z2⟩
          have hcD := cnt_D (sa := sa) (sel := sel) (D := D) (fun q => by
            rw [hsa, hsel]
            constructor
            · intro h
              by_cases hq : q = D
              · exact Or.inr hq
              · exact Or.inl ⟨h, hq⟩
            · rintro (h | h)
              · exact h.1
              · rw [h]; exact hDB) hselD (NN T n)
          rw [if_pos hDN] at hcD
          have hs14 : ∀ q, q < NN T n → (d'.1 14 q = Int32.ofNat D ↔ sa q = true) := fun q hq => by
            obtain ⟨-, -, y1, y2, -⟩ := h3.at hq
            rw [y1, hsa]
            exact pm_D (by omega) (by omega)
          have hrefs := refsD hN h3.2.1.1.1 hs14
          rw [hrefs, Option.bind_some]
          dsimp only
          have hcle := cnt_le (P := sel) (NN T n)
          have hmany : Int32.ofNat (cnt sa (NN T n)) - 1 = Int32.ofNat (cnt sel (NN T n)) := by
            rw [hcD, o_sub1 (by omega) (by omega), Nat.add_sub_cancel]
          rw [hmany]
          -- the sizes
          have hen : ∀ q, q < NN T n → EK T n q ≤ n := fun q hq => (hTk q hq).2.1
          have hse : ∀ q, q < NN T n → SK T n q < EK T n q := fun q hq => (hTk q hq).1
          have hsN : s < NN T n := by omega
          have hAW := gAW cs hK
          have hc200 : ∀ q, q < NN T n → zR T n cs q ≠ 0 → CL T n q = 200 := fun q hq hr => ((hAW.1 q hq).2.1 hr).2.1
          obtain ⟨dl, hdl⟩ : ∃ dl, dl = (ltL 6 (NM T n D)).length := ⟨_, rfl⟩
          have hdl6 : dl ≤ 6 := by rw [hdl]; exact ltL_len
          have hlenD : EK T n D - SK T n D = dl := by
            rw [hdl]; exact (nm_str hn hT hDN (hc200 D hDN (by omega))).2.1
          have hlen : ∀ q, q < NN T n → sel q = true → EK T n q - SK T n q = dl := fun q hq hh => by
            obtain ⟨y0, -⟩ := zB_nm ((hsel q).mp hh).1
            have := (nm_str hn hT hq (hc200 q hq (by have := (huse q hq hh).1; omega))).2.1
            rw [this, y0, hdl]
          have hsg : ∀ q, q < NN T n → sel q = true → s < q := fun q hq hh => by have := (huse q hq hh).2; omega
          have hee : SK T n (D + 2) ≤ EK T n (s - 1) := by
            have y1 := hse (s - 1) (by omega)
            by_cases hh : D + 2 = s - 1
            · rw [hh]; omega
            · have h2 := hS.lt (show D + 2 < s - 1 by omega) (show s - 1 < NN T n by omega)
              have := h2.2
              omega
          have hds : SK T n (D - 1) ≤ EK T n s := by
            have y1 := hS.lt (show D - 1 < s by omega) hsN
            have := y1.2
            have := hse s hsN
            omega
          have n0' := hen s hsN
          have n1' := hen (s - 1) (by omega)
          have n2' := hen D hDN
          have n3' := hse (D - 1) (by omega)
          have n4' := hen (D - 1) (by omega)
          have n5' := hse D hDN
          obtain ⟨L, hL⟩ : ∃ L, L = inL T n (NN T n) D s (SK T n) (EK T n) sel := ⟨_, rfl⟩
          obtain ⟨wl, hwl⟩ : ∃ wl, wl = EK T n (s - 1) - SK T n (D + 2) := ⟨_, rfl⟩
          have hLl : (L.length : Int) = ((n : Int) - (EK T n s - SK T n (D - 1) : Nat)) + cnt sel (NN T n) * (((wl : Int) + 2) - dl) := by
            have := rn_length (T := T) (W := wrL T (SK T n (D + 2)) (EK T n (s - 1))) hS hen hlen (NN T n - (s + 1)) (s + 1) (EK T n s) (by omega) (by omega) n0' (fun q q1 q2 => (hS.lt (show s < q by omega) q2).1)
            rw [cnt_0 (s + 1) (fun q hq => by
              cases hh : sel q with
              | false => rfl
              | true => have := hsg q (by omega) hh; omega), wr_len, ← hwl] at this
            have hLL : L.length = SK T n (D - 1) + (rnL T n (SK T n) (EK T n) sel (wrL T (SK T n (D + 2)) (EK T n (s - 1))) (NN T n - (s + 1)) (s + 1) (EK T n s)).length := by rw [hL, List.length_append, piece_len]
            have e9 : ((wl + 2 : Nat) : Int) - (dl : Int) = ((wl : Int) + 2) - dl := by omega
            rw [Int.natCast_zero, Int.sub_zero, e9] at this
            rw [hLL, Int.natCast_add, this, Int.natCast_sub hds]
            generalize (cnt sel (NN T n) : Int) * (((wl : Int) + 2) - dl) = X
            omega
          have hm1 : -2000 < (cnt sel (NN T n) : Int) * (((wl : Int) + 2) - dl) ∧ (cnt sel (NN T n) : Int) * (((wl : Int) + 2) - dl) < 70000 := by
            have q1 : (cnt sel (NN T n) : Int) * (((wl : Int) + 2) - dl) = (cnt sel (NN T n) : Int) * ((wl + 2 : Nat) : Int) - (cnt sel (NN T n) : Int) * dl := Int.mul_sub ..
            have q2 : (cnt sel (NN T n)) * (wl + 2) ≤ 240 * 242 := Nat.mul_le_mul (by omega) (by omega)
            have q3 : (cnt sel (NN T n)) * dl ≤ 240 * 6 := Nat.mul_le_mul (by omega) hdl6
            rw [q1, ← Int.natCast_mul, ← Int.natCast_mul]
            omega
          have a67 : ∀ q, q < NN T n → d'.1 6 q = Int32.ofNat (SK T n q) ∧ d'.1 7 q = Int32.ofNat (EK T n q) := fun q hq => (h3.2.2.1 q hq).2
          have is : inb (Int32.ofNat s) 240 = true := o_inb (by omega) (by omega)
          have is1 : inb (Int32.ofNat (s - 1)) 240 = true := o_inb (by omega) (by omega)
          have id1 : inb (Int32.ofNat (D - 1)) 240 = true := o_inb (by omega) (by omega)
          have id2 : inb (Int32.ofNat (D + 2)) 240 = true := o_inb (by omega) (by omega)
          have w1 : Int32.ofNat D - 1 = Int32.ofNat (D - 1) := o_sub1 (by omega) (by omega)
          have w2 : Int32.ofNat s - 1 = Int32.ofNat (s - 1) := o_sub1 (by omega) (by omega)
          have w3 : Int32.ofNat (EK T n s) - Int32.ofNat (SK T n (D - 1)) = Int32.ofNat (EK T n s - SK T n (D - 1)) := o_sub hds
          have w4 : Int32.ofNat (EK T n (s - 1)) - Int32.ofNat (SK T n (D + 2)) = Int32.ofNat wl := by rw [hwl]; exact o_sub hee
          have w5 : Int32.ofNat (EK T n D) - Int32.ofNat (SK T n D) = Int32.ofNat dl := by rw [← hlenD]; exact o_sub (by omega)
          have w6 : Int32.ofNat n - Int32.ofNat (EK T n s - SK T n (D - 1)) = Int32.ofNat (n - (EK T n s - SK T n (D - 1))) := o_sub (by omega)
          have w7 : Int32.ofNat wl + 2 = Int32.ofNat (wl + 2) := o_add (a := wl) (b := 2)
          rw [← hs] at s1
          have hsz : f_Dr_sizeInlined (Int32.ofNat D) (Int32.ofNat (cnt sel (NN T n))) d' = some (Int32.ofNat (n - (EK T n s - SK T n (D - 1))) + Int32.ofNat (cnt sel (NN T n)) * (Int32.ofNat (wl + 2) - Int32.ofNat dl), d') := by
            unfold f_Dr_sizeInlined
            rw [s1, Option.bind_some]
            simp only [firstE (d := d') (show D ≤ 300 by omega), Option.bind_some, bindv, is, is1, id1, id2, iD, w1, w2, ↓reduceIte, o_nat (show s < 2147483648 by omega), o_nat (show s - 1 < 2147483648 by omega), o_nat (show D - 1 < 2147483648 by omega), o_nat (show D + 2 < 2147483648 by omega), o_nat (show D < 2147483648 by omega), (a67 s hsN).2, (a67 (D - 1) (by omega)).1, (a67 (s - 1) (by omega)).2, (a67 (D + 2) (by omega)).1, (a67 D hDN).1, (a67 D hDN).2, w3, w4, w5, h3.1.1, w6, w7]
          rw [hsz, Option.bind_some]
          dsimp only
          have t2 : (Int32.ofNat (wl + 2) - Int32.ofNat dl).toInt = ((wl : Int) + 2) - dl := by
            rw [i_sub (by rw [onat (by omega), onat (by omega)]; omega) (by rw [onat (by omega), onat (by omega)]; omega), onat (by omega), onat (by omega)]
            omega
          have t3 : (Int32.ofNat (cnt sel (NN T n)) * (Int32.ofNat (wl + 2) - Int32.ofNat dl)).toInt = (cnt sel (NN T n) : Int) * (((wl : Int) + 2) - dl) := by
            rw [i_mul (by rw [t2, onat (by omega)]; omega) (by rw [t2, onat (by omega)]; omega), t2, onat (by omega)]
          have t4 : (Int32.ofNat (n - (EK T n s - SK T n (D - 1))) + Int32.ofNat (cnt sel (NN T n)) * (Int32.ofNat (wl + 2) - Int32.ofNat dl)).toInt = (L.length : Int) := by
            rw [i_add (by rw [t3, onat (by omega)]; omega) (by rw [t3, onat (by omega)]; omega), t3, onat (by omega), hLl]
            omega
          -- the model's sizes
          have m67 : ∀ q, q < NN T n → r'.1 6 q = Int32.ofNat (SK T n q) ∧ r'.1 7 q = Int32.ofNat (EK T n q) := fun q hq => (h4.2.2.1 q hq).2
          have h67m : U67 (NN T n) D (SK T n) (EK T n) sel r' := fun q hq => by
            obtain ⟨x9, xR, x10, xB, -⟩ := h4.at h3 hq
            obtain ⟨z6, z7⟩ := m67 q hq
            have := hen q hq
            have := hse q hq
            refine ⟨z6, by omega, z7, by omega, ?_⟩
            rw [x9, x10, hsel]
            constructor
            · rintro ⟨y1, y2⟩
              have y1' : zR T n cs q = 5 := (on_is (v := 5) xR (by omega)).mp y1
              refine ⟨(pm_D (by omega) (by omega)).mp y2, fun hq => ?_⟩
              rw [hq] at y1'
              omega
            · intro hh
              have hr := (huse q hq ((hsel q).mpr hh)).1
              exact ⟨(on_is (v := 5) xR (by omega)).mpr hr, (pm_D (by omega) (by omega)).mpr hh.1⟩
          have m3 : r'.2.1 3 = Int32.ofNat (NN T n) := h4.2.1.1.1
          have m1 : r'.2.1 1 = Int32.ofNat n := h4.1.1
          rw [w1, w2]
          simp only [is, is1, id1, id2, bindv, ↓reduceIte, o_nat (show s < 2147483648 by omega), o_nat (show s - 1 < 2147483648 by omega), o_nat (show D - 1 < 2147483648 by omega), o_nat (show D + 2 < 2147483648 by omega), (m67 s hsN).2, (m67 (D - 1) (by omega)).1, (m67 (s - 1) (by omega)).2, (m67 (D + 2) (by omega)).1, w3, w4, m1, w6]
          obtain ⟨v', z1, z2⟩ := szI (a1 := a) (a2 := Int32.ofNat (D + 2)) (a3 := Int32.ofNat s) (n := n) (z0 := (n : Int) - (EK T n s - SK T n (D - 1) : Nat)) hN (by omega) (show wl ≤ 240 by omega) hdl6 m3 (fun q hq => by
            obtain ⟨y1, y2, y3, y4, y5⟩ := h67m q hq
            exact ⟨y1, by omega, y3, y4, y5⟩) (fun q hq hh => ⟨Nat.le_of_lt (hse q hq), hlen q hq hh⟩) (NN T n) 0 (Int32.ofNat (n - (EK T n s - SK T n (D - 1)))) (99999 - NN T n) rfl (by omega) (by
            rw [onat (by omega)]
            show _ = _ + ((0 : Nat) : Int) * _
            rw [Int.natCast_zero, Int.zero_mul, Int.add_zero]
            omega)
          rw [show 99999 - NN T n + NN T n + 1 = 100000 by omega] at z1
          have z1' : lpN BMo_inline_126 100000 (a, Int32.ofNat D, Int32.ofNat (D + 2), Int32.ofNat s, 0, Int32.ofNat (n - (EK T n s - SK T n (D - 1))), Int32.ofNat wl, 0, r') = _ := z1
          rw [← hLl] at z2
          rw [z1']
          unfold BMo_inline_126
          dsimp only
          rw [m3, if_pos (show Int32.ofNat (NN T n) ≤ Int32.ofNat (NN T n) by rw [i_le]; omega)]
          by_cases c4 : L.length ≤ 240
          · rw [if_pos (show v' ≤ 240 by rw [i_le, z2, n240]; omega), if_pos (show Int32.ofNat (n - (EK T n s - SK T n (D - 1))) + Int32.ofNat (cnt sel (NN T n)) * (Int32.ofNat (wl + 2) - Int32.ofNat dl) ≤ 240 by rw [i_le, t4, n240]; omega)]
            have hLlen : SK T n (D - 1) + (rnL T n (SK T n) (EK T n) sel (wrL T (SK T n (D + 2)) (EK T n (s - 1))) (NN T n - (s + 1)) (s + 1) (EK T n s)).length ≤ 240 := by
              rw [hL, List.length_append, piece_len] at c4
              exact c4
            -- the desk's new text
            have hb0 : TL (b.1, va_up (va_up b.2 2 0) 3 0) [] := ⟨rfl, by decide, fun i hi => absurd hi (Nat.not_lt_zero _), fun x hx => absurd hx List.not_mem_nil⟩
            obtain ⟨b1, p1, p2, p3⟩ := addPieceD (a := 0) (e := SK T n (D - 1)) h3.1 hb0 (Nat.zero_le _) (by omega) (by show 0 + _ ≤ 240; omega)
            have p1' : f_Te_addPiece 0 (Int32.ofNat (SK T n (D - 1))) (b.1, va_up (va_up b.2 2 0) 3 0) d' = some (b1, d') := p1
            have hsels : sel s = false := by
              cases hh : sel s with
              | false => rfl
              | true => have := hsg s hsN hh; omega
            have hrn : rnL T n (SK T n) (EK T n) sel (wrL T (SK T n (D + 2)) (EK T n (s - 1))) (NN T n - s) s (EK T n s) = rnL T n (SK T n) (EK T n) sel (wrL T (SK T n (D + 2)) (EK T n (s - 1))) (NN T n - (s + 1)) (s + 1) (EK T n s) := by
              rw [show NN T n - s = (NN T n - (s + 1)) + 1 by omega]
              show (if sel s then _ else _) = _
              rw [hsels]; rfl
            obtain ⟨b', k1, k2, k3⟩ := ciD (D := D) (s0 := s) (sel := sel) (sm := Int32.ofNat s) (b := (b.1, va_up (va_up b.2 2 0) 3 0)) h3.1 hS hN hen h3.2.1.1.1 (fun q q1 q2 => ⟨(a67 q q2).1, (a67 q q2).2, by
              rw [hs14 q q2, hsa, hsel]
              exact ⟨fun h => ⟨h, by omega⟩, fun h => h.1⟩⟩) hee n1' (NN T n - s) s (EK T n s) b1 ([] ++ piece T 0 (SK T n (D - 1) - 0)) (99999 - (NN T n - s)) rfl (by omega) (Nat.le_refl _) n0' (fun q q1 q2 hh => (hS.lt (hsg q q2 hh) q2).1) p2 p3 (by
              rw [hrn]
              show (piece T 0 (SK T n (D - 1))).length + _ ≤ 240
              rw [piece_len]; exact hLlen)
            rw [show 99999 - (NN T n - s) + (NN T n - s) + 1 = 100000 by omega] at k1
            have k1' : f_Dr_copyInlined (Int32.ofNat D) b d' = some (b', d') := by
              unfold f_Dr_copyInlined
              rw [s1, Option.bind_some]
              simp only [firstE (d := d') (show D ≤ 300 by omega), Option.bind_some, is, is1, id1, id2, w1, w2, ↓reduceIte, o_nat (show s < 2147483648 by omega), o_nat (show s - 1 < 2147483648 by omega), o_nat (show D - 1 < 2147483648 by omega), o_nat (show D + 2 < 2147483648 by omega), (a67 (D - 1) (by omega)).1, p1', (a67 s hsN).2, (a67 (s - 1) (by omega)).2, (a67 (D + 2) (by omega)).1]
              exact k1
            have k2' : TL b' L := by
              rw [hrn] at k2
              rw [hL]; exact k2
            have b2 : b'.2 2 = 0 := (k3.2 2 (by decide)).trans rfl
            -- the model's
            obtain ⟨r1, p1, p2, p3, p4, p5, p6, p7⟩ := keepM hn hN m1 m3
            have hX1 : TxM T n r1 := ⟨(p6 1 (by decide)).trans m1, hn, fun i hi => by rw [p4 2 (by decide) (by decide)]; exact h4.1.2.2.1 i hi, by rw [p7]; exact h4.1.2.2.2⟩
            have h671 : U67 (NN T n) D (SK T n) (EK T n) sel r1 := fun q hq => by
              rw [p4 6 (by decide) (by decide), p4 7 (by decide) (by decide), p4 9 (by decide) (by decide), p4 10 (by decide) (by decide)]
              exact h67m q hq
            obtain ⟨r2, s91, s92, s93⟩ := unfM (T := T) (sel := sel) hN hS hen l7 (show D + 3 ≤ s by omega) hsN hsg hX1 ((p6 3 (by decide)).trans m3) h671 (by rw [← hL]; exact c4)
            rw [← hL] at s91 s92
            obtain ⟨r3, t1, t2, t3, t4, t5, t6⟩ := becomeM s92 c4
            have hX3 : TxM (tL L) L.length r3 := ⟨t3, c4, fun i hi => ⟨t2 i hi, (k2'.tx.2.2 i hi).2⟩, by rw [t6, s93.2]; exact hX1.2.2.2⟩
            obtain ⟨cs2, l2, t, r4, q1, q2, q3, q4, q5, q6⟩ := again k2' b2 hX3
            have f3 : r4.1 3 = r1.1 3 := by rw [q6.1 3 (by omega), t4 3 (by decide), s93.1 3 (by decide)]
            have f36 : r4.1 36 = r'.1 36 := by rw [q6.1 36 (by omega), t4 36 (by decide), s93.1 36 (by decide), p4 36 (by decide) (by decide)]
            have fI : ∀ i, (i < 3 ∨ 11 ≤ i) → i ≠ 1 → i ≠ 2 → r4.2.1 i = r'.2.1 i := fun i x y z => by rw [q6.2.1 i x, t5 i y, s93.2, p6 i z]
            have f2 : r4.2.1 2 = Int32.ofNat n := by rw [q6.2.1 2 (by omega), t5 2 (by decide), s93.2, p5]
            have f0 : r4.2.1 0 = 0 := (fI 0 (by omega) (by decide) (by decide)).trans h6
            rw [k1', Option.bind_some, p1, Option.bind_some]
            dsimp only
            rw [s91, t1, Option.bind_some, q1, q2, Option.bind_some, Option.bind_some]
            have gd : t.2 1 = Int32.ofNat l2.length := q3.2.2.2.2.1.1
            have gm : r4.2.1 5 = Int32.ofNat l2.length := q4.2.2.2.2.1.1
            have hl2 := q3.2.2.2.2.2.2.1
            by_cases c5 : l2.length = 0
            · rw [if_pos (show t.2 1 ≤ 0 by rw [gd, c5]; decide), if_pos (show r4.2.1 5 = 0 by rw [gm, c5]; rfl)]
              simp (decide := true) only [↓reduceIte, Option.bind_some]
              refine ⟨_, _, _, rfl, rfl, rfl, f0, fun _ => lgc, ?_⟩
              refine ⟨tr_of q3.1 q4.1, mr_of h5.2.1 ?_ ?_ f36, q4.1.2.2.2, Or.inr ⟨q5, _, _, _, _, q3⟩⟩
              · exact fI 16 (by omega) (by decide) (by decide)
              · exact fI 17 (by omega) (by decide) (by decide)
            · obtain ⟨r5, u1, u2, u3, u4, u5, u6, u7⟩ := takeM (a := 3) hn f2
              have hX5 : TxM T n r5 := ⟨u3, hn, fun i hi => by
                rw [u2 i hi, f3, p2 i hi]; exact h4.1.2.2.1 i hi, by rw [u7]; exact q4.1.2.2.2⟩
              have hR5 : ∀ t', Rel An k d' t' r5 := fun t' => by
                refine ⟨tr_of h3.1 hX5, mr_of h5.2.1 ?_ ?_ ?_, hX5.2.2.2, h5.2.2.2⟩
                · rw [u6 16 (by decide) (by decide)]; exact fI 16 (by omega) (by decide) (by decide)
                · rw [u6 17 (by decide) (by decide)]; exact fI 17 (by omega) (by decide) (by decide)
                · rw [u5 36 (by decide)]; exact f36
              rw [if_neg (show ¬ t.2 1 ≤ 0 by rw [gd, i_le, onat (by omega), n0]; omega), if_neg (show ¬ r4.2.1 5 = 0 by rw [gm, i_eq, onat (by omega), n0]; omega), u1, Option.bind_some]
              simp (decide := true) only [↓reduceIte, Option.bind_some]
              exact ⟨_, _, _, rfl, rfl, rfl, u4, fun h => absurd (show (3 : Int32) = 0 from h) (by decide), hR5 t⟩
          · rw [if_neg (show ¬ v' ≤ 240 by rw [i_le, z2, n240]; omega), if_neg (show ¬ Int32.ofNat (n - (EK T n s - SK T n (D - 1))) + Int32.ofNat (cnt sel (NN T n)) * (Int32.ofNat (wl + 2) - Int32.ofNat dl) ≤ 240 by rw [i_le, t4, n240]; omega)]
            unfold f_Mo_fails
            simp (decide := true) only [↓reduceIte, Option.bind_some]
            exact ⟨_, _, _, rfl, rfl, rfl, rfl, fun h => absurd h ne10, h5.code⟩
      · rw [if_neg (fun h => c3 (sw3.mp h)), if_neg (fun h => c3 (o3.mp h))]
        unfold f_Mo_fails
        simp (decide := true) only [↓reduceIte, Option.bind_some]
        exact ⟨_, _, _, rfl, rfl, rfl, rfl, fun h => absurd (show (2 : Int32) = 0 from h) (by decide), h5.code⟩
  · rw [if_neg (show ¬ d'.2 1 ≤ 0 by rw [fd, i_le, onat (by omega), n0]; omega), if_neg (show ¬ r'.2.1 5 ≤ 0 by rw [fm, i_le, onat (by omega), n0]; omega)]
    unfold f_Mo_fails
    simp (decide := true) only [↓reduceIte, Option.bind_some]
    exact ⟨_, _, _, rfl, rfl, rfl, rfl, fun h => absurd h ne10, h5.code⟩
