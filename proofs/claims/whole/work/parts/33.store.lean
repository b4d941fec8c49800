/-! let and assignment -/
theorem store_ok {cl nm : Nat → Nat} {N f m : Nat} {c0 : Cds} (hK : TK cl nm N) (hm40 : cl m ≠ 40) {d : DS} {j s rl st : Nat} {ρ γ : Nat → Nat} {c : Cds} {V V2 : VS} {a1 : Int32} (hA : aut cl nm f c0 j = some (st, [], ρ, γ, c, V)) (h13 : st ≠ 13) (hno : j < m → cl j ≠ 200 → stp cl nm f j (st, [], ρ, γ, c, V) = none) (hyes : cl j = 200 → stp cl nm f j (st, [], ρ, γ, c, V) = some (8, [], upN ρ j rl, γ, c, V2)) (hG : GTk cl nm N f m d j [] ρ γ) (hC : CD d c) (hs : c.length + s ≤ j) (hV : VD f m d j c V) (hbl : V.1 ≠ []) (h1 : V2.1 = V.1) (h2 : V2.2.1 = 59) (h3 : V2.2.2.2.2.1 = (2, Int32.ofNat j)) (h4 : V2.2.2.2.2.2.1 = V.2.2.2.2.2.1) (h5 : V2.2.2.2.2.2.2.2 = V.2.2.2.2.2.2.2) (hcase : rl = 4 ∧ a1 = 5 ∧ V2.2.2.1 = 0 ∧ V2.2.2.2.2.2.2.1 = V.2.2.2.2.2.2.1 ∨ rl = 3 ∧ a1 = 3 ∧ V2.2.2.1 = j + 1 ∧ V2.2.2.2.2.2.2.1 = upN V.2.2.2.2.2.2.1 j (V.1.headD (0, 0, 0)).1) : ∃ (q : Int32) (d' : DS), f_Gr_readStore a1 d = some (q, d') ∧ FrS f d d' ∧ (q = 1 ∧ Sg cl nm N f m c0 s d' j ∨ q = 0 ∧ Bd cl nm N f m c0 d') := by
  have hN := hK.1
  obtain ⟨hT, hfj, hjm, hmN, h7, h8, -⟩ := id hG
  have ha : a1 = Int32.ofNat (sw rl) := by
    rcases hcase with ⟨rfl, rfl, -⟩ | ⟨rfl, rfl, -⟩ <;> rfl
  have hrl : rl ≠ 6 := by
    rcases hcase with ⟨rfl, -⟩ | ⟨rfl, -⟩ <;> omega
  unfold f_Gr_readStore
  by_cases hn : j < m ∧ cl j = 200
  · rw [tn_yes (a1 := a1) hK hT h7 h8 hmN hn.1 hn.2, Option.bind_some]
    dsimp only
    rw [if_neg ne10]
    have hA1 : aut cl nm f c0 (j + 1) = some (8, [], upN ρ j rl, γ, c, V2) := (aut_g hfj hA).trans (hyes hn.2)
    have hG1 := hG.nm hn.1 ha hrl
    have hC1 : CD (va_up d.1 13 (upd (d.1 13) j a1), va_up d.2 7 (Int32.ofNat (j + 1))) c := hC.cg rfl rfl rfl
    have fr1 : FrE f d (va_up d.1 13 (upd (d.1 13) j a1), va_up d.2 7 (Int32.ofNat (j + 1))) := ⟨fun i h _ _ _ => up_ne h, fun i _ h => up_ne h, fun k hk => ⟨ud_ne (by omega), rfl⟩⟩
    obtain ⟨hT1, hfj1, hjm1, -, h71, h81, -⟩ := id hG1
    by_cases h61 : j + 1 < m ∧ cl (j + 1) = 61
    · rw [ts_yes (a1 := 61) (t := 61) hK hT1 h71 h81 hmN rfl h61.1 h61.2 (by omega) (by omega), Option.bind_some]
      dsimp only
      rw [if_neg ne10]
      have hA2 : aut cl nm f c0 (j + 1 + 1) = some (9, [(0, 0, 0, [])], upN ρ j rl, γ, c, V2) := by
        rw [aut_g hfj1 hA1]
        unfold stp
        dsimp only
        rw [if_neg (by omega), if_neg (by omega), if_neg (by omega), if_pos rfl, if_pos h61.2]
      obtain ⟨q, d1, e1, e2, e3⟩ := E_ok (c0 := c0) hK hm40 (nx (va_up d.1 13 (upd (d.1 13) j a1), va_up d.2 7 (Int32.ofNat (j + 1))) (j + 1 + 1)) (j + 1 + 1) 9 0 0 0 [] [] (upN ρ j rl) γ c V2 (s + 1) rfl (Or.inl rfl) (fun t h => absurd h List.not_mem_nil) (fun _ => rfl) hA2 (hG1.nx h61.1 (fun k _ h => absurd h List.not_mem_nil)) (hC1.cg rfl rfl rfl) (by omega)
      have e1' : E (0, nx (va_up d.1 13 (upd (d.1 13) j a1), va_up d.2 7 (Int32.ofNat (j + 1))) (j + 1 + 1)) = some (q, d1) := e1
      rw [e1', Option.bind_some]
      dsimp only
      have fr2 := (fr1.tr FrE.nx).tr e2
      rcases e3 with ⟨rfl, j', st', le', o', ρ', γ', c', g1, g2, g3, g4, g5, g6, g7, g8, g9⟩ | ⟨rfl, hB⟩
      · rw [if_neg ne10]
        rw [List.append_nil, if_neg (show ¬ (9 : Nat) = 10 by omega)] at g3
        obtain ⟨hT4, hfj4, hjm4, -, h74, h84, -⟩ := id g4
        have hlen : c'.length + (oi o').length = (c' ++ oi o').length := by rw [List.length_append]
        rw [oi_len] at hlen
        by_cases h59 : j' < m ∧ cl j' = 59
        · rw [ts_yes (a1 := 59) (t := 59) hK hT4 h74 h84 hmN rfl h59.1 h59.2 (by omega) (by omega), Option.bind_some]
          dsimp only
          rw [if_neg ne10]
          have hx : aut cl nm f c0 (j' + 1) = some (6, [], ρ', γ', c' ++ oi o' ++ [(2, Int32.ofNat j)], V2.1, V2.2.1, 0, V2.2.2.2.1, V2.2.2.2.2.1, V2.2.2.2.2.2.1, V2.2.2.2.2.2.2.1, (if V2.2.2.1 = 0 then V2.2.2.2.2.2.2.2.1 else upN V2.2.2.2.2.2.2.2.1 (V2.2.2.1 - 1) (j' + 1)), V2.2.2.2.2.2.2.2.2) := by
            rw [aut_g hfj4 g3, stp_opr g2 (by omega)]
            unfold xOpr
            rw [h59.2, if_neg (by omega), if_neg (by omega), if_pos rfl]
            unfold xEnd
            rw [if_pos h2.symm, if_neg (by omega), h3]
          have hgw : Gw c (c' ++ oi o' ++ [(2, Int32.ofNat j)]) := by
            have := aut_gw (j' + 1 - j) j _ _ hfj hA (by rw [show j + (j' + 1 - j) = j' + 1 by omega]; exact hx)
            exact this
          have hV1 := hV.fe (fr2.tr (FrE.nx (j := j' + 1))) hgw (show j ≤ j' + 1 by omega)
          have hC4 : CD (nx d1 (j' + 1)) (c' ++ oi o') := g5.cg rfl rfl rfl
          have hG4 := g4.nx h59.1 (cs' := []) (fun k h => no0 h)
          obtain ⟨B0, B, hB⟩ : ∃ B0 B, V.1 = B0 :: B := by
            cases hv : V.1 with
            | nil => exact absurd hv hbl
            | cons a b => exact ⟨a, b, rfl⟩
          rcases hcase with ⟨rfl, rfl, q1, q2⟩ | ⟨rfl, rfl, q1, q2⟩
          · rw [if_neg (show ¬ (5 : Int32) = 3 by decide), h7]
            obtain ⟨d2, k1, k2, k3⟩ := cd_add (a := 2) (b := Int32.ofNat j) hC4 (by rw [← hlen]; omega)
            rw [k1, Option.bind_some]
            rw [if_pos q1] at hx
            refine ⟨1, d2, rfl, (FrS.fe fr2).tr (FrS.fe (FrE.nx.tr (FrE.fc k3))), Or.inl ⟨rfl, j' + 1, 6, ρ', γ', _, _, by omega, hx, Or.inl ⟨rfl, by rw [h1]; exact hbl⟩, hG4.fc k3, k2, ?_, ?_⟩⟩
            · rw [lenc, ← hlen]; omega
            · obtain ⟨v1, v2, v3, v4, v5, v6, v7, v8, v9⟩ := hV1.fe (FrE.fc k3) Gw.rf (Nat.le_refl _)
              unfold VD
              dsimp only
              rw [h1, h4, h5, q2]
              exact ⟨v1, v2, v3, v4, v5, v6, v7, v8, v9⟩
          · have h94 : (nx d1 (j' + 1)).2 9 = Int32.ofNat (B.length + 1) := by
              rw [hV1.1, hB]; rfl
            have hb4 := hV.2.1
            rw [hB, List.length_cons] at hb4
            have e9 : (nx d1 (j' + 1)).2 9 - 1 = Int32.ofNat B.length := by
              rw [h94]
              exact o_sub (a := B.length + 1) (b := 1) (by omega)
            have hop : (nx d1 (j' + 1)).1 24 B.length = Int32.ofNat B0.1 := by
              have := hV1.2.2.1
              rw [hB] at this
              exact this.1
            rw [if_pos rfl, if_neg (show ¬ (nx d1 (j' + 1)).2 9 ≤ 0 by rw [h94, i_le, onat (by omega), n0]; omega), e9, if_pos (o_inb (by omega) (by omega)), h7, if_pos (o_inb (show j < 240 by omega) (by omega)), if_pos (o_inb (show j < 240 by omega) (by omega)), o_nat (by omega), o_nat (by omega), hop]
            have e7 : va_up d1.2 7 (Int32.ofNat (j' + 1)) 7 = Int32.ofNat (j' + 1) := rfl
            rw [e7]
            obtain ⟨d2, k1, k2, k3⟩ := cd_add (a := 2) (b := Int32.ofNat j) (d := (va_up (va_up (nx d1 (j' + 1)).1 16 (upd ((nx d1 (j' + 1)).1 16) j (Int32.ofNat B0.1))) 17 (upd ((nx d1 (j' + 1)).1 17) j (Int32.ofNat (j' + 1))), (nx d1 (j' + 1)).2)) (c := c' ++ oi o') (hC4.cg rfl rfl rfl) (by rw [← hlen]; omega)
            rw [k1, Option.bind_some]
            rw [q1, if_neg (by omega), Nat.add_sub_cancel] at hx
            have fr5 : FrS f (nx d1 (j' + 1)) (va_up (va_up (nx d1 (j' + 1)).1 16 (upd ((nx d1 (j' + 1)).1 16) j (Int32.ofNat B0.1))) 17 (upd ((nx d1 (j' + 1)).1 17) j (Int32.ofNat (j' + 1))), (nx d1 (j' + 1)).2) := ⟨fun i _ a b _ _ _ _ _ _ _ => (up_ne b).trans (up_ne a), fun _ _ _ _ => rfl, fun k hk => ⟨rfl, ud_ne (by omega), ud_ne (by omega), rfl, rfl⟩⟩
            have hG5 : GTk cl nm N f m (va_up (va_up (nx d1 (j' + 1)).1 16 (upd ((nx d1 (j' + 1)).1 16) j (Int32.ofNat B0.1))) 17 (upd ((nx d1 (j' + 1)).1 17) j (Int32.ofNat (j' + 1))), (nx d1 (j' + 1)).2) (j' + 1) [] ρ' γ' := by
              obtain ⟨w1, w2, w3, w4, w5, w6, w7, w8, w9⟩ := hG4
              exact ⟨w1.cg rfl rfl rfl, w2, w3, w4, w5, w6, w7, w8, w9⟩
            refine ⟨1, d2, rfl, ((FrS.fe (fr2.tr FrE.nx)).tr fr5).tr (FrS.fe (FrE.fc k3)), Or.inl ⟨rfl, j' + 1, 6, ρ', γ', _, _, by omega, hx, Or.inl ⟨rfl, by rw [h1]; exact hbl⟩, hG5.fc k3, k2, ?_, ?_⟩⟩
            · rw [lenc, ← hlen]; omega
            · have hV5 : VD f m (va_up (va_up (nx d1 (j' + 1)).1 16 (upd ((nx d1 (j' + 1)).1 16) j (Int32.ofNat B0.1))) 17 (upd ((nx d1 (j' + 1)).1 17) j (Int32.ofNat (j' + 1))), (nx d1 (j' + 1)).2) (j' + 1) (c' ++ oi o' ++ [(2, Int32.ofNat j)]) (V2.1, V2.2.1, 0, V2.2.2.2.1, V2.2.2.2.2.1, V2.2.2.2.2.2.1, V2.2.2.2.2.2.2.1, upN V2.2.2.2.2.2.2.2.1 j (j' + 1), V2.2.2.2.2.2.2.2.2) := by
                obtain ⟨v1, v2, v3, v4, v5, v6, v7, v8, v9⟩ := hV1
                have vj := hV.2.2.2.2.2.2.2.1
                have v4' := hV.2.2.2.1
                unfold VD
                dsimp only
                rw [h1, h4, h5, q2]
                refine ⟨v1, v2, v3.cg (fun i _ => ⟨rfl, rfl, rfl⟩) Gw.rf, fun k hk => ?_, v5, fun i hi => ?_, v7, by omega, by omega⟩
                · show f ≤ k ∧ upd ((nx d1 (j' + 1)).1 16) j (Int32.ofNat B0.1) k = _ ∧ upd ((nx d1 (j' + 1)).1 17) j (Int32.ofNat (j' + 1)) k = _
                  by_cases hkj : k = j
                  · subst hkj
                    rw [ud_eq, ud_eq, uN_eq, uN_eq, hB]
                    exact ⟨by omega, rfl, rfl⟩
                  · rw [uN_ne hkj] at hk
                    rw [ud_ne hkj, ud_ne hkj, uN_ne hkj, uN_ne hkj]
                    exact v4 k hk
                · show upd ((nx d1 (j' + 1)).1 16) j (Int32.ofNat B0.1) (f + 3 + 2 * i) = _ ∧ upd ((nx d1 (j' + 1)).1 17) j (Int32.ofNat (j' + 1)) (f + 3 + 2 * i) = _
                  rw [ud_ne (by omega), ud_ne (by omega)]
                  exact v6 i hi
              exact hV5.fe (FrE.fc k3) Gw.rf (Nat.le_refl _)
        · rw [ts_no (a1 := 59) (t := 59) hK hT4 h74 h84 hmN hjm4 rfl (by omega) h59, Option.bind_some]
          dsimp only
          rw [if_pos rfl]
          exact ⟨0, d1, rfl, FrS.fe fr2, Or.inr ⟨rfl, Bd.at g3 (by omega) g4 g5 (by rw [← hlen]; omega) (fun h => opr_none g2 g9 h (fun h1 => absurd rfl h1) (fun h1 => absurd rfl h1) (fun _ h1 => h59 ⟨h, by rw [h1]; exact h2⟩))⟩⟩
      · rw [if_pos rfl]
        exact ⟨0, d1, rfl, FrS.fe fr2, Or.inr ⟨rfl, hB⟩⟩
    · rw [ts_no (a1 := 61) (t := 61) hK hT1 h71 h81 hmN hjm1 rfl (by omega) h61, Option.bind_some]
      dsimp only
      rw [if_pos rfl]
      refine ⟨0, _, rfl, FrS.fe fr1, Or.inr ⟨rfl, Bd.at hA1 (by omega) hG1 hC1 (by omega) (fun h => ?_)⟩⟩
      unfold stp
      dsimp only
      rw [if_neg (by omega), if_neg (by omega), if_neg (by omega), if_pos rfl, if_neg (fun h1 => h61 ⟨h, h1⟩)]
  · rw [tn_no (a1 := a1) hK hT h7 h8 hmN hjm hn, Option.bind_some]
    dsimp only
    rw [if_pos rfl]
    exact ⟨0, d, rfl, FrS.rf, Or.inr ⟨rfl, Bd.at hA h13 hG hC (by omega) (fun h => hno h (fun h1 => hn ⟨h, h1⟩))⟩⟩
theorem isFn_ok {cl nm : Nat → Nat} {N k : Nat} {d : DS} (hK : TK cl nm N) (hT : DTok cl nm N d) (hk : k < N) : f_To_isFn (Int32.ofNat k) d = some (if cl k = 400 then 1 else 0, d) := by
  have hN := hK.1
  obtain ⟨t4, -, -, t7⟩ := hT.2 k hk
  have hc := hK.2.1 k
  have hkl := kk_le (cl k)
  have q1 : (Int32.ofNat (kk (cl k)) = 1) = (kk (cl k) = 1) := o_eq (b := 1) (by omega) (by omega)
  unfold f_To_isFn
  rw [if_pos (o_inb (by omega) (by omega)), if_pos (o_inb (by omega) (by omega)), o_nat (by omega), t4]
  by_cases h1 : kk (cl k) = 1
  · have h1' := kk_1.mp h1
    rw [if_pos (by rw [q1]; exact h1), t7 (by omega)]
    by_cases h4 : cl k = 400
    · rw [if_pos h4, h4, if_pos (show Int32.ofNat (400 - 400) = 0 from rfl)]
    · rw [if_neg h4, if_neg (by intro h; have := (o_eq (b := 0) (by omega) (by omega)).mp h; omega)]
  · rw [if_neg (by rw [q1]; exact h1), if_neg (fun h => h1 (kk_1.mpr (by omega)))]
theorem stmt_ok {cl nm : Nat → Nat} {N f m : Nat} {c0 : Cds} (hK : TK cl nm N) (hm40 : cl m ≠ 40) {d : DS} {j s : Nat} {ρ γ : Nat → Nat} {c : Cds} {V : VS} (hA : aut cl nm f c0 j = some (6, [], ρ, γ, c, V)) (hG : GTk cl nm N f m d j [] ρ γ) (hC : CD d c) (hs : c.length + s ≤ j) (hV : VD f m d j c V) (hbl : V.1 ≠ []) : ∃ (q : Int32) (d' : DS), f_Gr_readStatement d = some (q, d') ∧ FrS f d d' ∧ (q = 1 ∧ Sg cl nm N f m c0 s d' j ∨ q = 0 ∧ Bd cl nm N f m c0 d') := by
  have hN := hK.1
  obtain ⟨hT, hfj, hjm, hmN, h7, h8, -⟩ := id hG
  have h6 : stp cl nm f j (6, [], ρ, γ, c, V) = xSt j (cl j) ρ γ c V := by
    unfold stp
    dsimp only
    rw [if_neg (by omega), if_pos rfl]
  have hA1 : aut cl nm f c0 (j + 1) = xSt j (cl j) ρ γ c V := (aut_g hfj hA).trans h6
  unfold f_Gr_readStatement
  by_cases h125 : j < m ∧ cl j = 125
  · obtain ⟨⟨o, te, ag⟩, B, hB⟩ : ∃ B0 B, V.1 = B0 :: B := by
      cases hv : V.1 with
      | nil => exact absurd hv hbl
      | cons a b => exact ⟨a, b, rfl⟩
    rw [ts_yes (a1 := 125) (t := 125) hK hT h7 h8 hmN rfl h125.1 h125.2 (by omega) (by omega), Option.bind_some]
    dsimp only
    rw [if_neg ne10]
    obtain ⟨v1, v2, v3, v4, v5, v6, v7, v8, v9⟩ := id hV
    rw [hB] at v1 v2 v3
    obtain ⟨b1, b2, b3, b4, b5, b6, b7, b8⟩ := v3
    rw [List.length_cons] at v1 v2
    obtain ⟨d2, k1, k2, k3, k4, k5, k6⟩ := close_ok (d := nx d (j + 1)) (c := c) (j := j) (o := o) (te := te) (ag := ag) (n := B.length) (hC.cg rfl rfl rfl) (by omega) rfl v1 (by omega) b1 b5 b2 b3 b7 b6
    rw [k1, Option.bind_some]
    have hx : aut cl nm f c0 (j + 1) = some (if B = [] then 13 else 6, [], ρ, γ, (if te = 0 then c ++ (if ag = 0 then [] else [(6, Int32.ofNat (ag - 1))]) else (c ++ (if ag = 0 then [] else [(6, Int32.ofNat (ag - 1))])).set (te - 1) (4, Int32.ofNat (c ++ (if ag = 0 then [] else [((6 : Int32), Int32.ofNat (ag - 1))])).length)), B, V.2.1, V.2.2.1, V.2.2.2.1, V.2.2.2.2.1, V.2.2.2.2.2.1, V.2.2.2.2.2.2.1, V.2.2.2.2.2.2.2.1, upN V.2.2.2.2.2.2.2.2 o j) := by
      rw [hA1, h125.2]
      unfold xSt
      rw [if_neg (by omega), if_pos rfl, hB]
    have hgw := aut_gw 1 j _ _ hfj hA hx
    dsimp only at hgw
    have fr : FrS f d d2 := by
      refine ⟨fun i _ _ _ a _ b c _ _ _ => k3 i a b c, fun i a b c => (k5 i a c).trans (up_ne b), fun k hk => ⟨congrFun (k3 13 (by decide) (by decide) (by decide)) k, congrFun (k3 16 (by decide) (by decide) (by decide)) k, congrFun (k3 17 (by decide) (by decide) (by decide)) k, ?_, congrFun (k3 19 (by decide) (by decide) (by decide)) k⟩⟩
      rw [k4]
      have b4' : f + 2 < o := b4
      exact ud_ne (by omega)
    refine ⟨1, d2, rfl, fr, Or.inl ⟨rfl, j + 1, _, ρ, γ, _, _, by omega, hx, ?_, ?_, k2, ?_, ?_⟩⟩
    · by_cases hz : B = []
      · rw [if_pos hz]; exact Or.inr ⟨rfl, hz⟩
      · rw [if_neg hz]; exact Or.inl ⟨rfl, hz⟩
    · obtain ⟨w1, w2, w3, w4, w5, w6, w7, w8, w9⟩ := hG.nx h125.1 (cs' := []) (fun k h => h)
      refine ⟨w1.cg (k5 4 (by decide) (by decide)) (k3 4 (by decide) (by decide) (by decide)) (k3 5 (by decide) (by decide) (by decide)), w2, w3, w4, (k5 7 (by decide) (by decide)).trans w5, (k5 8 (by decide) (by decide)).trans w6, ?_, w8, ?_⟩
      · rw [k3 13 (by decide) (by decide) (by decide)]; exact w7
      · rw [k3 19 (by decide) (by decide) (by decide)]; exact w9
    · have : (c ++ (if ag = 0 then [] else [((6 : Int32), Int32.ofNat (ag - 1))])).length ≤ c.length + 1 := by
        rw [List.length_append]
        split <;> simp
      split
      · omega
      · rw [List.length_set]; omega
    · have b4' : f + 2 < o := b4
      have b5' : o < 240 := b5
      refine ⟨k6, by show B.length ≤ 4; omega, b8.cg (fun i _ => ?_) hgw, fun k hk => ?_, fun k hk => ?_, fun i hi => ?_, ?_, ?_, ?_⟩
      · rw [k3 24 (by decide) (by decide) (by decide), k3 25 (by decide) (by decide) (by decide), k3 26 (by decide) (by decide) (by decide)]
        exact ⟨rfl, rfl, rfl⟩
      · rw [k3 16 (by decide) (by decide) (by decide), k3 17 (by decide) (by decide) (by decide)]
        exact v4 k hk
      · rw [k4]
        show f ≤ k ∧ upd (d.1 18) o (Int32.ofNat j) k = Int32.ofNat (upN V.2.2.2.2.2.2.2.2 o j k)
        by_cases hk2 : k = o
        · subst hk2
          rw [ud_eq, uN_eq]
          exact ⟨by omega, rfl⟩
        · have hk3 : V.2.2.2.2.2.2.2.2 k ≠ 0 := by
            have : upN V.2.2.2.2.2.2.2.2 o j k ≠ 0 := hk
            rw [uN_ne hk2] at this
            exact this
          rw [ud_ne hk2, uN_ne hk2]
          exact v5 k hk3
      · rw [k3 16 (by decide) (by decide) (by decide), k3 17 (by decide) (by decide) (by decide)]
        exact v6 i hi
      · rw [k4]
        exact (ud_ne (by omega)).trans v7
      · show f + 3 + 2 * V.2.2.2.2.2.1 ≤ j + 1
        omega
      · omega
  · rw [ts_no (a1 := 125) (t := 125) hK hT h7 h8 hmN hjm rfl (by omega) h125, Option.bind_some]
    dsimp only
    rw [if_pos rfl]
    by_cases hj : j < m
    · rw [if_pos (show (d.2 7 : Int32) < d.2 8 by rw [h7, h8, o_lt (by omega) (by omega)]; exact hj)]
      obtain ⟨t4, -, -, t7⟩ := hT.2 j (by omega)
      have hkl := kk_le (cl j)
      have hc := hK.2.1 j
      have ib : inb (Int32.ofNat j) 240 = true := o_inb (by omega) (by omega)
      have q2 : (Int32.ofNat (kk (cl j)) = 2) = (kk (cl j) = 2) := o_eq (b := 2) (by omega) (by omega)
      have q1 : (Int32.ofNat (kk (cl j)) = 1) = (kk (cl j) = 1) := o_eq (b := 1) (by omega) (by omega)
      have hfn := isFn_ok hK hT (show j < N by omega)
      simp only [h7, ib, ↓reduceIte, o_nat (show j < 2147483648 by omega), t4, q2, q1, hfn, Option.bind_some]
      by_cases h200 : cl j = 200
      · rw [if_pos (kk_2.mpr h200)]
        obtain ⟨q, d', e1, e2, e3⟩ := store_ok hK hm40 (a1 := 5) (rl := 4) (s := s) (V2 := (V.1, 59, 0, 0, (2, Int32.ofNat j), V.2.2.2.2.2)) hA (by omega) (fun _ h => absurd h200 h) (fun _ => by
          rw [h6, h200]
          unfold xSt
          rw [if_neg (by omega), if_neg (by omega), if_pos rfl]) hG hC hs hV hbl rfl rfl rfl rfl rfl (Or.inl ⟨rfl, rfl, rfl, rfl⟩)
        rw [e1, Option.bind_some]
        rcases e3 with ⟨rfl, h⟩ | ⟨rfl, h⟩
        · exact ⟨1, d', rfl, e2, Or.inl ⟨rfl, h⟩⟩
        · exact ⟨0, d', rfl, e2, Or.inr ⟨rfl, h⟩⟩
      · rw [if_neg (fun h => h200 (kk_2.mp h))]
        by_cases hkw : 400 ≤ cl j
        · rw [if_pos (kk_1.mpr (by omega))]
          have hGn := hG.nx hj (cs' := []) (fun k h => h)
          have hCn : CD (nx d (j + 1)) c := hC.cg rfl rfl rfl
          have hVn : VD f m (nx d (j + 1)) (j + 1) c V := hV.fe FrE.nx Gw.rf (by omega)
          have hGn0 := hG.nx hj (cs' := [0]) (fun k _ h => absurd h List.not_mem_nil)
          have hd7 : (d.1, va_up d.2 7 (Int32.ofNat j + 1)) = nx d (j + 1) := by rw [onat1 (by omega)]
          by_cases h400 : cl j = 400
          · simp only [h400, ↓reduceIte, ne10]
            refine ⟨0, d, rfl, FrS.rf, Or.inr ⟨rfl, Bd.at hA (by omega) hG hC (by omega) (fun _ => ?_)⟩⟩
            rw [h6, h400]
            rfl
          · simp only [h400, ↓reduceIte, t7 hkw, hd7]
            have p1 : (Int32.ofNat (cl j - 400) = 1) = (cl j = 401) := by
              rw [show ((1 : Int32) = Int32.ofNat 1) from rfl, o_eq (by omega) (by omega)]; exact propext (by omega)
            have p2 : (Int32.ofNat (cl j - 400) = 2) = (cl j = 402) := by
              rw [show ((2 : Int32) = Int32.ofNat 2) from rfl, o_eq (by omega) (by omega)]; exact propext (by omega)
            have p3 : (Int32.ofNat (cl j - 400) = 3) = (cl j = 403) := by
              rw [show ((3 : Int32) = Int32.ofNat 3) from rfl, o_eq (by omega) (by omega)]; exact propext (by omega)
            have p4 : (Int32.ofNat (cl j - 400) = 4) = (cl j = 404) := by
              rw [show ((4 : Int32) = Int32.ofNat 4) from rfl, o_eq (by omega) (by omega)]; exact propext (by omega)
            simp only [p1, p2, p3, p4]
            by_cases h401 : cl j = 401
            · simp only [h401, ↓reduceIte]
              have hx : aut cl nm f c0 (j + 1) = some (7, [], ρ, γ, c, V) := by
                rw [hA1, h401]; rfl
              have h77 : stp cl nm f (j + 1) (7, [], ρ, γ, c, V) = xLet (j + 1) (cl (j + 1)) ρ γ c V := by
                unfold stp
                dsimp only
                rw [if_neg (by omega), if_neg (by omega), if_pos rfl]
              obtain ⟨q, d', e1, e2, e3⟩ := store_ok hK hm40 (a1 := 3) (rl := 3) (s := s) (V2 := (V.1, 59, j + 1 + 1, 0, (2, Int32.ofNat (j + 1)), V.2.2.2.2.2.1, upN V.2.2.2.2.2.2.1 (j + 1) (V.1.headD (0, 0, 0)).1, V.2.2.2.2.2.2.2)) hx (by omega) (fun _ h => by
                rw [h77]
                unfold xLet
                rw [if_neg h]) (fun h => by
                rw [h77]
                unfold xLet
                rw [if_pos h]) hGn hCn (by omega) hVn hbl rfl rfl rfl rfl rfl (Or.inr ⟨rfl, rfl, rfl, rfl⟩)
              rw [e1, Option.bind_some]
              have e2' := (FrS.fe FrE.nx).tr e2
              rcases e3 with ⟨rfl, j', st', ρ', γ', c', V', w1, w2⟩ | ⟨rfl, h⟩
              · exact ⟨1, d', rfl, e2', Or.inl ⟨rfl, j', st', ρ', γ', c', V', by omega, w2⟩⟩
              · exact ⟨0, d', rfl, e2', Or.inr ⟨rfl, h⟩⟩
            · by_cases h402 : cl j = 402
              · simp only [h402, ↓reduceIte]
                have hx : aut cl nm f c0 (j + 1) = some (9, [(0, 0, 0, [])], ρ, γ, c, V.1, 123, 0, 0, V.2.2.2.2) := by
                  rw [hA1, h402]; rfl
                obtain ⟨q, d', e1, e2, e3⟩ := test_ok hK hm40 (s := s) (ag := 0) (a2 := -1) hx hGn0 hCn (by omega) hVn rfl rfl (by omega) rfl hbl
                have e2' := (FrS.fe FrE.nx).tr e2
                refine ⟨q, d', e1, e2', ?_⟩
                rcases e3 with ⟨hq, j', st', ρ', γ', c', V', w1, w2⟩ | h
                · exact Or.inl ⟨hq, j', st', ρ', γ', c', V', by omega, w2⟩
                · exact Or.inr h
              · by_cases h403 : cl j = 403
                · simp only [h403, ↓reduceIte]
                  have hx : aut cl nm f c0 (j + 1) = some (9, [(0, 0, 0, [])], ρ, γ, c, V.1, 123, 0, c.length + 1, V.2.2.2.2) := by
                    rw [hA1, h403]; rfl
                  obtain ⟨q, d', e1, e2, e3⟩ := test_ok hK hm40 (s := s) (ag := c.length + 1) (a2 := d.2 6) hx hGn0 hCn (by omega) hVn rfl rfl (by omega) hC.1 hbl
                  have e2' := (FrS.fe FrE.nx).tr e2
                  refine ⟨q, d', e1, e2', ?_⟩
                  rcases e3 with ⟨hq, j', st', ρ', γ', c', V', w1, w2⟩ | h
                  · exact Or.inl ⟨hq, j', st', ρ', γ', c', V', by omega, w2⟩
                  · exact Or.inr h
                · by_cases h404 : cl j = 404
                  · simp only [h404, ↓reduceIte]
                    have hx : aut cl nm f c0 (j + 1) = some (9, [(0, 0, 0, [])], ρ, γ, c, V.1, 59, 0, 0, (7, 0), V.2.2.2.2.2) := by
                      rw [hA1, h404]; rfl
                    obtain ⟨q, d', e1, e2, e3⟩ := use_ok hK hm40 (s := s) (a1 := 7) hx hGn0 hCn (by omega) hVn rfl rfl rfl hbl
                    have e2' := (FrS.fe FrE.nx).tr e2
                    rw [e1, Option.bind_some]
                    rcases e3 with ⟨rfl, j', st', ρ', γ', c', V', w1, w2⟩ | ⟨rfl, h⟩
                    · exact ⟨1, d', rfl, e2', Or.inl ⟨rfl, j', st', ρ', γ', c', V', by omega, w2⟩⟩
                    · exact ⟨0, d', rfl, e2', Or.inr ⟨rfl, h⟩⟩
                  · have h405 : cl j = 405 := by omega
                    simp only [h405, show ¬ (405 : Nat) = 401 by omega, show ¬ (405 : Nat) = 402 by omega, show ¬ (405 : Nat) = 403 by omega, show ¬ (405 : Nat) = 404 by omega, ↓reduceIte]
                    have hx : aut cl nm f c0 (j + 1) = some (9, [(0, 0, 0, [])], ρ, γ, c, V.1, 59, 0, 0, (8, 0), V.2.2.2.2.2) := by
                      rw [hA1, h405]; rfl
                    obtain ⟨q, d', e1, e2, e3⟩ := use_ok hK hm40 (s := s) (a1 := 8) hx hGn0 hCn (by omega) hVn rfl rfl rfl hbl
                    have e2' := (FrS.fe FrE.nx).tr e2
                    rw [e1, Option.bind_some]
                    rcases e3 with ⟨rfl, j', st', ρ', γ', c', V', w1, w2⟩ | ⟨rfl, h⟩
                    · exact ⟨1, d', rfl, e2', Or.inl ⟨rfl, j', st', ρ', γ', c', V', by omega, w2⟩⟩
                    · exact ⟨0, d', rfl, e2', Or.inr ⟨rfl, h⟩⟩
        · rw [if_neg (fun h => by have := kk_1.mp h; omega)]
          by_cases h123 : cl j = 123 ∧ V.1.length < 4
          · obtain ⟨d2, k1, k2, k3⟩ := open_ok (a1 := 0) (a2 := -1) (te := 0) (ag := 0) (X := []) hK hG hC (by show c.length + 0 ≤ j + 1; omega) hV.1 h123.2 hj h123.1 (Or.inl ⟨rfl, rfl, rfl, rfl, rfl⟩)
            rw [k1, Option.bind_some]
            rw [List.append_nil] at k2
            have hx : aut cl nm f c0 (j + 1) = some (6, [], ρ, γ, c, (j, 0, 0) :: V.1, V.2) := by
              rw [hA1, h123.1]
              unfold xSt
              rw [if_pos rfl, if_pos h123.2]
            exact ⟨1, d2, rfl, FrS.opn k3, Or.inl ⟨rfl, j + 1, 6, ρ, γ, c, _, by omega, hx, Or.inl ⟨rfl, List.cons_ne_nil _ _⟩, hG.opn k3 hj (fun k h => h), k2, by omega, hV.opn k3 h123.2 Gw.rf (fun h => absurd rfl h) (by omega) (by omega)⟩⟩
          · have hno : f_Gr_openBlock 0 (-1) d = some (0, d) := by
              unfold f_Gr_openBlock
              by_cases h4 : V.1.length < 4
              · rw [if_neg (show ¬ (4 : Int32) ≤ d.2 9 by rw [hV.1, i_le, onat (by omega), n4]; omega), ts_no (a1 := 123) (t := 123) hK hT h7 h8 hmN hjm rfl (by omega) (fun h => h123 ⟨h.2, h4⟩), Option.bind_some]
                dsimp only
                rw [if_pos rfl]
              · have := hV.2.1
                rw [if_pos (show (4 : Int32) ≤ d.2 9 by rw [hV.1, i_le, onat (by omega), n4]; omega)]
            rw [hno, Option.bind_some]
            refine ⟨0, d, rfl, FrS.rf, Or.inr ⟨rfl, Bd.at hA (by omega) hG hC (by omega) (fun _ => ?_)⟩⟩
            rw [h6]
            unfold xSt
            by_cases hc123 : cl j = 123
            · rw [if_pos hc123, if_neg (fun h => h123 ⟨hc123, h⟩)]
            · rw [if_neg hc123, if_neg (fun h => h125 ⟨hj, h⟩), if_neg h200, if_neg (by omega), if_neg (by omega), if_neg (by omega), if_neg (by omega), if_neg (by omega)]
    · rw [if_neg (show ¬ (d.2 7 : Int32) < d.2 8 by rw [h7, h8, o_lt (by omega) (by omega)]; exact hj)]
      exact ⟨0, d, rfl, FrS.rf, Or.inr ⟨rfl, Bd.at hA (by omega) hG hC (by omega) (fun h => absurd h hj)⟩⟩
