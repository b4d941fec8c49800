/-! statements -/
theorem GTk.opn {cl nm : Nat → Nat} {N f m : Nat} {d d' : DS} {j n te ag : Nat} {cs cs' : List Nat} {ρ γ : Nat → Nat} (h : GTk cl nm N f m d j cs ρ γ) (hO : Opn d d' j n te ag) (hj : j < m) (hs : ∀ k, k + 1 ∉ cs' → k + 1 ∉ cs) : GTk cl nm N f m d' (j + 1) cs' ρ γ := by
  obtain ⟨hT, hfj, hjm, hmN, h7, h8, hr, hr0, hsn⟩ := h
  obtain ⟨o1, o2, o3, -⟩ := hO
  have a13 := o1 13 (by decide) (by decide) (by decide) (by decide) (by decide)
  have a19 := o1 19 (by decide) (by decide) (by decide) (by decide) (by decide)
  refine ⟨hT.cg (o2 4 (by decide) (by decide) (by decide)) (o1 4 (by decide) (by decide) (by decide) (by decide) (by decide)) (o1 5 (by decide) (by decide) (by decide) (by decide) (by decide)), by omega, hj, hmN, o3, (o2 8 (by decide) (by decide) (by decide)).trans h8, ?_, fun k hk => hr0 k (by omega), ?_⟩
  · rw [a13]; exact hr
  · rw [a19]; exact fun k a b c e => hsn k a b c (hs k e)
theorem FrS.opn {f : Nat} {d d' : DS} {j n te ag : Nat} (hO : Opn d d' j n te ag) : FrS f d d' := by
  obtain ⟨o1, o2, -⟩ := hO
  refine ⟨fun i _ _ _ _ _ a b c e g => o1 i a b c e g, fun i a b c => o2 i a b c, fun k _ => ⟨?_, ?_, ?_, ?_, ?_⟩⟩
  all_goals exact congrFun (o1 _ (by decide) (by decide) (by decide) (by decide) (by decide)) k
theorem VD.opn {f m : Nat} {d d' : DS} {j te ag : Nat} {c c' : Cds} {V : VS} (h : VD f m d j c V) (hO : Opn d d' j V.1.length te ag) (hn : V.1.length < 4) (hg : Gw c c') (hte : te ≠ 0 → te ≤ c'.length ∧ (c'.getD (te - 1) (0, 0)).1 = 4) (hag : ag ≤ 240) (hj : j < 240) : VD f m d' (j + 1) c' ((j, te, ag) :: V.1, V.2) := by
  obtain ⟨v1, v2, v3, v4, v5, v6, v7, v8, v9⟩ := h
  obtain ⟨o1, o2, o3, o4, o5, o6, o7, o8⟩ := hO
  have a16 := o1 16 (by decide) (by decide) (by decide) (by decide) (by decide)
  have a17 := o1 17 (by decide) (by decide) (by decide) (by decide) (by decide)
  have a18 := o1 18 (by decide) (by decide) (by decide) (by decide) (by decide)
  refine ⟨o4, ?_, ⟨o5, o6, o7, by show f + 2 < j; omega, hj, hte, hag, v3.cg (fun i hi => o8 i (by omega)) hg⟩, ?_, ?_, ?_, ?_, ?_, ?_⟩
  · show V.1.length + 1 ≤ 4
    omega
  · intro k hk
    rw [a16, a17]
    exact v4 k hk
  · intro k hk
    rw [a18]
    exact v5 k hk
  · rw [a16, a17]; exact v6
  · rw [a18]; exact v7
  · show f + 3 + 2 * V.2.2.2.2.2.1 ≤ j + 1
    omega
  · omega
theorem aim_ok {d : DS} {c : Cds} {te : Nat} (hC : CD d c) (hc : c.length ≤ 240) (hte : te ≠ 0 → te ≤ c.length ∧ (c.getD (te - 1) (0, 0)).1 = 4) : ∃ d', f_Cd_aimHere (pm te) d = some d' ∧ CD d' (if te = 0 then c else c.set (te - 1) (4, Int32.ofNat c.length)) ∧ (∀ i, i ≠ 22 → d'.1 i = d.1 i) ∧ d'.2 = d.2 := by
  unfold f_Cd_aimHere
  cases te with
  | zero =>
    rw [if_pos (show pm 0 < 0 by decide)]
    exact ⟨d, rfl, by rw [if_pos rfl]; exact hC, fun _ _ => rfl, rfl⟩
  | succ t =>
    obtain ⟨g1, g2⟩ := hte (by omega)
    rw [Nat.add_sub_cancel] at g2
    rw [if_neg (show ¬ pm (t + 1) < 0 by rw [i_lt]; show ¬ (Int32.ofNat t).toInt < _; rw [onat (by omega), n0]; omega), hC.1, if_neg (show ¬ Int32.ofNat c.length ≤ pm (t + 1) by show ¬ Int32.ofNat c.length ≤ Int32.ofNat t; rw [o_le (by omega) (by omega)]; omega), if_pos (show inb (pm (t + 1)) 240 = true from o_inb (by omega) (by omega)), (show (pm (t + 1)).toNatClampNeg = t from o_nat (by omega))]
    refine ⟨_, rfl, ?_, fun i h => up_ne h, rfl⟩
    rw [if_neg (by omega), Nat.add_sub_cancel]
    refine ⟨by rw [List.length_set]; exact hC.1, fun i hi => ?_⟩
    rw [List.length_set] at hi
    obtain ⟨k1, k2⟩ := hC.2 i hi
    rw [List.getD_eq_getElem?_getD, List.getElem?_set]
    show d.1 21 i = _ ∧ upd (d.1 22) t (Int32.ofNat c.length) i = _
    by_cases h1 : t = i
    · subst h1
      rw [if_pos rfl, if_pos hi, ud_eq]
      exact ⟨k1.trans g2, rfl⟩
    · rw [if_neg h1, ← List.getD_eq_getElem?_getD, ud_ne (fun h => h1 h.symm)]
      exact ⟨k1, k2⟩
theorem close_ok {d : DS} {c : Cds} {j o te ag n : Nat} (hC : CD d c) (hc : c.length < 240) (h7 : d.2 7 = Int32.ofNat (j + 1)) (h9 : d.2 9 = Int32.ofNat (n + 1)) (hn : n < 4) (ho : d.1 24 n = Int32.ofNat o) (ho2 : o < 240) (ht : d.1 25 n = pm te) (ha : d.1 26 n = pm ag) (hag : ag ≤ 240) (hte : te ≠ 0 → te ≤ c.length ∧ (c.getD (te - 1) (0, 0)).1 = 4) : ∃ d', f_Gr_closeBlock d = some d' ∧ CD d' (if te = 0 then c ++ (if ag = 0 then [] else [(6, Int32.ofNat (ag - 1))]) else (c ++ (if ag = 0 then [] else [(6, Int32.ofNat (ag - 1))])).set (te - 1) (4, Int32.ofNat (c ++ (if ag = 0 then [] else [((6 : Int32), Int32.ofNat (ag - 1))])).length)) ∧ (∀ i, i ≠ 18 → i ≠ 21 → i ≠ 22 → d'.1 i = d.1 i) ∧ d'.1 18 = upd (d.1 18) o (Int32.ofNat j) ∧ (∀ i, i ≠ 6 → i ≠ 9 → d'.2 i = d.2 i) ∧ d'.2 9 = Int32.ofNat n := by
  have e9 : d.2 9 - 1 = Int32.ofNat n := by
    rw [h9]
    exact o_sub (a := n + 1) (b := 1) (by omega)
  have e7 : d.2 7 - 1 = Int32.ofNat j := by
    rw [h7]
    exact o_sub (a := j + 1) (b := 1) (by omega)
  have b4 : inb (Int32.ofNat n) 4 = true := o_inb hn (by omega)
  unfold f_Gr_closeBlock
  simp only [e9, e7, b4, ↓reduceIte, o_nat (show n < 2147483648 by omega), ho, ht, ha, o_inb ho2 (show o < 2147483648 by omega), o_nat (show o < 2147483648 by omega)]
  by_cases hz : ag = 0
  · subst hz
    rw [if_pos (show pm 0 = -1 from rfl)]
    have hC1 : CD (va_up d.1 18 (upd (d.1 18) o (Int32.ofNat j)), va_up d.2 9 (Int32.ofNat n)) c := hC.cg rfl rfl rfl
    obtain ⟨d2, k1, k2, k3, k4⟩ := aim_ok hC1 (by omega) hte
    rw [k1, Option.bind_some]
    refine ⟨d2, rfl, ?_, fun i a _ b => (k3 i b).trans (up_ne a), (k3 18 (by decide)).trans rfl, fun i a b => ?_, ?_⟩
    · rw [if_pos rfl, List.append_nil]; exact k2
    · rw [k4]; exact up_ne b
    · rw [k4]; exact rfl
  · rw [if_neg (show ¬ pm ag = -1 by rw [pm_m1 (by omega)]; exact hz)]
    have hpm : pm ag = Int32.ofNat (ag - 1) := by
      obtain ⟨t, rfl⟩ : ∃ t, ag = t + 1 := ⟨ag - 1, by omega⟩
      rfl
    have hC1 : CD (va_up d.1 18 (upd (d.1 18) o (Int32.ofNat j)), va_up d.2 9 (Int32.ofNat n)) c := hC.cg rfl rfl rfl
    obtain ⟨d1, w1, w2, w3⟩ := cd_add (a := 6) (b := pm ag) hC1 hc
    have q9 : d1.2 9 = Int32.ofNat n := (w3.2 9 (by decide)).trans rfl
    have q25 : d1.1 25 n = pm te := by
      rw [w3.1 25 (by decide) (by decide)]
      exact (congrFun rfl n).trans ht
    rw [w1, Option.bind_some, q9, if_pos b4, o_nat (by omega), q25]
    have hte2 : te ≠ 0 → te ≤ (c ++ [((6 : Int32), pm ag)]).length ∧ ((c ++ [((6 : Int32), pm ag)]).getD (te - 1) (0, 0)).1 = 4 := fun h => by
      obtain ⟨g1, g2⟩ := hte h
      exact ⟨by rw [lenc]; omega, by rw [gc_old (by omega)]; exact g2⟩
    obtain ⟨d2, k1, k2, k3, k4⟩ := aim_ok w2 (by rw [lenc]; omega) hte2
    rw [k1, Option.bind_some]
    refine ⟨d2, rfl, ?_, fun i a b e => (k3 i e).trans ((w3.1 i b e).trans (up_ne a)), (k3 18 (by decide)).trans ((w3.1 18 (by decide) (by decide)).trans rfl), fun i a b => ?_, ?_⟩
    · rw [if_neg hz, ← hpm]; exact k2
    · rw [k4]; exact (w3.2 i a).trans (up_ne b)
    · rw [k4]; exact q9
def Sg (cl nm : Nat → Nat) (N f m : Nat) (c0 : Cds) (s : Nat) (d' : DS) (j : Nat) : Prop := ∃ (j' st' : Nat) (ρ' γ' : Nat → Nat) (c' : Cds) (V' : VS), j < j' ∧ aut cl nm f c0 j' = some (st', [], ρ', γ', c', V') ∧ (st' = 6 ∧ V'.1 ≠ [] ∨ st' = 13 ∧ V'.1 = []) ∧ GTk cl nm N f m d' j' [] ρ' γ' ∧ CD d' c' ∧ c'.length + s ≤ j' ∧ VD f m d' j' c' V'
theorem no0 {k : Nat} (_ : k + 1 ∉ ([] : List Nat)) : k + 1 ∉ [0] := fun h => by
  have := List.mem_singleton.mp h
  omega
theorem use_ok {cl nm : Nat → Nat} {N f m : Nat} {c0 : Cds} (hK : TK cl nm N) (hm40 : cl m ≠ 40) {d : DS} {j s : Nat} {ρ γ : Nat → Nat} {c : Cds} {V : VS} {a1 : Int32} (hA : aut cl nm f c0 j = some (9, [(0, 0, 0, [])], ρ, γ, c, V)) (hG : GTk cl nm N f m d j [0] ρ γ) (hC : CD d c) (hs : c.length + (s + 1) ≤ j) (hV : VD f m d j c V) (he : V.2.1 = 59) (hl : V.2.2.1 = 0) (hfin : V.2.2.2.2.1 = (a1, 0)) (hbl : V.1 ≠ []) : ∃ (q : Int32) (d' : DS), f_Gr_readUse a1 d = some (q, d') ∧ FrS f d d' ∧ (q = 1 ∧ Sg cl nm N f m c0 s d' j ∨ q = 0 ∧ Bd cl nm N f m c0 d') := by
  have hN := hK.1
  obtain ⟨q, d1, e1, e2, e3⟩ := E_ok (c0 := c0) hK hm40 d j 9 0 0 0 [] [] ρ γ c V (s + 1) rfl (Or.inl rfl) (fun t h => absurd h List.not_mem_nil) (fun _ => rfl) hA hG hC hs
  have e1' : E (0, d) = some (q, d1) := e1
  unfold f_Gr_readUse
  rw [e1', Option.bind_some]
  dsimp only
  rcases e3 with ⟨rfl, j', st', le', o', ρ', γ', c', g1, g2, g3, g4, g5, g6, g7, g8, g9⟩ | ⟨rfl, hB⟩
  · rw [if_neg ne10]
    rw [List.append_nil, if_neg (show ¬ (9 : Nat) = 10 by omega)] at g3
    obtain ⟨hT, hfj, hjm, hmN, h7, h8, -⟩ := id g4
    have hlen : c'.length + (oi o').length = (c' ++ oi o').length := by rw [List.length_append]
    rw [oi_len] at hlen
    by_cases h59 : j' < m ∧ cl j' = 59
    · rw [ts_yes (a1 := 59) (t := 59) hK hT h7 h8 hmN rfl h59.1 h59.2 (by omega) (by omega), Option.bind_some]
      dsimp only
      obtain ⟨d2, k1, k2, k3⟩ := cd_add (a := a1) (b := 0) (d := nx d1 (j' + 1)) (g5.cg rfl rfl rfl) (by rw [← hlen]; omega)
      rw [if_neg ne10, k1, Option.bind_some]
      have hx : aut cl nm f c0 (j' + 1) = some (6, [], ρ', γ', c' ++ oi o' ++ [(a1, 0)], V.1, V.2.1, 0, V.2.2.2.1, V.2.2.2.2.1, V.2.2.2.2.2.1, V.2.2.2.2.2.2.1, V.2.2.2.2.2.2.2.1, V.2.2.2.2.2.2.2.2) := by
        rw [aut_g hfj g3, stp_opr g2 (by omega)]
        unfold xOpr
        rw [h59.2, if_neg (by omega), if_neg (by omega), if_pos rfl]
        unfold xEnd
        rw [if_pos he.symm, if_neg (by omega), hl, if_pos rfl, hfin]
      have hgw : Gw c (c' ++ oi o' ++ [(a1, 0)]) := by
        have := aut_gw (j' + 1 - j) j _ _ hG.2.1 hA (by rw [show j + (j' + 1 - j) = j' + 1 by omega]; exact hx)
        exact this
      refine ⟨1, d2, rfl, (FrS.fe e2).tr (FrS.fe (FrE.nx.tr (FrE.fc k3))), Or.inl ⟨rfl, j' + 1, 6, ρ', γ', _, _, by omega, hx, Or.inl ⟨rfl, hbl⟩, (g4.nx h59.1 (fun k h => no0 h)).fc k3, k2, ?_, ?_⟩⟩
      · rw [lenc, ← hlen]; omega
      · exact hV.fe (e2.tr (FrE.nx.tr (FrE.fc k3))) hgw (by omega)
    · rw [ts_no (a1 := 59) (t := 59) hK hT h7 h8 hmN hjm rfl (by omega) h59, Option.bind_some]
      dsimp only
      rw [if_pos rfl]
      exact ⟨0, d1, rfl, FrS.fe e2, Or.inr ⟨rfl, Bd.at g3 (by omega) g4 g5 (by rw [← hlen]; omega) (fun h => opr_none g2 g9 h (fun h1 => absurd rfl h1) (fun h1 => absurd rfl h1) (fun _ h1 => h59 ⟨h, by rw [h1]; exact he⟩))⟩⟩
  · rw [if_pos rfl]
    exact ⟨0, d1, rfl, FrS.fe e2, Or.inr ⟨rfl, hB⟩⟩
theorem test_ok {cl nm : Nat → Nat} {N f m : Nat} {c0 : Cds} (hK : TK cl nm N) (hm40 : cl m ≠ 40) {d : DS} {j s ag : Nat} {ρ γ : Nat → Nat} {c : Cds} {V : VS} {a2 : Int32} (hA : aut cl nm f c0 j = some (9, [(0, 0, 0, [])], ρ, γ, c, V)) (hG : GTk cl nm N f m d j [0] ρ γ) (hC : CD d c) (hs : c.length + (s + 1) ≤ j) (hV : VD f m d j c V) (he : V.2.1 = 123) (hpg : V.2.2.2.1 = ag) (hag : ag ≤ 240) (ha2 : a2 = pm ag) (hbl : V.1 ≠ []) : ∃ (q : Int32) (d' : DS), (E (0, d)).bind (fun q15 => if q15.1 = 0 then some (0, q15.2) else (f_Gr_openBlock 1 a2 q15.2).bind (fun q17 => if q17.1 = 0 then some (0, q17.2) else some (1, q17.2))) = some (q, d') ∧ FrS f d d' ∧ (q = 1 ∧ Sg cl nm N f m c0 s d' j ∨ q = 0 ∧ Bd cl nm N f m c0 d') := by
  have hN := hK.1
  obtain ⟨q, d1, e1, e2, e3⟩ := E_ok (c0 := c0) hK hm40 d j 9 0 0 0 [] [] ρ γ c V (s + 1) rfl (Or.inl rfl) (fun t h => absurd h List.not_mem_nil) (fun _ => rfl) hA hG hC hs
  have e1' : E (0, d) = some (q, d1) := e1
  rw [e1', Option.bind_some]
  dsimp only
  rcases e3 with ⟨rfl, j', st', le', o', ρ', γ', c', g1, g2, g3, g4, g5, g6, g7, g8, g9⟩ | ⟨rfl, hB⟩
  · rw [if_neg ne10]
    rw [List.append_nil, if_neg (show ¬ (9 : Nat) = 10 by omega)] at g3
    obtain ⟨hT, hfj, hjm, hmN, h7, h8, -⟩ := id g4
    have hlen : c'.length + (oi o').length = (c' ++ oi o').length := by rw [List.length_append]
    rw [oi_len] at hlen
    have hV1 := hV.fe e2 (aut_gw (j' - j) j _ _ hG.2.1 hA (by rw [show j + (j' - j) = j' by omega]; exact g3)) (show j ≤ j' by omega)
    by_cases h123 : (j' < m ∧ cl j' = 123) ∧ V.1.length < 4
    · obtain ⟨d2, k1, k2, k3⟩ := open_ok (a1 := 1) (a2 := a2) (te := (c' ++ oi o').length + 1) (ag := ag) (X := [(4, 0)] ++ (if ag = 0 then [] else [(5, 0)])) hK g4 g5 (by rw [← hlen, List.length_append]; split <;> simp <;> omega) hV1.1 h123.2 h123.1.1 h123.1.2 (Or.inr ⟨rfl, ha2, hag, rfl, rfl⟩)
      rw [k1, Option.bind_some]
      dsimp only
      rw [if_neg ne10]
      have hx : aut cl nm f c0 (j' + 1) = some (6, [], ρ', γ', c' ++ oi o' ++ ([(4, 0)] ++ (if ag = 0 then [] else [(5, 0)])), (j', (c' ++ oi o').length + 1, ag) :: V.1, V.2) := by
        rw [aut_g hfj g3, stp_opr g2 (by omega)]
        unfold xOpr
        rw [h123.1.2, if_neg (by omega), if_neg (by omega), if_pos rfl]
        unfold xEnd
        rw [if_pos he.symm, if_pos rfl, if_pos h123.2, hpg, ← hlen, List.append_assoc]
      have hgw : Gw c' (c' ++ oi o' ++ ([(4, 0)] ++ (if ag = 0 then [] else [(5, 0)]))) := Gw.app.tr Gw.app
      refine ⟨1, d2, rfl, (FrS.fe e2).tr (FrS.opn k3), Or.inl ⟨rfl, j' + 1, 6, ρ', γ', _, _, by omega, hx, Or.inl ⟨rfl, List.cons_ne_nil _ _⟩, g4.opn k3 h123.1.1 (fun k h => no0 h), k2, ?_, ?_⟩⟩
      · rw [List.length_append, ← hlen, List.length_append]
        split <;> simp <;> omega
      · refine hV1.opn k3 h123.2 hgw (fun _ => ⟨?_, ?_⟩) hag (by omega)
        · have z : (([(4, 0)] : Cds) ++ (if ag = 0 then [] else [(5, 0)])).length = 1 + (if ag = 0 then ([] : Cds) else [(5, 0)]).length := List.length_append
          rw [List.length_append (bs := [(4, 0)] ++ _), z]
          omega
        · rw [Nat.add_sub_cancel, ← List.append_assoc, List.getD_eq_getElem?_getD, List.getElem?_append_left (by rw [lenc]; omega), ← List.getD_eq_getElem?_getD, gc_new]
    · have hno : f_Gr_openBlock 1 a2 d1 = some (0, d1) := by
        unfold f_Gr_openBlock
        by_cases h4 : V.1.length < 4
        · rw [if_neg (show ¬ (4 : Int32) ≤ d1.2 9 by rw [hV1.1, i_le, onat (by omega), n4]; omega), ts_no (a1 := 123) (t := 123) hK hT h7 h8 hmN hjm rfl (by omega) (fun h => h123 ⟨h, h4⟩), Option.bind_some]
          dsimp only
          rw [if_pos rfl]
        · have := hV.2.1
          rw [if_pos (show (4 : Int32) ≤ d1.2 9 by rw [hV1.1, i_le, onat (by omega), n4]; omega)]
      rw [hno, Option.bind_some]
      dsimp only
      rw [if_pos rfl]
      refine ⟨0, d1, rfl, FrS.fe e2, Or.inr ⟨rfl, Bd.at g3 (by omega) g4 g5 (by rw [← hlen]; omega) (fun h => ?_)⟩⟩
      by_cases hc : cl j' = 123
      · rw [stp_opr g2 (by omega)]
        unfold xOpr
        rw [hc, if_neg (by omega), if_neg (by omega), if_pos rfl]
        unfold xEnd
        rw [if_pos he.symm, if_pos rfl, if_neg (fun h1 => h123 ⟨⟨h, hc⟩, h1⟩)]
      · exact opr_none g2 g9 h (fun h1 => absurd rfl h1) (fun h1 => absurd rfl h1) (fun _ h1 => hc (by rw [h1]; exact he))
  · rw [if_pos rfl]
    exact ⟨0, d1, rfl, FrS.fe e2, Or.inr ⟨rfl, hB⟩⟩
