/-! factors, terms, sums, expressions -/
theorem fac_no {cl nm : Nat → Nat} {N f m : Nat} {E : Int32 × DS → Option (Int32 × DS)} {d : DS} {j b : Nat} {cs : List Nat} {ρ γ : Nat → Nat} (hK : TK cl nm N) (hb : b ≤ 4) (hG : GTk cl nm N f m d j cs ρ γ) (h3 : ¬ (j < m ∧ cl j = 300)) (h2 : ¬ (j < m ∧ cl j = 200)) (h4 : ¬ (j < m ∧ cl j = 40 ∧ b < 4)) : f_Gr_readFactor E (Int32.ofNat b) d = some (0, d) := by
  have hN := hK.1
  obtain ⟨hT, hfj, hjm, hmN, h7, h8, -⟩ := hG
  have q4 : ((4 : Int32) ≤ Int32.ofNat b) = (4 ≤ b) := o_le (a := 4) (by omega) (by omega)
  have hn := tn_no (a1 := 4) hK hT h7 h8 hmN hjm h2
  unfold f_Gr_readFactor
  by_cases hb4 : 4 ≤ b
  · simp only [hn, q4, hb4, Option.bind_some, ↓reduceIte, isb0]
    rw [h7, h8]
    by_cases hj : j < m
    · obtain ⟨t4, -⟩ := hT.2 j (by omega)
      have hkl := kk_le (cl j)
      rw [if_neg (by rw [o_le (by omega) (by omega)]; omega), if_pos (o_inb (by omega) (by omega)), o_nat (by omega), t4, if_neg (show ¬ Int32.ofNat (kk (cl j)) = 3 from fun h => h3 ⟨hj, kk_3.mp ((o_eq (b := 3) (by omega) (by omega)).mp h)⟩)]
    · rw [if_pos (by rw [o_le (by omega) (by omega)]; omega)]
  · have hs := ts_no (a1 := 40) (t := 40) hK hT h7 h8 hmN hjm rfl (by omega) (fun h => h4 ⟨h.1, h.2, by omega⟩)
    simp only [hn, hs, q4, hb4, Option.bind_some, ↓reduceIte, isb0]
    rw [h7, h8]
    by_cases hj : j < m
    · obtain ⟨t4, -⟩ := hT.2 j (by omega)
      have hkl := kk_le (cl j)
      rw [if_neg (by rw [o_le (by omega) (by omega)]; omega), if_pos (o_inb (by omega) (by omega)), o_nat (by omega), t4, if_neg (show ¬ Int32.ofNat (kk (cl j)) = 3 from fun h => h3 ⟨hj, kk_3.mp ((o_eq (b := 3) (by omega) (by omega)).mp h)⟩)]
    · rw [if_pos (by rw [o_le (by omega) (by omega)]; omega)]
theorem fac_num {cl nm : Nat → Nat} {N f m : Nat} {E : Int32 × DS → Option (Int32 × DS)} {d : DS} {j b : Nat} {cs : List Nat} {ρ γ : Nat → Nat} (hK : TK cl nm N) (hG : GTk cl nm N f m d j cs ρ γ) (hj : j < m) (h3 : cl j = 300) : f_Gr_readFactor E (Int32.ofNat b) d = (f_Cd_add 0 (Int32.ofNat (nm j)) (nx d (j + 1))).bind (fun q => some (1, q)) := by
  have hN := hK.1
  obtain ⟨hT, hfj, hjm, hmN, h7, h8, -⟩ := hG
  obtain ⟨t4, -, t5, -⟩ := hT.2 j (by omega)
  unfold f_Gr_readFactor
  rw [h7, h8, if_neg (by rw [o_le (by omega) (by omega)]; omega), if_pos (o_inb (by omega) (by omega)), o_nat (by omega), t4, if_pos (by rw [kk_3.mpr h3]; rfl), if_pos (o_inb (by omega) (by omega)), t5 (Or.inr h3), onat1 (by omega)]
theorem fac_name {cl nm : Nat → Nat} {N f m : Nat} {E : Int32 × DS → Option (Int32 × DS)} {d : DS} {j b : Nat} {cs : List Nat} {ρ γ : Nat → Nat} (hK : TK cl nm N) (hb : b ≤ 4) (hG : GTk cl nm N f m d j cs ρ γ) (hj : j < m) (h2 : cl j = 200) (h40 : ¬ (j + 1 < m ∧ cl (j + 1) = 40 ∧ b < 4)) : f_Gr_readFactor E (Int32.ofNat b) d = (f_Cd_add 1 (Int32.ofNat j) (va_up d.1 13 (upd (d.1 13) j 4), va_up d.2 7 (Int32.ofNat (j + 1)))).bind (fun q => some (1, q)) := by
  have hN := hK.1
  have hG' := hG.nm hj (a1 := 4) (t := 5) rfl (by omega)
  obtain ⟨hT, hfj, hjm, hmN, h7, h8, -⟩ := hG
  obtain ⟨hT', -, hjm', -, h7', h8', -⟩ := hG'
  have q4 : ((4 : Int32) ≤ Int32.ofNat b) = (4 ≤ b) := o_le (a := 4) (by omega) (by omega)
  have hn := tn_yes (a1 := 4) hK hT h7 h8 hmN hj h2
  obtain ⟨t4, -⟩ := hT.2 j (by omega)
  unfold f_Gr_readFactor
  rw [if_neg (show ¬ d.2 8 ≤ d.2 7 by rw [h7, h8, o_le (by omega) (by omega)]; omega), if_pos (show inb (d.2 7) 240 = true by rw [h7]; exact o_inb (by omega) (by omega)), if_neg (show ¬ d.1 4 (d.2 7).toNatClampNeg = 3 by rw [h7, o_nat (by omega), t4, kk_2.mpr h2]; decide)]
  by_cases hb4 : 4 ≤ b
  · simp only [hn, q4, hb4, Option.bind_some, ↓reduceIte, isb1, ne10, h7]
  · have hs := ts_no (a1 := 40) (t := 40) hK hT' h7' h8' hmN hjm' rfl (by omega) (fun h => h40 ⟨h.1, h.2, by omega⟩)
    simp only [hn, hs, q4, hb4, Option.bind_some, ↓reduceIte, isb1, ne10, h7]
theorem fac_call {cl nm : Nat → Nat} {N f m : Nat} {E : Int32 × DS → Option (Int32 × DS)} {d : DS} {j b : Nat} {cs : List Nat} {ρ γ : Nat → Nat} (hK : TK cl nm N) (hb : b < 4) (hG : GTk cl nm N f m d j cs ρ γ) (hj : j + 1 < m) (h2 : cl j = 200) (h40 : cl (j + 1) = 40) : f_Gr_readFactor E (Int32.ofNat b) d = (f_Gr_readCall E (Int32.ofNat j) (Int32.ofNat (b + 1)) (nx (va_up d.1 13 (upd (d.1 13) j 4), va_up d.2 7 (Int32.ofNat (j + 1))) (j + 1 + 1))).bind (fun q => if isb q.1 then some (q.1, q.2) else none) := by
  have hN := hK.1
  have hG' := hG.nm (show j < m by omega) (a1 := 4) (t := 5) rfl (by omega)
  obtain ⟨hT, hfj, hjm, hmN, h7, h8, -⟩ := hG
  obtain ⟨hT', -, hjm', -, h7', h8', -⟩ := hG'
  have q4 : ((4 : Int32) ≤ Int32.ofNat b) = (4 ≤ b) := o_le (a := 4) (by omega) (by omega)
  have hn := tn_yes (a1 := 4) hK hT h7 h8 hmN (show j < m by omega) h2
  obtain ⟨t4, -⟩ := hT.2 j (by omega)
  have hs := ts_yes (a1 := 40) (t := 40) hK hT' h7' h8' hmN rfl hj h40 (by omega) (by omega)
  unfold f_Gr_readFactor
  rw [if_neg (show ¬ d.2 8 ≤ d.2 7 by rw [h7, h8, o_le (by omega) (by omega)]; omega), if_pos (show inb (d.2 7) 240 = true by rw [h7]; exact o_inb (by omega) (by omega)), if_neg (show ¬ d.1 4 (d.2 7).toNatClampNeg = 3 by rw [h7, o_nat (by omega), t4, kk_2.mpr h2]; decide)]
  simp only [hn, hs, q4, show ¬ 4 ≤ b by omega, Option.bind_some, ↓reduceIte, ne10, h7, onat1 (show b < 2147483647 by omega)]
theorem fac_par {cl nm : Nat → Nat} {N f m : Nat} {E : Int32 × DS → Option (Int32 × DS)} {d : DS} {j b : Nat} {cs : List Nat} {ρ γ : Nat → Nat} (hK : TK cl nm N) (hb : b < 4) (hG : GTk cl nm N f m d j cs ρ γ) (hj : j < m) (h40 : cl j = 40) : f_Gr_readFactor E (Int32.ofNat b) d = (E (Int32.ofNat (b + 1), nx d (j + 1))).bind (fun q15 => if q15.1 = 0 then some (0, q15.2) else (f_Gr_takeSign 41 q15.2).bind (fun q17 => if q17.1 = 0 then some (0, q17.2) else some (1, q17.2))) := by
  have hN := hK.1
  obtain ⟨hT, hfj, hjm, hmN, h7, h8, -⟩ := hG
  have q4 : ((4 : Int32) ≤ Int32.ofNat b) = (4 ≤ b) := o_le (a := 4) (by omega) (by omega)
  have hn := tn_no (a1 := 4) hK hT h7 h8 hmN hjm (fun h => by omega)
  obtain ⟨t4, -⟩ := hT.2 j (by omega)
  have hs := ts_yes (a1 := 40) (t := 40) hK hT h7 h8 hmN rfl hj h40 (by omega) (by omega)
  unfold f_Gr_readFactor
  rw [if_neg (show ¬ d.2 8 ≤ d.2 7 by rw [h7, h8, o_le (by omega) (by omega)]; omega), if_pos (show inb (d.2 7) 240 = true by rw [h7]; exact o_inb (by omega) (by omega)), if_neg (show ¬ d.1 4 (d.2 7).toNatClampNeg = 3 by rw [h7, o_nat (by omega), t4, h40]; decide)]
  simp only [hn, hs, q4, show ¬ 4 ≤ b by omega, Option.bind_some, ↓reduceIte, ne10, onat1 (show b < 2147483647 by omega)]
theorem fac_ok {cl nm : Nat → Nat} {N f m : Nat} {c0 : Cds} (hK : TK cl nm N) (hm40 : cl m ≠ 40) {E : Int32 × DS → Option (Int32 × DS)} {b : Nat} (hb : b ≤ 4) (hE : b < 4 → Lv cl nm N f m c0 (fun a d => E (a, d)) 1 (b + 1)) : Lv cl nm N f m c0 (f_Gr_readFactor E) 4 b := by
  intro d j st ca le cn o F ρ γ c V s hF hst ho hle hA hG hC hs
  have hN := hK.1
  obtain ⟨hT, hfj, hjm, hmN, h7, h8, hr, hr0, hsn⟩ := id hG
  have hst' : st = 9 ∨ st = 10 := by
    rcases hst with h | h
    · exact Or.inl h
    · exact Or.inr h.1
  have hstep : aut cl nm f c0 (j + 1) = xOpd cl nm j st ca le cn o F ρ γ c V := (aut_g hfj hA).trans (stp_opd hst')
  by_cases h3 : j < m ∧ cl j = 300
  · obtain ⟨d', e1, e2, e3⟩ := cd_add (a := 0) (b := Int32.ofNat (nm j)) (d := nx d (j + 1)) (hC.cg rfl rfl rfl) (by omega)
    refine ⟨1, d', ?_, FrE.nx.tr (FrE.fc e3), Or.inl ⟨rfl, j + 1, 11, le, [], ρ, γ, c ++ [(0, Int32.ofNat (nm j))], by omega, Or.inl rfl, ?_, (hG.nx h3.1 (fun k h => h)).fc e3, ?_, ?_, fun t h => absurd h List.not_mem_nil, fun _ => rfl, fun _ => ⟨fun h => by omega, fun h => by omega, fun h => by omega, fun h => by omega⟩⟩⟩
    · rw [fac_num hK hG h3.1 h3.2, e1]; rfl
    · rw [hstep]
      unfold xOpd
      rw [if_neg (by omega), if_pos h3.2]; rfl
    · show CD d' (_ ++ [])
      rw [List.append_nil]; exact e2
    · rw [lenc]; show c.length + 1 + 0 + s ≤ j + 1; omega
  · by_cases h2 : j < m ∧ cl j = 200
    · have hx : aut cl nm f c0 (j + 1) = some (12, (ca, le, if st = 10 then 1 else cn, o) :: F, upN ρ j 5, γ, if cl (j + 1) = 40 ∧ F.length ≤ 3 then c else c ++ [(1, Int32.ofNat j)], V) := by
        rw [hstep]
        unfold xOpd
        rw [if_neg (by omega), if_neg (by omega), if_pos h2.2]
      have hG1 := hG.nm h2.1 (a1 := 4) (t := 5) rfl (by omega)
      have hC1 : CD (va_up d.1 13 (upd (d.1 13) j 4), va_up d.2 7 (Int32.ofNat (j + 1))) c := hC.cg rfl rfl rfl
      have fr1 : FrE f d (va_up d.1 13 (upd (d.1 13) j 4), va_up d.2 7 (Int32.ofNat (j + 1))) := ⟨fun i h _ _ _ => up_ne h, fun i _ h => up_ne h, fun k hk => ⟨ud_ne (by omega), rfl⟩⟩
      by_cases h40 : cl (j + 1) = 40 ∧ b < 4
      · have hj1 : j + 1 < m := by
          have : j + 1 ≠ m := fun h => hm40 (by rw [← h]; exact h40.1)
          omega
        rw [if_pos (show cl (j + 1) = 40 ∧ F.length ≤ 3 from ⟨h40.1, by omega⟩)] at hx
        have hA2 : aut cl nm f c0 (j + 1 + 1) = some (10, (j + 1, 0, 0, []) :: (ca, le, if st = 10 then 1 else cn, o) :: F, upN (upN ρ j 5) j 6, γ, c, V) := by
          rw [aut_g (by omega) hx, stp_call h40.1, if_pos (by omega)]; rfl
        have hG2 := hG1.nx hj1 (cs' := ca :: F.map (fun x => x.1)) (fun k h => h)
        have hG3 := hG2.cl (n := j) (by omega) (cs' := (j + 1) :: ca :: F.map (fun x => x.1)) (fun k h => ⟨fun h1 => h (List.mem_cons_of_mem _ h1), fun h1 => h (by rw [h1]; exact List.mem_cons_self ..)⟩)
        have hC3 : CD (va_up (va_up (va_up d.1 13 (upd (d.1 13) j 4)) 13 (upd (va_up d.1 13 (upd (d.1 13) j 4) 13) j 6)) 19 (upd (va_up d.1 13 (upd (d.1 13) j 4) 19) j 0), va_up (va_up d.2 7 (Int32.ofNat (j + 1))) 7 (Int32.ofNat (j + 1 + 1))) c := hC1.cg rfl rfl rfl
        have fr3 : FrE f (va_up d.1 13 (upd (d.1 13) j 4), va_up d.2 7 (Int32.ofNat (j + 1))) (va_up (va_up (va_up d.1 13 (upd (d.1 13) j 4)) 13 (upd (va_up d.1 13 (upd (d.1 13) j 4) 13) j 6)) 19 (upd (va_up d.1 13 (upd (d.1 13) j 4) 19) j 0), va_up (va_up d.2 7 (Int32.ofNat (j + 1))) 7 (Int32.ofNat (j + 1 + 1))) := ⟨fun i h h' _ _ => (up_ne h').trans (up_ne h), fun i _ h => up_ne h, fun k hk => ⟨ud_ne (by omega), ud_ne (by omega)⟩⟩
        rw [fac_call hK h40.2 hG hj1 h2.2 h40.1]
        unfold f_Gr_readCall
        rw [if_pos (o_inb (show j < 240 by omega) (by omega)), if_pos (o_inb (show j < 240 by omega) (by omega)), o_nat (by omega)]
        dsimp only
        obtain ⟨hT3, -, hjm3, -, h73, h83, -⟩ := id hG3
        by_cases h41 : j + 1 + 1 < m ∧ cl (j + 1 + 1) = 41
        · rw [ts_yes (a1 := 41) (t := 41) hK hT3 h73 h83 hmN rfl h41.1 h41.2 (by omega) (by omega), Option.bind_some]
          dsimp only
          obtain ⟨d', e1, e2, e3⟩ := cd_add (a := 3) (b := Int32.ofNat j) (d := nx (va_up (va_up (va_up d.1 13 (upd (d.1 13) j 4)) 13 (upd (va_up d.1 13 (upd (d.1 13) j 4) 13) j 6)) 19 (upd (va_up d.1 13 (upd (d.1 13) j 4) 19) j 0), va_up (va_up d.2 7 (Int32.ofNat (j + 1))) 7 (Int32.ofNat (j + 1 + 1))) (j + 1 + 1 + 1)) (hC3.cg rfl rfl rfl) (by omega)
          refine ⟨1, d', ?_, (fr1.tr fr3).tr (FrE.nx.tr (FrE.fc e3)), Or.inl ⟨rfl, j + 1 + 1 + 1, 11, le, [], upN (upN ρ j 5) j 6, upN γ j 0, c ++ [(3, Int32.ofNat j)], by omega, Or.inl rfl, ?_, ?_, ?_, ?_, fun t h => absurd h List.not_mem_nil, fun _ => rfl, fun _ => ⟨fun h => by omega, fun h => by omega, fun h => by omega, fun h => by omega⟩⟩⟩
          · rw [show (100000 : Nat) = 99999 + 1 from rfl, lp_succ]
            unfold BGr_readCall_31
            dsimp only
            rw [if_neg (show ¬ (240 : Int32) < 1 by decide), if_neg ne10, e1]
            rfl
          · rw [aut_g (by omega) hA2, stp_opd (Or.inr rfl)]
            unfold xOpd
            rw [if_pos ⟨rfl, h41.2⟩]; rfl
          · exact (GTk.close (hG3.nx h41.1 (cs' := (j + 1) :: ca :: F.map (fun x => x.1)) (fun k h => h)) (v := 0) (by exact ud_eq)).fc e3
          · show CD d' (_ ++ [])
            rw [List.append_nil]; exact e2
          · rw [lenc]; show c.length + 1 + 0 + s ≤ j + 1 + 1 + 1; omega
        · rw [ts_no (a1 := 41) (t := 41) hK hT3 h73 h83 hmN hjm3 rfl (by omega) h41, Option.bind_some]
          dsimp only
          obtain ⟨q, d', e1, e2, e3⟩ := call_loop hK (s := s) (F := (ca, le, if st = 10 then 1 else cn, o) :: F) (V := V) (n := j) (b := b + 1) (by omega) (by rw [List.length_cons, hF]) (List.cons_ne_nil _ _) (by omega) (hE h40.2) (m - (j + 1 + 1)) _ (j + 1 + 1) 10 0 (upN (upN ρ j 5) j 6) γ c (99998 - (m - (j + 1 + 1))) (Nat.le_refl _) (by omega) (by rw [if_pos rfl]; omega) (Or.inr ⟨rfl, h41⟩) hA2 hG3 hC3 (by omega)
          rw [show 99998 - (m - (j + 1 + 1)) + (m - (j + 1 + 1)) + 2 = 100000 by omega, if_pos rfl] at e1
          have e1' : lpN (BGr_readCall_31 E) 100000 (Int32.ofNat j, Int32.ofNat (b + 1), 0, 1, (va_up (va_up (va_up d.1 13 (upd (d.1 13) j 4)) 13 (upd (va_up d.1 13 (upd (d.1 13) j 4) 13) j 6)) 19 (upd (va_up d.1 13 (upd (d.1 13) j 4) 19) j 0), va_up (va_up d.2 7 (Int32.ofNat (j + 1))) 7 (Int32.ofNat (j + 1 + 1)))) = some (q, d') := e1
          rw [e1', Option.bind_some]
          dsimp only
          rcases e3 with ⟨rfl, j', ρ', γ', c', g1, g2, g3, g4, g5⟩ | ⟨rfl, hB⟩
          · refine ⟨1, d', by rw [isb1]; rfl, (fr1.tr fr3).tr e2, Or.inl ⟨rfl, j', 11, le, [], ρ', γ', c', by omega, Or.inl rfl, g2, g3, ?_, ?_, fun t h => absurd h List.not_mem_nil, fun _ => rfl, fun _ => ⟨fun h => by omega, fun h => by omega, fun h => by omega, fun h => by omega⟩⟩⟩
            · show CD d' (_ ++ [])
              rw [List.append_nil]; exact g4
            · show c'.length + 0 + s ≤ j'; omega
          · exact ⟨0, d', by rw [isb0]; rfl, (fr1.tr fr3).tr e2, Or.inr ⟨rfl, hB⟩⟩
      · rw [if_neg (show ¬ (cl (j + 1) = 40 ∧ F.length ≤ 3) from fun h => h40 ⟨h.1, by omega⟩)] at hx
        obtain ⟨d', e1, e2, e3⟩ := cd_add (a := 1) (b := Int32.ofNat j) hC1 (by omega)
        refine ⟨1, d', ?_, fr1.tr (FrE.fc e3), Or.inl ⟨rfl, j + 1, 12, le, [], upN ρ j 5, γ, c ++ [(1, Int32.ofNat j)], by omega, Or.inr rfl, hx, hG1.fc e3, ?_, ?_, fun t h => absurd h List.not_mem_nil, fun _ => rfl, fun _ => ⟨fun h => by omega, fun h => by omega, fun h => by omega, fun _ h => by omega⟩⟩⟩
        · rw [fac_name hK hb hG h2.1 h2.2 (by omega), e1]; rfl
        · show CD d' (_ ++ [])
          rw [List.append_nil]; exact e2
        · rw [lenc]; show c.length + 1 + 0 + s ≤ j + 1; omega
    · by_cases h4 : j < m ∧ cl j = 40 ∧ b < 4
      · have hx : aut cl nm f c0 (j + 1) = some (9, (0, 0, 0, []) :: (ca, le, if st = 10 then 1 else cn, o) :: F, ρ, γ, c, V) := by
          rw [hstep]
          unfold xOpd
          rw [if_neg (by omega), if_neg (by omega), if_neg (by omega), if_pos ⟨h4.2.1, by omega⟩]
        have hG1 := hG.nx h4.1 (cs' := 0 :: ca :: F.map (fun x => x.1)) (fun k h h1 => h (List.mem_cons_of_mem _ h1))
        obtain ⟨q, d1, e1, e2, e3⟩ := hE h4.2.2 (nx d (j + 1)) (j + 1) 9 0 0 0 [] ((ca, le, if st = 10 then 1 else cn, o) :: F) ρ γ c V s (by rw [List.length_cons, hF]) (Or.inl rfl) (fun t h => absurd h List.not_mem_nil) (fun _ => rfl) hx hG1 (hC.cg rfl rfl rfl) (by omega)
        have e1 : E (Int32.ofNat (b + 1), nx d (j + 1)) = some (q, d1) := e1
        rw [fac_par hK h4.2.2 hG h4.1 h4.2.1, e1, Option.bind_some]
        dsimp only
        rcases e3 with ⟨rfl, j', st', le', o', ρ', γ', c', g1, g2, g3, g4, g5, g6, g7, g8, g9⟩ | ⟨rfl, hB⟩
        · rw [if_neg ne10]
          rw [List.append_nil, if_neg (show ¬ (9 : Nat) = 10 by omega)] at g3
          have hlen : c'.length + (oi o').length = (c' ++ oi o').length := by rw [List.length_append]
          rw [oi_len] at hlen
          obtain ⟨hT4, -, hjm4, -, h74, h84, -⟩ := id g4
          by_cases h41 : j' < m ∧ cl j' = 41
          · rw [ts_yes (a1 := 41) (t := 41) hK hT4 h74 h84 hmN rfl h41.1 h41.2 (by omega) (by omega), Option.bind_some]
            dsimp only
            rw [if_neg ne10]
            refine ⟨1, _, rfl, (FrE.nx.tr e2).tr FrE.nx, Or.inl ⟨rfl, j' + 1, 11, le, [], ρ', γ', c' ++ oi o', by omega, Or.inl rfl, ?_, g4.nx h41.1 (fun k h h1 => ?_), ?_, ?_, fun t h => absurd h List.not_mem_nil, fun _ => rfl, fun _ => ⟨fun h => by omega, fun h => by omega, fun h => by omega, fun h => by omega⟩⟩⟩
            · rw [aut_g g4.2.1 g3, stp_opr g2 (by omega)]
              unfold xOpr
              rw [h41.2, if_neg (by omega), if_neg (by omega), if_neg (List.cons_ne_nil _ _), if_pos rfl, if_pos rfl, if_pos rfl, List.append_nil]
              rfl
            · rcases List.mem_cons.mp h1 with h5 | h5
              · omega
              · exact h h5
            · show CD _ (_ ++ [])
              rw [List.append_nil]; exact g5.cg rfl rfl rfl
            · rw [← hlen]; show c'.length + o'.length + 0 + s ≤ j' + 1; omega
          · rw [ts_no (a1 := 41) (t := 41) hK hT4 h74 h84 hmN hjm4 rfl (by omega) h41, Option.bind_some]
            dsimp only
            rw [if_pos rfl]
            refine ⟨0, _, rfl, FrE.nx.tr e2, Or.inr ⟨rfl, Bd.at g3 (by omega) g4 g5 (by rw [← hlen]; omega) (fun h => opr_none g2 g9 h (fun _ h1 => h41 ⟨h, h1⟩) (fun _ h1 => absurd rfl h1) (fun h1 => absurd h1 (List.cons_ne_nil _ _)))⟩⟩
        · rw [if_pos rfl]
          exact ⟨0, d1, rfl, FrE.nx.tr e2, Or.inr ⟨rfl, hB⟩⟩
      · refine ⟨0, d, fac_no hK hb hG h3 h2 h4, FrE.rf, Or.inr ⟨rfl, Bd.at hA (by omega) hG hC (by omega) (fun h => ?_)⟩⟩
        rw [stp_opd hst']
        unfold xOpd
        have z1 : ¬ (st = 10 ∧ cl j = 41) := fun h1 => by
          rcases hst with h5 | h5
          · omega
          · exact h5.2 ⟨h, h1.2⟩
        rw [if_neg z1, if_neg (fun h1 => h3 ⟨h, h1⟩), if_neg (fun h1 => h2 ⟨h, h1⟩), if_neg (fun h1 => h4 ⟨h, h1.1, by omega⟩)]
