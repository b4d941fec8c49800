/-! a whole part -/
theorem stp_np {cl nm : Nat → Nat} {f k : Nat} {x x' : XS} (h5 : 5 ≤ x.1) (h : stp cl nm f k x = some x') : 5 ≤ x'.1 ∧ x'.2.2.2.2.2.2.2.2.2.2.1 = x.2.2.2.2.2.2.2.2.2.2.1 := by
  unfold stp at h
  split at h
  · unfold xHd at h
    rw [if_neg (by omega), if_neg (by omega), if_pos (by omega)] at h
    split at h
    · have h := Option.some.inj h; subst h; exact ⟨by omega, rfl⟩
    · exact absurd h (by simp)
  split at h
  · unfold xSt at h
    split at h
    · split at h
      · have h := Option.some.inj h; subst h; exact ⟨by omega, rfl⟩
      · exact absurd h (by simp)
    split at h
    · split at h
      · exact absurd h (by simp)
      · have h := Option.some.inj h
        subst h
        dsimp only
        refine ⟨?_, rfl⟩
        split <;> omega
    repeat' split at h
    all_goals first | (have h := Option.some.inj h; subst h; exact ⟨by dsimp only; omega, rfl⟩) | exact absurd h (by simp)
  split at h
  · unfold xLet at h
    split at h
    · have h := Option.some.inj h; subst h; exact ⟨by dsimp only; omega, rfl⟩
    · exact absurd h (by simp)
  split at h
  · split at h
    · have h := Option.some.inj h; subst h; exact ⟨by dsimp only; omega, rfl⟩
    · exact absurd h (by simp)
  split at h
  · exact absurd h (by simp)
  split at h
  · unfold xOpd at h
    repeat' split at h
    all_goals first | (have h := Option.some.inj h; subst h; exact ⟨by dsimp only; omega, rfl⟩) | exact absurd h (by simp)
  split at h
  · split at h
    · have h := Option.some.inj h; subst h; exact ⟨by dsimp only; omega, rfl⟩
    · exact absurd h (by simp)
  split at h
  · unfold xOpr at h
    split at h
    · have h := Option.some.inj h; subst h; exact ⟨by dsimp only; omega, rfl⟩
    split at h
    · split at h
      · have h := Option.some.inj h; subst h; exact ⟨by dsimp only; omega, rfl⟩
      · exact absurd h (by simp)
    split at h
    · unfold xEnd at h
      split at h
      · split at h
        · split at h
          · have h := Option.some.inj h; subst h; exact ⟨by dsimp only; omega, rfl⟩
          · exact absurd h (by simp)
        · have h := Option.some.inj h; subst h; exact ⟨by dsimp only; omega, rfl⟩
      · exact absurd h (by simp)
    repeat' split at h
    all_goals first | (have h := Option.some.inj h; subst h; exact ⟨by dsimp only; omega, rfl⟩) | exact absurd h (by simp)
  · exact absurd h (by simp)
theorem aut_np {cl nm : Nat → Nat} {f : Nat} {c0 : Cds} : ∀ (z j : Nat) (x x' : XS), f < j → 5 ≤ x.1 → aut cl nm f c0 j = some x → aut cl nm f c0 (j + z) = some x' → 5 ≤ x'.1 ∧ x'.2.2.2.2.2.2.2.2.2.2.1 = x.2.2.2.2.2.2.2.2.2.2.1 := by
  intro z
  induction z with
  | zero =>
    intro j x x' hf h5 h1 h2
    have : x = x' := Option.some.inj (h1.symm.trans h2)
    subst this
    exact ⟨h5, rfl⟩
  | succ z ih =>
    intro j x x' hf h5 h1 h2
    rw [← Nat.add_assoc, aut_s (by omega)] at h2
    cases h3 : aut cl nm f c0 (j + z) with
    | none => rw [h3] at h2; exact absurd h2 (by simp)
    | some y =>
      rw [h3] at h2
      obtain ⟨g1, g2⟩ := ih j x y hf h5 h1 h3
      obtain ⟨g3, g4⟩ := stp_np g1 h2
      exact ⟨g3, g4.trans g2⟩
theorem fn_add {d : DS} {nf : Nat} {a1 a2 a3 : Int32} (h5 : d.2 5 = Int32.ofNat nf) (hn : nf < 4) : f_Fn_add a1 a2 a3 d = some (va_up (va_up (va_up d.1 9 (upd (d.1 9) nf a1)) 10 (upd (d.1 10) nf a2)) 11 (upd (d.1 11) nf a3), va_up d.2 5 (Int32.ofNat (nf + 1))) := by
  unfold f_Fn_add
  have b : inb (Int32.ofNat nf) 4 = true := o_inb hn (by omega)
  rw [h5, if_neg (show ¬ (4 : Int32) ≤ Int32.ofNat nf by rw [i_le, onat (by omega), n4]; omega), if_pos b, if_pos b, if_pos b, o_nat (by omega), onat1 (by omega)]
/-- A part that was read: where the desk keeps what. -/
def Fg (cl nm : Nat → Nat) (N f m : Nat) (c0 : Cds) (nf : Nat) (d d' : DS) : Prop := ∃ (ρ γ : Nat → Nat) (c : Cds) (V : VS) (d1 : DS), aut cl nm f c0 m = some (13, [], ρ, γ, c, V) ∧ GTk cl nm N f m d' m [] ρ γ ∧ CD d' (c ++ [(0, 0)] ++ [(8, 0)]) ∧ c.length + 2 ≤ m ∧ VD f m d' m c V ∧ FrS f d d1 ∧ d' = (va_up (va_up (va_up d1.1 9 (upd (d.1 9) nf (Int32.ofNat (f + 1)))) 10 (upd (d.1 10) nf (Int32.ofNat V.2.2.2.2.2.1))) 11 (upd (d.1 11) nf (Int32.ofNat c0.length)), va_up d1.2 5 (Int32.ofNat (nf + 1)))
theorem fn_loop {cl nm : Nat → Nat} {N f m : Nat} {c0 : Cds} (hK : TK cl nm N) (hm40 : cl m ≠ 40) {d0 : DS} {nf np : Nat} (hnf : nf < 4) (h50 : d0.2 5 = Int32.ofNat nf) : ∀ (z : Nat) (d : DS) (j turn st : Nat) (ρ γ : Nat → Nat) (c : Cds) (V : VS) (M : Nat), m - j ≤ z → turn ≤ j → aut cl nm f c0 j = some (st, [], ρ, γ, c, V) → (st = 6 ∧ V.1 ≠ [] ∨ st = 13 ∧ V.1 = []) → V.2.2.2.2.2.1 = np → GTk cl nm N f m d j [] ρ γ → CD d c → c.length + 2 ≤ j → VD f m d j c V → FrS f d0 d → ∃ (q : Int32) (d' : DS), lpN BGr_readFunction_82 (M + z + 1) (Int32.ofNat f, Int32.ofNat m, Int32.ofNat c0.length, Int32.ofNat np, Int32.ofNat turn, d) = some (q, d') ∧ (q = 1 ∧ Fg cl nm N f m c0 nf d0 d' ∨ q = 0 ∧ FrS f d0 d' ∧ Bd cl nm N f m c0 d') := by
  intro z
  have hN := hK.1
  induction z with
  | zero =>
    intro d j turn st ρ γ c V M hz htu hA hst hnp hG hC hs hV hfr
    obtain ⟨hT, hfj, hjm, hmN, h7, h8, -⟩ := id hG
    have hjm2 : j = m := by omega
    subst hjm2
    rw [show M + 0 + 1 = M + 1 by omega, lp_succ]
    unfold BGr_readFunction_82
    dsimp only
    rcases hst with ⟨rfl, hbl⟩ | ⟨rfl, hbl⟩
    · obtain ⟨q, d', e1, e2, e3⟩ := stmt_ok hK hm40 hA hG hC hs hV hbl
      have hp : 0 < V.1.length := List.length_pos_iff.mpr hbl
      have hv2 := hV.2.1
      rw [if_neg (show ¬ d.2 9 ≤ 0 by rw [hV.1, i_le, onat (by omega), n0]; omega), if_pos (show (0 : Int32) < d.2 9 by rw [hV.1, i_lt, onat (by omega), n0]; omega), e1, Option.bind_some]
      rcases e3 with ⟨rfl, j', st', ρ', γ', c', V', w1, w2, w3, w4, -⟩ | ⟨rfl, hB⟩
      · have := w4.2.2.1
        omega
      · rw [if_pos rfl]
        by_cases ht : (240 : Int32) ≤ Int32.ofNat turn
        · rw [if_pos ht]
          exact ⟨0, d, rfl, Or.inr ⟨rfl, hfr, Bd.at hA (by omega) hG hC (by omega) (fun h => by omega)⟩⟩
        · rw [if_neg ht]
          exact ⟨0, d', rfl, Or.inr ⟨rfl, hfr.tr e2, hB⟩⟩
    · have h90 : d.2 9 = 0 := by rw [hV.1, hbl]; rfl
      obtain ⟨d2, k1, k2, k3⟩ := cd_add (a := 0) (b := 0) hC (by omega)
      obtain ⟨d3, k4, k5, k6⟩ := cd_add (a := 8) (b := 0) k2 (by rw [lenc]; omega)
      have h53 : d3.2 5 = Int32.ofNat nf := by
        rw [k6.2 5 (by decide), k3.2 5 (by decide), hfr.2.1 5 (by decide) (by decide) (by decide)]; exact h50
      rw [h90, h7, h8, if_pos (show (0 : Int32) ≤ 0 by decide), if_neg (show ¬ (0 : Int32) < 0 by decide), if_pos (show Int32.ofNat j ≤ Int32.ofNat j by rw [i_le]; omega), k1, Option.bind_some, k4, Option.bind_some, fn_add h53 hnf, Option.bind_some, ite_self]
      refine ⟨1, _, rfl, Or.inl ⟨rfl, ρ, γ, c, V, d3, hA, ?_, ?_, hs, ?_, (hfr.tr (FrS.fe (FrE.fc k3))).tr (FrS.fe (FrE.fc k6)), ?_⟩⟩
      · obtain ⟨w1, w2, w3, w4, w5, w6, w7, w8, w9⟩ := (hG.fc k3).fc k6
        exact ⟨w1.cg rfl rfl rfl, w2, w3, w4, w5, w6, w7, w8, w9⟩
      · exact k5.cg rfl rfl rfl
      · have hv := (hV.fe (FrE.fc k3) Gw.rf (Nat.le_refl _)).fe (FrE.fc k6) Gw.rf (Nat.le_refl _)
        obtain ⟨v1, v2, v3, v4, v5, v6, v7, v8, v9⟩ := hv
        exact ⟨v1, v2, v3.cg (fun i _ => ⟨rfl, rfl, rfl⟩) Gw.rf, v4, v5, v6, v7, v8, v9⟩
      · have a9 : d3.1 9 = d0.1 9 := by
          rw [k6.1 9 (by decide) (by decide), k3.1 9 (by decide) (by decide)]
          exact hfr.1 9 (by decide) (by decide) (by decide) (by decide) (by decide) (by decide) (by decide) (by decide) (by decide) (by decide)
        have a10 : d3.1 10 = d0.1 10 := by
          rw [k6.1 10 (by decide) (by decide), k3.1 10 (by decide) (by decide)]
          exact hfr.1 10 (by decide) (by decide) (by decide) (by decide) (by decide) (by decide) (by decide) (by decide) (by decide) (by decide)
        have a11 : d3.1 11 = d0.1 11 := by
          rw [k6.1 11 (by decide) (by decide), k3.1 11 (by decide) (by decide)]
          exact hfr.1 11 (by decide) (by decide) (by decide) (by decide) (by decide) (by decide) (by decide) (by decide) (by decide) (by decide)
        rw [a9, a10, a11, hnp, onat1 (by omega)]
  | succ z ih =>
    intro d j turn st ρ γ c V M hz htu hA hst hnp hG hC hs hV hfr
    obtain ⟨hT, hfj, hjm, hmN, h7, h8, -⟩ := id hG
    by_cases hz0 : m - j ≤ z
    · have := ih d j turn st ρ γ c V (M + 1) hz0 htu hA hst hnp hG hC hs hV hfr
      rw [show M + 1 + z + 1 = M + (z + 1) + 1 by omega] at this
      exact this
    rw [show M + (z + 1) + 1 = (M + z + 1) + 1 by omega, lp_succ]
    unfold BGr_readFunction_82
    dsimp only
    rw [if_neg (show ¬ (240 : Int32) ≤ Int32.ofNat turn by rw [i_le, onat (by omega), n240]; omega)]
    rcases hst with ⟨rfl, hbl⟩ | ⟨rfl, hbl⟩
    · obtain ⟨q, d', e1, e2, e3⟩ := stmt_ok hK hm40 hA hG hC hs hV hbl
      have hp : 0 < V.1.length := List.length_pos_iff.mpr hbl
      have hv2 := hV.2.1
      rw [if_neg (show ¬ d.2 9 ≤ 0 by rw [hV.1, i_le, onat (by omega), n0]; omega), e1, Option.bind_some]
      rcases e3 with ⟨rfl, j', st', ρ', γ', c', V', w1, w2, w3, w4, w5, w6, w7⟩ | ⟨rfl, hB⟩
      · dsimp only
        rw [if_neg ne10, onat1 (by omega)]
        have hnp' := (aut_np (j' - j) j _ _ hfj (show 5 ≤ 6 by omega) hA (by rw [show j + (j' - j) = j' by omega]; exact w2)).2
        exact ih d' j' (turn + 1) st' ρ' γ' c' V' M (by omega) (by omega) w2 w3 (hnp'.trans hnp) w4 w5 w6 w7 (hfr.tr e2)
      · dsimp only
        rw [if_pos rfl]
        exact ⟨0, d', rfl, Or.inr ⟨rfl, hfr.tr e2, hB⟩⟩
    · have h90 : d.2 9 = 0 := by rw [hV.1, hbl]; rfl
      rw [h90, h7, h8, if_pos (show (0 : Int32) ≤ 0 by decide), if_neg (show ¬ (0 : Int32) < 0 by decide), if_neg (show ¬ Int32.ofNat m ≤ Int32.ofNat j by rw [o_le (by omega) (by omega)]; omega)]
      refine ⟨0, d, rfl, Or.inr ⟨rfl, hfr, j, _, hfj, hjm, hA, fun _ => by omega, fun _ => ?_, h7, c.length, by omega, hC.1, fun k a b => by
        have z1 := hG.2.2.2.2.2.2.1 k (by omega) b
        rw [hG.2.2.2.2.2.2.2.1 k (by omega)] at z1
        exact z1⟩⟩
      rw [aut_g hfj hA]
      rfl
abbrev V0 (np : Nat) (σ : Nat → Nat) : VS := ([], 0, 0, 0, (0, 0), np, σ, fun _ => 0, fun _ => 0)
def HD (f m : Nat) (d : DS) (np : Nat) : Prop := d.2 9 = 0 ∧ (∀ i, i < np → d.1 16 (f + 3 + 2 * i) = Int32.ofNat (f + 2) ∧ d.1 17 (f + 3 + 2 * i) = Int32.ofNat (f + 3 + 2 * i + 1)) ∧ d.1 18 (f + 2) = Int32.ofNat m
theorem par_loop {cl nm : Nat → Nat} {N f m : Nat} {c0 : Cds} (hK : TK cl nm N) (hc0 : c0.length ≤ f) : ∀ (z : Nat) (d : DS) (J np st : Nat) (ρ γ σ : Nat → Nat) (M : Nat), m - J ≤ z → J = f + 3 + 2 * np → (st = 2 ∧ ¬ (J < m ∧ cl J = 41) ∨ st = 4) → aut cl nm f c0 J = some (st, [], ρ, γ, c0, V0 np σ) → GTk cl nm N f m d J [] ρ γ → CD d c0 → HD f m d np → ∃ (q : Int32) (d' : DS), lpN BGr_readParameters_42 (M + z + 1) (Int32.ofNat (f + 2), Int32.ofNat (np + 1), d) = some (q, d') ∧ FrS f d d' ∧ ((∃ (np' j' : Nat) (ρ' σ' : Nat → Nat), q = Int32.ofNat np' ∧ np' < 240 ∧ f + 3 + 2 * np' ≤ j' ∧ aut cl nm f c0 j' = some (5, [], ρ', γ, c0, V0 np' σ') ∧ GTk cl nm N f m d' j' [] ρ' γ ∧ CD d' c0 ∧ HD f m d' np') ∨ q = -1 ∧ Bd cl nm N f m c0 d') := by
  intro z
  have hN := hK.1
  induction z with
  | zero =>
    intro d J np st ρ γ σ M hz hJ hst hA hG hC hH
    obtain ⟨hT, hfj, hjm, hmN, h7, h8, -⟩ := id hG
    rw [show M + 0 + 1 = M + 1 by omega, lp_succ]
    unfold BGr_readParameters_42
    dsimp only
    rw [if_neg (show ¬ (240 : Int32) < Int32.ofNat (np + 1) by rw [i_lt, onat (by omega), n240]; omega), tn_no (a1 := 2) hK hT h7 h8 hmN hjm (by omega), Option.bind_some]
    dsimp only
    rw [if_pos rfl]
    exact ⟨-1, d, rfl, FrS.rf, Or.inr ⟨rfl, Bd.at hA (by omega) hG hC (by omega) (fun h => by omega)⟩⟩
  | succ z ih =>
    intro d J np st ρ γ σ M hz hJ hst hA hG hC hH
    obtain ⟨hT, hfj, hjm, hmN, h7, h8, -⟩ := id hG
    have hst5 : st ≤ 5 := by omega
    have hhd : stp cl nm f J (st, [], ρ, γ, c0, V0 np σ) = xHd f J (cl J) st ρ γ c0 (V0 np σ) := by
      unfold stp
      dsimp only
      rw [if_pos hst5]
    rw [show M + (z + 1) + 1 = (M + z + 1) + 1 by omega, lp_succ]
    unfold BGr_readParameters_42
    dsimp only
    rw [if_neg (show ¬ (240 : Int32) < Int32.ofNat (np + 1) by rw [i_lt, onat (by omega), n240]; omega)]
    by_cases h200 : J < m ∧ cl J = 200
    · rw [tn_yes (a1 := 2) hK hT h7 h8 hmN h200.1 h200.2, Option.bind_some]
      dsimp only
      have hG1 := hG.nm h200.1 (a1 := 2) (t := 2) rfl (by omega)
      have hA1 : aut cl nm f c0 (J + 1) = some (3, [], upN ρ J 2, γ, c0, V0 (np + 1) (upN σ J f)) := by
        rw [aut_g hfj hA, hhd]
        unfold xHd
        rw [if_neg (by omega), if_neg (by omega), if_neg (by omega), if_neg (by omega), if_neg (by omega), if_pos h200.2]
      rw [if_neg ne10, h7, if_pos (o_inb (show J < 240 by omega) (by omega)), if_pos (o_inb (show J < 240 by omega) (by omega)), o_nat (by omega), up_eq]
      have hG2 : GTk cl nm N f m (va_up (va_up (va_up d.1 13 (upd (d.1 13) J 2)) 16 (upd (va_up d.1 13 (upd (d.1 13) J 2) 16) J (Int32.ofNat (f + 2)))) 17 (upd (va_up d.1 13 (upd (d.1 13) J 2) 17) J (Int32.ofNat (J + 1))), va_up d.2 7 (Int32.ofNat (J + 1))) (J + 1) [] (upN ρ J 2) γ := by
        obtain ⟨w1, w2, w3, w4, w5, w6, w7, w8, w9⟩ := hG1
        exact ⟨w1.cg rfl rfl rfl, w2, w3, w4, w5, w6, w7, w8, w9⟩
      have hC2 : CD (va_up (va_up (va_up d.1 13 (upd (d.1 13) J 2)) 16 (upd (va_up d.1 13 (upd (d.1 13) J 2) 16) J (Int32.ofNat (f + 2)))) 17 (upd (va_up d.1 13 (upd (d.1 13) J 2) 17) J (Int32.ofNat (J + 1))), va_up d.2 7 (Int32.ofNat (J + 1))) c0 := hC.cg rfl rfl rfl
      have hH2 : HD f m (va_up (va_up (va_up d.1 13 (upd (d.1 13) J 2)) 16 (upd (va_up d.1 13 (upd (d.1 13) J 2) 16) J (Int32.ofNat (f + 2)))) 17 (upd (va_up d.1 13 (upd (d.1 13) J 2) 17) J (Int32.ofNat (J + 1))), va_up d.2 7 (Int32.ofNat (J + 1))) (np + 1) := by
        obtain ⟨x1, x2, x3⟩ := hH
        refine ⟨x1, fun i hi => ?_, x3⟩
        show upd (d.1 16) J (Int32.ofNat (f + 2)) (f + 3 + 2 * i) = _ ∧ upd (d.1 17) J (Int32.ofNat (J + 1)) (f + 3 + 2 * i) = _
        by_cases hi2 : i = np
        · subst hi2
          rw [← hJ, ud_eq, ud_eq]
          exact ⟨rfl, rfl⟩
        · rw [ud_ne (by omega), ud_ne (by omega)]
          exact x2 i (by omega)
      have fr2 : FrS f d (va_up (va_up (va_up d.1 13 (upd (d.1 13) J 2)) 16 (upd (va_up d.1 13 (upd (d.1 13) J 2) 16) J (Int32.ofNat (f + 2)))) 17 (upd (va_up d.1 13 (upd (d.1 13) J 2) 17) J (Int32.ofNat (J + 1))), va_up d.2 7 (Int32.ofNat (J + 1))) := ⟨fun i a b c _ _ _ _ _ _ _ => (up_ne c).trans ((up_ne b).trans (up_ne a)), fun i _ a _ => up_ne a, fun k hk => ⟨ud_ne (by omega), ud_ne (by omega), ud_ne (by omega), rfl, rfl⟩⟩
      obtain ⟨hT2, hfj2, hjm2, -, h72, h82, -⟩ := id hG2
      have hhd3 : stp cl nm f (J + 1) (3, [], upN ρ J 2, γ, c0, V0 (np + 1) (upN σ J f)) = xHd f (J + 1) (cl (J + 1)) 3 (upN ρ J 2) γ c0 (V0 (np + 1) (upN σ J f)) := rfl
      by_cases h41 : J + 1 < m ∧ cl (J + 1) = 41
      · rw [ts_yes (a1 := 41) (t := 41) hK hT2 h72 h82 hmN rfl h41.1 h41.2 (by omega) (by omega), Option.bind_some]
        dsimp only
        rw [if_neg ne10]
        refine ⟨_, _, rfl, fr2.tr (FrS.fe FrE.nx), Or.inl ⟨np + 1, J + 1 + 1, upN ρ J 2, upN σ J f, rfl, by omega, by omega, ?_, hG2.nx h41.1 (fun k h => h), hC2.cg rfl rfl rfl, ⟨hH2.1, hH2.2⟩⟩⟩
        rw [aut_g hfj2 hA1, hhd3, h41.2]
        rfl
      · rw [ts_no (a1 := 41) (t := 41) hK hT2 h72 h82 hmN hjm2 rfl (by omega) h41, Option.bind_some]
        dsimp only
        rw [if_pos rfl]
        by_cases h44 : J + 1 < m ∧ cl (J + 1) = 44
        · rw [ts_yes (a1 := 44) (t := 44) hK hT2 h72 h82 hmN rfl h44.1 h44.2 (by omega) (by omega), Option.bind_some]
          dsimp only
          rw [if_neg ne10, onat1 (by omega)]
          have hA2 : aut cl nm f c0 (J + 1 + 1) = some (4, [], upN ρ J 2, γ, c0, V0 (np + 1) (upN σ J f)) := by
            rw [aut_g hfj2 hA1, hhd3, h44.2]
            rfl
          obtain ⟨q, d', e1, e2, e3⟩ := ih _ (J + 1 + 1) (np + 1) 4 (upN ρ J 2) γ (upN σ J f) M (by omega) (by omega) (Or.inr rfl) hA2 (hG2.nx h44.1 (fun k h => h)) (hC2.cg rfl rfl rfl) ⟨hH2.1, hH2.2⟩
          exact ⟨q, d', e1, (fr2.tr (FrS.fe FrE.nx)).tr e2, e3⟩
        · rw [ts_no (a1 := 44) (t := 44) hK hT2 h72 h82 hmN hjm2 rfl (by omega) h44, Option.bind_some]
          dsimp only
          rw [if_pos rfl]
          refine ⟨-1, _, rfl, fr2, Or.inr ⟨rfl, Bd.at hA1 (by omega) hG2 hC2 (by omega) (fun h => ?_)⟩⟩
          rw [hhd3]
          unfold xHd
          rw [if_neg (by omega), if_neg (by omega), if_neg (by omega), if_neg (fun h1 => h41 ⟨h, h1.2⟩), if_pos rfl, if_neg (fun h1 => h44 ⟨h, h1⟩)]
    · rw [tn_no (a1 := 2) hK hT h7 h8 hmN hjm h200, Option.bind_some]
      dsimp only
      rw [if_pos rfl]
      refine ⟨-1, d, rfl, FrS.rf, Or.inr ⟨rfl, Bd.at hA (by omega) hG hC (by omega) (fun h => ?_)⟩⟩
      rw [hhd]
      unfold xHd
      have z41 : ¬ (st ≠ 4 ∧ cl J = 41) := fun h1 => by
        rcases hst with h2 | h2
        · exact h2.2 ⟨h, h1.2⟩
        · exact h1.1 h2
      rw [if_neg (by omega), if_neg (by omega), if_neg (by omega), if_neg z41, if_neg (by omega), if_neg (fun h1 => h200 ⟨h, h1⟩)]
abbrev fd0 (f m : Nat) (d : DS) : DS := (d.1, va_up (va_up (va_up d.2 7 (Int32.ofNat f)) 8 (Int32.ofNat m)) 9 0)
theorem func_ok {cl nm : Nat → Nat} {N f m nf : Nat} {c0 : Cds} {d : DS} (hK : TK cl nm N) (hm40 : cl m ≠ 40) (hfm : f < m) (hmN : m ≤ N) (hT : DTok cl nm N d) (h13 : ∀ k, f ≤ k → k < N → d.1 13 k = 0) (hC : CD d c0) (hc0 : c0.length ≤ f) (h5 : d.2 5 = Int32.ofNat nf) (hnf : nf < 4) : ∃ (q : Int32) (d' : DS), f_Gr_readFunction (Int32.ofNat f) (Int32.ofNat m) d = some (q, d') ∧ (q = 1 ∧ cl f = 400 ∧ Fg cl nm N f m c0 nf (fd0 f m d) d' ∨ q = 0 ∧ FrS f (fd0 f m d) d' ∧ (cl f ≠ 400 ∧ d' = fd0 f m d ∨ cl f = 400 ∧ Bd cl nm N f m c0 d')) := by
  have hN := hK.1
  have hT0 : DTok cl nm N (fd0 f m d) := hT.cg rfl rfl rfl
  unfold f_Gr_readFunction
  rw [show (d.1, va_up (va_up (va_up d.2 7 (Int32.ofNat f)) 8 (Int32.ofNat m)) 9 0) = fd0 f m d from rfl, isFn_ok hK hT0 (show f < N by omega), Option.bind_some]
  dsimp only
  by_cases h400 : cl f = 400
  · rw [if_pos h400, if_neg ne10]
    have e7 : va_up (va_up (va_up d.2 7 (Int32.ofNat f)) 8 (Int32.ofNat m)) 9 0 7 + 1 = Int32.ofNat (f + 1) := by
      rw [up_ne (by decide), up_ne (by decide), up_eq, onat1 (by omega)]
    rw [e7]
    have hA0 : aut cl nm f c0 (f + 1) = some (0, [], fun _ => 0, fun _ => 0, c0, V0 0 (fun _ => 0)) := by
      unfold aut
      rw [Nat.sub_self]; rfl
    have hG0 : GTk cl nm N f m (nx (fd0 f m d) (f + 1)) (f + 1) [] (fun _ => 0) (fun _ => 0) := ⟨hT0.cg rfl rfl rfl, by omega, by omega, hmN, rfl, rfl.trans rfl, fun k a b => h13 k a b, fun _ _ => rfl, fun k _ _ h => absurd (show (0 : Nat) = 6 from h) (by decide)⟩
    have hC0 : CD (nx (fd0 f m d) (f + 1)) c0 := hC.cg rfl rfl rfl
    have fr0 : FrS f (fd0 f m d) (nx (fd0 f m d) (f + 1)) := FrS.fe FrE.nx
    obtain ⟨hTa, hfja, hjma, -, h7a, h8a, -⟩ := id hG0
    by_cases h200 : f + 1 < m ∧ cl (f + 1) = 200
    · rw [tn_yes (a1 := 1) hK hTa h7a h8a hmN h200.1 h200.2, Option.bind_some]
      dsimp only
      rw [if_neg ne10]
      have hG1 := hG0.nm h200.1 (a1 := 1) (t := 1) rfl (by omega)
      have hA1 : aut cl nm f c0 (f + 1 + 1) = some (1, [], upN (fun _ => 0) (f + 1) 1, fun _ => 0, c0, V0 0 (fun _ => 0)) := by
        rw [aut_g hfja hA0]
        unfold stp
        dsimp only
        rw [if_pos (by omega)]
        unfold xHd
        rw [if_pos rfl, if_pos h200.2]
      have hC1 : CD (va_up (nx (fd0 f m d) (f + 1)).1 13 (upd ((nx (fd0 f m d) (f + 1)).1 13) (f + 1) 1), va_up (nx (fd0 f m d) (f + 1)).2 7 (Int32.ofNat (f + 1 + 1))) c0 := hC0.cg rfl rfl rfl
      have fr1 : FrS f (fd0 f m d) (va_up (nx (fd0 f m d) (f + 1)).1 13 (upd ((nx (fd0 f m d) (f + 1)).1 13) (f + 1) 1), va_up (nx (fd0 f m d) (f + 1)).2 7 (Int32.ofNat (f + 1 + 1))) := fr0.tr (FrS.fe ⟨fun i a _ _ _ => up_ne a, fun i _ a => up_ne a, fun k hk => ⟨ud_ne (by omega), rfl⟩⟩)
      obtain ⟨hTb, hfjb, hjmb, -, h7b, h8b, -⟩ := id hG1
      unfold f_Gr_readParameters
      have hstp1 : stp cl nm f (f + 1 + 1) (1, [], upN (fun _ => 0) (f + 1) 1, fun _ => 0, c0, V0 0 (fun _ => 0)) = if cl (f + 1 + 1) = 40 then some (2, [], upN (fun _ => 0) (f + 1) 1, fun _ => 0, c0, V0 0 (fun _ => 0)) else none := rfl
      by_cases h40 : f + 1 + 1 < m ∧ cl (f + 1 + 1) = 40
      · rw [ts_yes (a1 := 40) (t := 40) hK hTb h7b h8b hmN rfl h40.1 h40.2 (by omega) (by omega), Option.bind_some]
        dsimp only
        rw [if_neg ne10]
        have q7 : va_up (nx (fd0 f m d) (f + 1)).2 7 (Int32.ofNat (f + 1 + 1)) 7 = Int32.ofNat (f + 2) := rfl
        have q8 : va_up (va_up (nx (fd0 f m d) (f + 1)).2 7 (Int32.ofNat (f + 1 + 1))) 7 (Int32.ofNat (f + 1 + 1 + 1)) 8 = Int32.ofNat m := h8b
        have hA2 : aut cl nm f c0 (f + 1 + 1 + 1) = some (2, [], upN (fun _ => 0) (f + 1) 1, fun _ => 0, c0, V0 0 (fun _ => 0)) := by
          rw [aut_g hfjb hA1, hstp1, if_pos h40.2]
        dsimp only at q7 q8
        simp only [q7, q8, o_inb (show f + 2 < 240 by omega) (show f + 2 < 2147483648 by omega), o_nat (show f + 2 < 2147483648 by omega), ↓reduceIte]
        have hGc : GTk cl nm N f m (va_up (va_up (nx (fd0 f m d) (f + 1)).1 13 (upd ((nx (fd0 f m d) (f + 1)).1 13) (f + 1) 1)) 18 (upd (va_up (nx (fd0 f m d) (f + 1)).1 13 (upd ((nx (fd0 f m d) (f + 1)).1 13) (f + 1) 1) 18) (f + 2) (Int32.ofNat m)), va_up (va_up (nx (fd0 f m d) (f + 1)).2 7 (Int32.ofNat (f + 1 + 1))) 7 (Int32.ofNat (f + 1 + 1 + 1))) (f + 1 + 1 + 1) [] (upN (fun _ => 0) (f + 1) 1) (fun _ => 0) := by
          obtain ⟨w1, w2, w3, w4, w5, w6, w7, w8, w9⟩ := hG1.nx h40.1 (cs' := []) (fun k h => h)
          exact ⟨w1.cg rfl rfl rfl, w2, w3, w4, w5, w6, w7, w8, w9⟩
        have hCc : CD (va_up (va_up (nx (fd0 f m d) (f + 1)).1 13 (upd ((nx (fd0 f m d) (f + 1)).1 13) (f + 1) 1)) 18 (upd (va_up (nx (fd0 f m d) (f + 1)).1 13 (upd ((nx (fd0 f m d) (f + 1)).1 13) (f + 1) 1) 18) (f + 2) (Int32.ofNat m)), va_up (va_up (nx (fd0 f m d) (f + 1)).2 7 (Int32.ofNat (f + 1 + 1))) 7 (Int32.ofNat (f + 1 + 1 + 1))) c0 := hC1.cg rfl rfl rfl
        have hHc : HD f m (va_up (va_up (nx (fd0 f m d) (f + 1)).1 13 (upd ((nx (fd0 f m d) (f + 1)).1 13) (f + 1) 1)) 18 (upd (va_up (nx (fd0 f m d) (f + 1)).1 13 (upd ((nx (fd0 f m d) (f + 1)).1 13) (f + 1) 1) 18) (f + 2) (Int32.ofNat m)), va_up (va_up (nx (fd0 f m d) (f + 1)).2 7 (Int32.ofNat (f + 1 + 1))) 7 (Int32.ofNat (f + 1 + 1 + 1))) 0 := ⟨rfl, fun i hi => absurd hi (Nat.not_lt_zero _), ud_eq⟩
        have frc : FrS f (fd0 f m d) (va_up (va_up (nx (fd0 f m d) (f + 1)).1 13 (upd ((nx (fd0 f m d) (f + 1)).1 13) (f + 1) 1)) 18 (upd (va_up (nx (fd0 f m d) (f + 1)).1 13 (upd ((nx (fd0 f m d) (f + 1)).1 13) (f + 1) 1) 18) (f + 2) (Int32.ofNat m)), va_up (va_up (nx (fd0 f m d) (f + 1)).2 7 (Int32.ofNat (f + 1 + 1))) 7 (Int32.ofNat (f + 1 + 1 + 1))) := (fr1.tr (FrS.fe (FrE.nx (j := f + 1 + 1 + 1)))).tr ⟨fun i _ _ _ a _ _ _ _ _ _ => up_ne a, fun _ _ _ _ => rfl, fun k hk => ⟨rfl, rfl, rfl, ud_ne (by omega), rfl⟩⟩
        obtain ⟨hTc, hfjc, hjmc, -, h7c, h8c, -⟩ := id hGc
        have hpar : ∃ (q : Int32) (d' : DS), ((f_Gr_takeSign 41 (va_up (va_up (nx (fd0 f m d) (f + 1)).1 13 (upd ((nx (fd0 f m d) (f + 1)).1 13) (f + 1) 1)) 18 (upd (va_up (nx (fd0 f m d) (f + 1)).1 13 (upd ((nx (fd0 f m d) (f + 1)).1 13) (f + 1) 1) 18) (f + 2) (Int32.ofNat m)), va_up (va_up (nx (fd0 f m d) (f + 1)).2 7 (Int32.ofNat (f + 1 + 1))) 7 (Int32.ofNat (f + 1 + 1 + 1)))).bind (fun q4 => if q4.1 = 0 then lpN (BGr_readParameters_42) 100000 (Int32.ofNat (f + 2), 1, q4.2) else some (0, q4.2))) = some (q, d') ∧ FrS f (fd0 f m d) d' ∧ ((∃ (np' j' : Nat) (ρ' σ' : Nat → Nat), q = Int32.ofNat np' ∧ np' < 240 ∧ f + 3 + 2 * np' ≤ j' ∧ aut cl nm f c0 j' = some (5, [], ρ', fun _ => 0, c0, V0 np' σ') ∧ GTk cl nm N f m d' j' [] ρ' (fun _ => 0) ∧ CD d' c0 ∧ HD f m d' np') ∨ q = -1 ∧ Bd cl nm N f m c0 d') := by
          by_cases h41 : f + 1 + 1 + 1 < m ∧ cl (f + 1 + 1 + 1) = 41
          · rw [ts_yes (a1 := 41) (t := 41) hK hTc h7c h8c hmN rfl h41.1 h41.2 (by omega) (by omega), Option.bind_some]
            dsimp only
            rw [if_neg ne10]
            refine ⟨0, _, rfl, frc.tr (FrS.fe FrE.nx), Or.inl ⟨0, f + 1 + 1 + 1 + 1, upN (fun _ => 0) (f + 1) 1, (fun _ => 0), rfl, by omega, by omega, ?_, hGc.nx h41.1 (fun k h => h), hCc.cg rfl rfl rfl, ⟨hHc.1, hHc.2⟩⟩⟩
            rw [aut_g hfjc hA2]
            show xHd f (f + 1 + 1 + 1) (cl (f + 1 + 1 + 1)) 2 _ _ _ _ = _
            rw [h41.2]
            rfl
          · rw [ts_no (a1 := 41) (t := 41) hK hTc h7c h8c hmN hjmc rfl (by omega) h41, Option.bind_some]
            dsimp only
            rw [if_pos rfl]
            obtain ⟨q, d', e1, e2, e3⟩ := par_loop hK hc0 (m - (f + 1 + 1 + 1)) _ (f + 1 + 1 + 1) 0 2 _ _ _ (99999 - (m - (f + 1 + 1 + 1))) (Nat.le_refl _) (by omega) (Or.inl ⟨rfl, h41⟩) hA2 hGc hCc hHc
            rw [show 99999 - (m - (f + 1 + 1 + 1)) + (m - (f + 1 + 1 + 1)) + 1 = 100000 by omega] at e1
            exact ⟨q, d', e1, frc.tr e2, e3⟩
        obtain ⟨q, d2, p1, p2, p3⟩ := hpar
        rw [p1, Option.bind_some]
        dsimp only
        rcases p3 with ⟨np, j, ρ, σ, rfl, hnp, hnj, hA5, hG5, hC5, hH5⟩ | ⟨rfl, hB⟩
        · rw [if_neg (show ¬ Int32.ofNat np = -1 by rw [o_nm1 (by omega)]; exact id)]
          obtain ⟨hT5, hfj5, hjm5, -, h75, h85, -⟩ := id hG5
          have hstp5 : stp cl nm f j (5, [], ρ, fun _ => 0, c0, V0 np σ) = if cl j = 123 then some (6, [], ρ, fun _ => 0, c0, (j, 0, 0) :: [], (V0 np σ).2) else none := rfl
          by_cases h123 : j < m ∧ cl j = 123
          · obtain ⟨d3, k1, k2, k3⟩ := open_ok (a1 := 0) (a2 := -1) (te := 0) (ag := 0) (X := []) (n := 0) hK hG5 hC5 (by show c0.length + 0 ≤ j + 1; omega) hH5.1 (by omega) h123.1 h123.2 (Or.inl ⟨rfl, rfl, rfl, rfl, rfl⟩)
            rw [List.append_nil] at k2
            rw [k1, Option.bind_some]
            dsimp only
            rw [if_neg ne10]
            have hA6 : aut cl nm f c0 (j + 1) = some (6, [], ρ, fun _ => 0, c0, (j, 0, 0) :: [], (V0 np σ).2) := by
              rw [aut_g hfj5 hA5, hstp5, if_pos h123.2]
            have hjf : f + 3 < j := by
              have : j ≠ f + 3 := by
                intro hj3
                rw [hj3] at hA5
                have hA5' := hA5.symm.trans (show aut cl nm f c0 (f + 3) = _ from hA2)
                have := congrArg (fun x : Option XS => (x.map (fun y => y.1)).getD 0) hA5'
                simp at this
              omega
            have hV6 : VD f m d3 (j + 1) c0 ((j, 0, 0) :: [], (V0 np σ).2) := by
              obtain ⟨o1, o2, o3, o4, o5, o6, o7, o8⟩ := id k3
              refine ⟨o4, by show 1 ≤ 4; omega, ⟨o5, o6, o7, by show f + 2 < j; omega, by show j < 240; omega, fun h => absurd rfl h, by show 0 ≤ 240; omega, trivial⟩, fun k h => absurd rfl h, fun k h => absurd rfl h, ?_, ?_, by show f + 3 + 2 * np ≤ j + 1; omega, by omega⟩
              · rw [o1 16 (by decide) (by decide) (by decide) (by decide) (by decide), o1 17 (by decide) (by decide) (by decide) (by decide) (by decide)]
                exact hH5.2.1
              · rw [o1 18 (by decide) (by decide) (by decide) (by decide) (by decide)]
                exact hH5.2.2
            have hq6 : d.2 6 = Int32.ofNat c0.length := hC.1
            have h50 : (fd0 f m d).2 5 = Int32.ofNat nf := rfl.trans h5
            obtain ⟨q, d', e1, e2⟩ := fn_loop hK hm40 (d0 := fd0 f m d) (nf := nf) (np := np) hnf h50 (m - (j + 1)) d3 (j + 1) 0 6 ρ (fun _ => 0) c0 _ (99999 - (m - (j + 1))) (Nat.le_refl _) (by omega) hA6 (Or.inl ⟨rfl, List.cons_ne_nil _ _⟩) rfl (hG5.opn k3 h123.1 (fun k h => h)) k2 (by omega) hV6 (p2.tr (FrS.opn k3))
            rw [show 99999 - (m - (j + 1)) + (m - (j + 1)) + 1 = 100000 by omega] at e1
            rw [hq6]
            refine ⟨q, d', e1, ?_⟩
            rcases e2 with ⟨hq, h⟩ | ⟨hq, h1, h2⟩
            · exact Or.inl ⟨hq, h400, h⟩
            · exact Or.inr ⟨hq, h1, Or.inr ⟨h400, h2⟩⟩
          · have hno : f_Gr_openBlock 0 (-1) d2 = some (0, d2) := by
              unfold f_Gr_openBlock
              rw [if_neg (show ¬ (4 : Int32) ≤ d2.2 9 by rw [hH5.1]; decide), ts_no (a1 := 123) (t := 123) hK hT5 h75 h85 hmN hjm5 rfl (by omega) h123, Option.bind_some]
              dsimp only
              rw [if_pos rfl]
            rw [hno, Option.bind_some]
            dsimp only
            rw [if_pos rfl]
            refine ⟨0, d2, rfl, Or.inr ⟨rfl, p2, Or.inr ⟨h400, Bd.at hA5 (by omega) hG5 hC5 (by omega) (fun h => ?_)⟩⟩⟩
            rw [hstp5, if_neg (fun h1 => h123 ⟨h, h1⟩)]
        · rw [if_pos rfl]
          exact ⟨0, d2, rfl, Or.inr ⟨rfl, p2, Or.inr ⟨h400, hB⟩⟩⟩
      · rw [ts_no (a1 := 40) (t := 40) hK hTb h7b h8b hmN hjmb rfl (by omega) h40, Option.bind_some]
        dsimp only
        rw [if_pos rfl]
        dsimp only [Option.bind_some]
        rw [if_pos rfl]
        refine ⟨0, _, rfl, Or.inr ⟨rfl, fr1, Or.inr ⟨h400, Bd.at hA1 (by omega) hG1 hC1 (by omega) (fun h => ?_)⟩⟩⟩
        rw [hstp1, if_neg (fun h1 => h40 ⟨h, h1⟩)]
    · rw [tn_no (a1 := 1) hK hTa h7a h8a hmN hjma h200, Option.bind_some]
      dsimp only
      rw [if_pos rfl]
      refine ⟨0, _, rfl, Or.inr ⟨rfl, fr0, Or.inr ⟨h400, Bd.at hA0 (by omega) hG0 hC0 (by omega) (fun h => ?_)⟩⟩⟩
      unfold stp
      dsimp only
      rw [if_pos (by omega)]
      unfold xHd
      rw [if_pos rfl, if_neg (fun h1 => h200 ⟨h, h1⟩)]
  · rw [if_neg h400, if_pos rfl]
    exact ⟨0, _, rfl, Or.inr ⟨rfl, FrS.rf, Or.inl ⟨h400, rfl⟩⟩⟩
