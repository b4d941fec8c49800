/-! terms, sums, expressions: loops over what the level below has read -/
theorem term_loop {cl nm : Nat → Nat} {N f m : Nat} {c0 : Cds} (hK : TK cl nm N) {E : Int32 × DS → Option (Int32 × DS)} {b ca le cn s j0 : Nat} {o : List Nat} {F : List Fm} {V : VS} (hb : b ≤ 4) (hF : F.length = b) (ho : ∀ t, t ∈ o → rk t < 3) (hfac : Lv cl nm N f m c0 (f_Gr_readFactor E) 4 b) : ∀ (z : Nat) (d : DS) (j st more : Nat) (o' : List Nat) (ρ γ : Nat → Nat) (c : Cds) (M : Nat), m - j ≤ z → j0 < j → more ≤ j → (st = 11 ∨ st = 12) → aut cl nm f c0 j = some (st, (ca, le, cn, o' ++ o) :: F, ρ, γ, c, V) → (∀ t, t ∈ o' → 3 ≤ rk t) → GTk cl nm N f m d j (ca :: F.map (fun x => x.1)) ρ γ → CD d (c ++ oi o') → c.length + o'.length + s ≤ j → Nxt cl m 4 j st le F.length → ∃ (q : Int32) (d' : DS), lpN (BGr_readTerm_12 E) (M + z + 1) (Int32.ofNat b, Int32.ofNat more, d) = some (q, d') ∧ FrE f d d' ∧ (q = 1 ∧ Gd cl nm N f m c0 3 s d' j0 ca le cn o F V ∨ q = 0 ∧ Bd cl nm N f m c0 d') := by
  intro z
  have hN := hK.1
  induction z with
  | zero =>
    intro d j st more o' ρ γ c M hz hj0 hmo hst hA ho' hG hC hs hNx
    obtain ⟨hT, hfj, hjm, hmN, h7, h8, -⟩ := id hG
    refine ⟨1, d, ?_, FrE.rf, Or.inl ⟨rfl, j, st, le, o', ρ, γ, c, hj0, hst, hA, hG, hC, hs, ho', fun _ => rfl, fun h => by omega⟩⟩
    rw [show M + 0 + 1 = M + 1 by omega, lp_succ]
    unfold BGr_readTerm_12
    dsimp only
    rw [ts_no (a1 := 42) (t := 42) hK hT h7 h8 hmN hjm rfl (by omega) (by omega), Option.bind_some]
    simp only [↓reduceIte, ite_self]
  | succ z ih =>
    intro d j st more o' ρ γ c M hz hj0 hmo hst hA ho' hG hC hs hNx
    obtain ⟨hT, hfj, hjm, hmN, h7, h8, -⟩ := id hG
    have hlen : c.length + (oi o').length = (c ++ oi o').length := by rw [List.length_append]
    rw [oi_len] at hlen
    rw [show M + (z + 1) + 1 = (M + z + 1) + 1 by omega, lp_succ]
    unfold BGr_readTerm_12
    dsimp only
    by_cases h42 : j < m ∧ cl j = 42
    · have hx : aut cl nm f c0 (j + 1) = some (9, (ca, le, cn, 42 :: o) :: F, ρ, γ, c ++ oi o', V) := by
        rw [aut_g hfj hA, stp_opr hst (by omega)]
        unfold xOpr
        rw [h42.2, if_pos (by omega), (show rk 42 = 3 from rfl), (tw_app ho' ho).1, (tw_app ho' ho).2]
      obtain ⟨q, d1, e1, e2, e3⟩ := hfac (nx d (j + 1)) (j + 1) 9 ca le cn (42 :: o) F ρ γ (c ++ oi o') V (s + 1) hF (Or.inl rfl) (fun t h => by have := rk_le t; omega) (fun h => by omega) hx (hG.nx h42.1 (fun k h => h)) (hC.cg rfl rfl rfl) (by rw [← hlen]; omega)
      rw [if_neg (show ¬ (240 : Int32) ≤ Int32.ofNat more by rw [i_le, onat (by omega), n240]; omega), ts_yes (a1 := 42) (t := 42) hK hT h7 h8 hmN rfl h42.1 h42.2 (by omega) (by omega), Option.bind_some]
      dsimp only
      rw [if_neg ne10, e1, Option.bind_some]
      dsimp only
      rcases e3 with ⟨rfl, j', st', le', o2, ρ', γ', c', g1, g2, g3, g4, g5, g6, g7, g8, g9⟩ | ⟨rfl, hB⟩
      · have ho2 : o2 = [] := by
          cases o2 with
          | nil => rfl
          | cons t l =>
            have := g7 t (List.mem_cons_self ..)
            have := rk_le t
            omega
        subst ho2
        have hle : le' = le := g8 (by omega)
        subst hle
        rw [if_neg (show ¬ (9 : Nat) = 10 by omega)] at g3
        have g5' : CD d1 c' := by
          have : CD d1 (c' ++ []) := g5
          rw [List.append_nil] at this
          exact this
        have g6' : c'.length + 0 + (s + 1) ≤ j' := g6
        have hjm' := g4.2.2.1
        obtain ⟨d2, k1, k2, k3⟩ := cd_add (a := 42) (b := 0) g5' (by omega)
        obtain ⟨q, d', w1, w2, w3⟩ := ih d2 j' st' (more + 1) [42] ρ' γ' c' M (by omega) (by omega) (by omega) g2 g3 (fun t h => by rw [List.mem_singleton.mp h]; decide) (g4.fc k3) k2 (by show c'.length + 1 + s ≤ j'; omega) g9
        rw [if_neg ne10, k1, Option.bind_some, onat1 (by omega)]
        exact ⟨q, d', w1, (FrE.nx.tr e2).tr ((FrE.fc k3).tr w2), w3⟩
      · rw [if_pos rfl]
        exact ⟨0, d1, rfl, FrE.nx.tr e2, Or.inr ⟨rfl, hB⟩⟩
    · rw [ts_no (a1 := 42) (t := 42) hK hT h7 h8 hmN hjm rfl (by omega) h42, Option.bind_some]
      refine ⟨1, d, by simp only [↓reduceIte, ite_self], FrE.rf, Or.inl ⟨rfl, j, st, le, o', ρ, γ, c, hj0, hst, hA, hG, hC, hs, ho', fun _ => rfl, fun h => ?_⟩⟩
      exact ⟨fun _ h1 => h42 ⟨h, h1⟩, fun h1 => by omega, fun h1 => by omega, (hNx h).2.2.2⟩
theorem term_ok {cl nm : Nat → Nat} {N f m : Nat} {c0 : Cds} (hK : TK cl nm N) {E : Int32 × DS → Option (Int32 × DS)} {b : Nat} (hb : b ≤ 4) (hfac : Lv cl nm N f m c0 (f_Gr_readFactor E) 4 b) : Lv cl nm N f m c0 (f_Gr_readTerm E) 3 b := by
  intro d j st ca le cn o F ρ γ c V s hF hst ho hle hA hG hC hs
  have hN := hK.1
  obtain ⟨q, d1, e1, e2, e3⟩ := hfac d j st ca le cn o F ρ γ c V s hF hst (fun t h => by have := rk_le t; omega) (fun h => by omega) hA hG hC hs
  unfold f_Gr_readTerm
  rw [e1, Option.bind_some]
  dsimp only
  rcases e3 with ⟨rfl, j', st', le', o2, ρ', γ', c', g1, g2, g3, g4, g5, g6, g7, g8, g9⟩ | ⟨rfl, hB⟩
  · have ho2 : o2 = [] := by
      cases o2 with
      | nil => rfl
      | cons t l =>
        have := g7 t (List.mem_cons_self ..)
        have := rk_le t
        omega
    subst ho2
    have hle : le' = le := g8 (by omega)
    subst hle
    obtain ⟨q, d', w1, w2, w3⟩ := term_loop hK (j0 := j) hb hF ho hfac (m - j') d1 j' st' 0 [] ρ' γ' c' (99999 - (m - j')) (Nat.le_refl _) g1 (by omega) g2 g3 (fun t h => absurd h List.not_mem_nil) g4 g5 g6 g9
    have hm := g4.2.2.1
    have hmN := g4.2.2.2.1
    rw [show 99999 - (m - j') + (m - j') + 1 = 100000 by omega] at w1
    rw [if_neg ne10]
    exact ⟨q, d', w1, e2.tr w2, w3⟩
  · rw [if_pos rfl]
    exact ⟨0, d1, rfl, e2, Or.inr ⟨rfl, hB⟩⟩
theorem sum_loop {cl nm : Nat → Nat} {N f m : Nat} {c0 : Cds} (hK : TK cl nm N) {E : Int32 × DS → Option (Int32 × DS)} {b ca le cn s j0 : Nat} {o : List Nat} {F : List Fm} {V : VS} (hb : b ≤ 4) (hF : F.length = b) (ho : ∀ t, t ∈ o → rk t < 2) (hterm : Lv cl nm N f m c0 (f_Gr_readTerm E) 3 b) : ∀ (z : Nat) (d : DS) (j st more : Nat) (o' : List Nat) (ρ γ : Nat → Nat) (c : Cds) (M : Nat), m - j ≤ z → j0 < j → more ≤ j → (st = 11 ∨ st = 12) → aut cl nm f c0 j = some (st, (ca, le, cn, o' ++ o) :: F, ρ, γ, c, V) → (∀ t, t ∈ o' → 2 ≤ rk t) → GTk cl nm N f m d j (ca :: F.map (fun x => x.1)) ρ γ → CD d (c ++ oi o') → c.length + o'.length + s ≤ j → Nxt cl m 3 j st le F.length → ∃ (q : Int32) (d' : DS), lpN (BGr_readSum_12 E) (M + z + 1) (Int32.ofNat b, Int32.ofNat more, d) = some (q, d') ∧ FrE f d d' ∧ (q = 1 ∧ Gd cl nm N f m c0 2 s d' j0 ca le cn o F V ∨ q = 0 ∧ Bd cl nm N f m c0 d') := by
  intro z
  have hN := hK.1
  induction z with
  | zero =>
    intro d j st more o' ρ γ c M hz hj0 hmo hst hA ho' hG hC hs hNx
    obtain ⟨hT, hfj, hjm, hmN, h7, h8, -⟩ := id hG
    refine ⟨1, d, ?_, FrE.rf, Or.inl ⟨rfl, j, st, le, o', ρ, γ, c, hj0, hst, hA, hG, hC, hs, ho', fun _ => rfl, fun h => by omega⟩⟩
    rw [show M + 0 + 1 = M + 1 by omega, lp_succ]
    unfold BGr_readSum_12
    dsimp only
    rw [ts_no (a1 := 43) (t := 43) hK hT h7 h8 hmN hjm rfl (by omega) (by omega), Option.bind_some]
    dsimp only
    rw [ts_no (a1 := 45) (t := 45) hK hT h7 h8 hmN hjm rfl (by omega) (by omega), Option.bind_some]
    simp only [↓reduceIte, ite_self]
  | succ z ih =>
    intro d j st more o' ρ γ c M hz hj0 hmo hst hA ho' hG hC hs hNx
    obtain ⟨hT, hfj, hjm, hmN, h7, h8, -⟩ := id hG
    have hlen : c.length + (oi o').length = (c ++ oi o').length := by rw [List.length_append]
    rw [oi_len] at hlen
    rw [show M + (z + 1) + 1 = (M + z + 1) + 1 by omega, lp_succ]
    unfold BGr_readSum_12
    dsimp only
    have key : ∀ t : Nat, (t = 43 ∨ t = 45) → j < m → cl j = t → ∃ (q : Int32) (d' : DS), (f_Gr_readTerm E (Int32.ofNat b) (nx d (j + 1))).bind (fun q8 => if q8.1 = 0 then some (0, q8.2) else (f_Cd_add (Int32.ofNat t) 0 q8.2).bind (fun q10 => lpN (BGr_readSum_12 E) (M + z + 1) (Int32.ofNat b, Int32.ofNat more + 1, q10))) = some (q, d') ∧ FrE f d d' ∧ (q = 1 ∧ Gd cl nm N f m c0 2 s d' j0 ca le cn o F V ∨ q = 0 ∧ Bd cl nm N f m c0 d') := by
      intro t ht hj hc
      have hrk : rk t = 2 := by
        rcases ht with rfl | rfl <;> rfl
      have hx : aut cl nm f c0 (j + 1) = some (9, (ca, le, cn, t :: o) :: F, ρ, γ, c ++ oi o', V) := by
        rw [aut_g hfj hA, stp_opr hst (by omega)]
        unfold xOpr
        rw [hc, if_pos (by omega), hrk, (tw_app ho' ho).1, (tw_app ho' ho).2]
      obtain ⟨q, d1, e1, e2, e3⟩ := hterm (nx d (j + 1)) (j + 1) 9 ca le cn (t :: o) F ρ γ (c ++ oi o') V (s + 1) hF (Or.inl rfl) (fun t' h => by
        rcases List.mem_cons.mp h with h1 | h1
        · rw [h1]; omega
        · have := ho t' h1
          omega) (fun h => by omega) hx (hG.nx hj (fun k h => h)) (hC.cg rfl rfl rfl) (by rw [← hlen]; omega)
      rw [e1, Option.bind_some]
      dsimp only
      rcases e3 with ⟨rfl, j', st', le', o2, ρ', γ', c', g1, g2, g3, g4, g5, g6, g7, g8, g9⟩ | ⟨rfl, hB⟩
      · have hle : le' = le := g8 (by omega)
        subst hle
        rw [if_neg (show ¬ (9 : Nat) = 10 by omega), show o2 ++ t :: o = (o2 ++ [t]) ++ o by rw [List.append_assoc]; rfl] at g3
        have hjm' := g4.2.2.1
        have hlen2 : c'.length + (oi o2).length = (c' ++ oi o2).length := by rw [List.length_append]
        rw [oi_len] at hlen2
        obtain ⟨d2, k1, k2, k3⟩ := cd_add (a := Int32.ofNat t) (b := 0) g5 (by rw [← hlen2]; omega)
        have k2' : CD d2 (c' ++ oi (o2 ++ [t])) := by
          rw [oi_app, ← List.append_assoc]; exact k2
        obtain ⟨q, d', w1, w2, w3⟩ := ih d2 j' st' (more + 1) (o2 ++ [t]) ρ' γ' c' M (by omega) (by omega) (by omega) g2 g3 (fun t' h => by
          rcases List.mem_append.mp h with h1 | h1
          · have := g7 t' h1
            omega
          · rw [List.mem_singleton.mp h1]; omega) (g4.fc k3) k2' (by rw [List.length_append]; show c'.length + (o2.length + 1) + s ≤ j'; omega) g9
        rw [if_neg ne10, k1, Option.bind_some, onat1 (by omega)]
        exact ⟨q, d', w1, (FrE.nx.tr e2).tr ((FrE.fc k3).tr w2), w3⟩
      · rw [if_pos rfl]
        exact ⟨0, d1, rfl, FrE.nx.tr e2, Or.inr ⟨rfl, hB⟩⟩
    by_cases h43 : j < m ∧ cl j = 43
    · rw [if_neg (show ¬ (240 : Int32) ≤ Int32.ofNat more by rw [i_le, onat (by omega), n240]; omega), ts_yes (a1 := 43) (t := 43) hK hT h7 h8 hmN rfl h43.1 h43.2 (by omega) (by omega), Option.bind_some]
      dsimp only
      rw [if_neg ne10]
      exact key 43 (Or.inl rfl) h43.1 h43.2
    · rw [ts_no (a1 := 43) (t := 43) hK hT h7 h8 hmN hjm rfl (by omega) h43, Option.bind_some]
      dsimp only
      by_cases h45 : j < m ∧ cl j = 45
      · rw [if_neg (show ¬ (240 : Int32) ≤ Int32.ofNat more by rw [i_le, onat (by omega), n240]; omega), if_pos rfl, ts_yes (a1 := 45) (t := 45) hK hT h7 h8 hmN rfl h45.1 h45.2 (by omega) (by omega), Option.bind_some]
        dsimp only
        rw [if_neg ne10]
        exact key 45 (Or.inr rfl) h45.1 h45.2
      · rw [ts_no (a1 := 45) (t := 45) hK hT h7 h8 hmN hjm rfl (by omega) h45, Option.bind_some]
        refine ⟨1, d, by simp only [↓reduceIte, ite_self], FrE.rf, Or.inl ⟨rfl, j, st, le, o', ρ, γ, c, hj0, hst, hA, hG, hC, hs, ho', fun _ => rfl, fun h => ?_⟩⟩
        exact ⟨fun _ => (hNx h).1 (by omega), fun _ => ⟨fun h1 => h43 ⟨h, h1⟩, fun h1 => h45 ⟨h, h1⟩⟩, fun h1 => by omega, (hNx h).2.2.2⟩
theorem sum_ok {cl nm : Nat → Nat} {N f m : Nat} {c0 : Cds} (hK : TK cl nm N) {E : Int32 × DS → Option (Int32 × DS)} {b : Nat} (hb : b ≤ 4) (hterm : Lv cl nm N f m c0 (f_Gr_readTerm E) 3 b) : Lv cl nm N f m c0 (f_Gr_readSum E) 2 b := by
  intro d j st ca le cn o F ρ γ c V s hF hst ho hle hA hG hC hs
  have hN := hK.1
  obtain ⟨q, d1, e1, e2, e3⟩ := hterm d j st ca le cn o F ρ γ c V s hF hst (fun t h => by have := ho t h; omega) (fun h => by omega) hA hG hC hs
  unfold f_Gr_readSum
  rw [e1, Option.bind_some]
  dsimp only
  rcases e3 with ⟨rfl, j', st', le', o2, ρ', γ', c', g1, g2, g3, g4, g5, g6, g7, g8, g9⟩ | ⟨rfl, hB⟩
  · have hle : le' = le := g8 (by omega)
    subst hle
    obtain ⟨q, d', w1, w2, w3⟩ := sum_loop hK (j0 := j) hb hF ho hterm (m - j') d1 j' st' 0 o2 ρ' γ' c' (99999 - (m - j')) (Nat.le_refl _) g1 (by omega) g2 g3 (fun t h => by have := g7 t h; omega) g4 g5 g6 g9
    have hm := g4.2.2.1
    have hmN := g4.2.2.2.1
    rw [show 99999 - (m - j') + (m - j') + 1 = 100000 by omega] at w1
    rw [if_neg ne10]
    exact ⟨q, d', w1, e2.tr w2, w3⟩
  · rw [if_pos rfl]
    exact ⟨0, d1, rfl, e2, Or.inr ⟨rfl, hB⟩⟩
theorem exp_ok {cl nm : Nat → Nat} {N f m : Nat} {c0 : Cds} (hK : TK cl nm N) {E : Int32 × DS → Option (Int32 × DS)} {b : Nat} (hb : b ≤ 4) (hsum : Lv cl nm N f m c0 (f_Gr_readSum E) 2 b) : Lv cl nm N f m c0 (f_Gr_readExpression E) 1 b := by
  intro d j st ca le cn o F ρ γ c V s hF hst ho hle hA hG hC hs
  have hN := hK.1
  have hle0 := hle rfl
  subst hle0
  obtain ⟨q, d1, e1, e2, e3⟩ := hsum d j st ca 0 cn o F ρ γ c V s hF hst (fun t h => by have := ho t h; omega) (fun h => by omega) hA hG hC hs
  unfold f_Gr_readExpression
  rw [e1, Option.bind_some]
  dsimp only
  rcases e3 with ⟨rfl, j', st', le', o2, ρ', γ', c', g1, g2, g3, g4, g5, g6, g7, g8, g9⟩ | ⟨rfl, hB⟩
  · have hle : le' = 0 := g8 (by omega)
    subst hle
    obtain ⟨hT, hfj, hjm, hmN, h7, h8, -⟩ := id g4
    have hlen : c'.length + (oi o2).length = (c' ++ oi o2).length := by rw [List.length_append]
    rw [oi_len] at hlen
    rw [if_neg ne10]
    by_cases h60 : j' < m ∧ cl j' = 60
    · rw [ts_yes (a1 := 60) (t := 60) hK hT h7 h8 hmN rfl h60.1 h60.2 (by omega) (by omega), Option.bind_some]
      dsimp only
      have ho2 : ∀ t, t ∈ o2 → 1 ≤ rk t := fun t h => by have := g7 t h; omega
      have hx : aut cl nm f c0 (j' + 1) = some (9, (ca, 1, if st = 10 then 1 else cn, 60 :: o) :: F, ρ', γ', c' ++ oi o2, V) := by
        rw [aut_g hfj g3, stp_opr g2 (by omega)]
        unfold xOpr
        rw [h60.2, if_neg (by omega), if_pos rfl, if_pos rfl, (tw_app ho2 ho).1, (tw_app ho2 ho).2]
      obtain ⟨q, d2, k1, k2, k3⟩ := hsum (nx d1 (j' + 1)) (j' + 1) 9 ca 1 (if st = 10 then 1 else cn) (60 :: o) F ρ' γ' (c' ++ oi o2) V (s + 1) hF (Or.inl rfl) (fun t' h => by
        rcases List.mem_cons.mp h with h1 | h1
        · rw [h1]; decide
        · have := ho t' h1
          omega) (fun h => by omega) hx (g4.nx h60.1 (fun k h => h)) (g5.cg rfl rfl rfl) (by rw [← hlen]; omega)
      rw [if_neg ne10, k1, Option.bind_some]
      dsimp only
      rcases k3 with ⟨rfl, j3, st3, le3, o3, ρ3, γ3, c3, w1, w2, w3, w4, w5, w6, w7, w8, w9⟩ | ⟨rfl, hB⟩
      · have hle3 : le3 = 1 := w8 (by omega)
        subst hle3
        have hjm3 := w4.2.2.1
        have hlen3 : c3.length + (oi o3).length = (c3 ++ oi o3).length := by rw [List.length_append]
        rw [oi_len] at hlen3
        obtain ⟨d4, z1, z2, z3⟩ := cd_add (a := 60) (b := 0) w5 (by rw [← hlen3]; omega)
        rw [if_neg ne10, z1, Option.bind_some]
        rw [if_neg (show ¬ (9 : Nat) = 10 by omega), show o3 ++ 60 :: o = (o3 ++ [60]) ++ o by rw [List.append_assoc]; rfl] at w3
        refine ⟨1, d4, rfl, (e2.tr (FrE.nx.tr k2)).tr (FrE.fc z3), Or.inl ⟨rfl, j3, st3, 1, o3 ++ [60], ρ3, γ3, c3, by omega, w2, w3, w4.fc z3, ?_, ?_, fun t' h => ?_, fun h => by omega, fun h => ?_⟩⟩
        · rw [oi_app, ← List.append_assoc]; exact z2
        · rw [List.length_append]; show c3.length + (o3.length + 1) + s ≤ j3; omega
        · rcases List.mem_append.mp h with h1 | h1
          · have := w7 t' h1
            omega
          · rw [List.mem_singleton.mp h1]; decide
        · exact ⟨fun _ => (w9 h).1 (by omega), fun _ => (w9 h).2.1 (by omega), fun _ _ => by omega, (w9 h).2.2.2⟩
      · rw [if_pos rfl]
        exact ⟨0, d2, rfl, e2.tr (FrE.nx.tr k2), Or.inr ⟨rfl, hB⟩⟩
    · rw [ts_no (a1 := 60) (t := 60) hK hT h7 h8 hmN hjm rfl (by omega) h60, Option.bind_some]
      dsimp only
      rw [if_pos rfl]
      refine ⟨1, d1, rfl, e2, Or.inl ⟨rfl, j', st', 0, o2, ρ', γ', c', g1, g2, g3, g4, g5, g6, fun t h => by have := g7 t h; omega, fun _ => rfl, fun h => ?_⟩⟩
      exact ⟨fun _ => (g9 h).1 (by omega), fun _ => (g9 h).2.1 (by omega), fun _ h1 => absurd ⟨h, h1⟩ h60, (g9 h).2.2.2⟩
  · rw [if_pos rfl]
    exact ⟨0, d1, rfl, e2, Or.inr ⟨rfl, hB⟩⟩
theorem elv_ok {cl nm : Nat → Nat} {N f m : Nat} {c0 : Cds} (hK : TK cl nm N) (hm40 : cl m ≠ 40) : ∀ n b, b ≤ 4 → 5 ≤ n + b → Lv cl nm N f m c0 (fun a d => Elv n (a, d)) 1 b := by
  intro n
  induction n with
  | zero => intro b h1 h2; omega
  | succ n ih =>
    intro b h1 h2
    have h := exp_ok hK h1 (sum_ok hK h1 (term_ok hK h1 (fac_ok hK hm40 h1 (E := Elv n) (fun hb => ih (b + 1) (by omega) (by omega)))))
    exact h
theorem E_ok {cl nm : Nat → Nat} {N f m : Nat} {c0 : Cds} (hK : TK cl nm N) (hm40 : cl m ≠ 40) : Lv cl nm N f m c0 (fun a d => E (a, d)) 1 0 := elv_ok hK hm40 6 0 (by omega) (by omega)
