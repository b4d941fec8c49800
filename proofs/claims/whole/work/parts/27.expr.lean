/-! the desk's expressions walk with it -/
def sw (t : Nat) : Nat := if t = 4 then 5 else if t = 5 then 4 else t
def GTk (cl nm : Nat → Nat) (N f m : Nat) (d : DS) (j : Nat) (cs : List Nat) (ρ γ : Nat → Nat) : Prop := DTok cl nm N d ∧ f < j ∧ j ≤ m ∧ m ≤ N ∧ d.2 7 = Int32.ofNat j ∧ d.2 8 = Int32.ofNat m ∧ (∀ k, f ≤ k → k < N → d.1 13 k = Int32.ofNat (sw (ρ k))) ∧ (∀ k, j ≤ k → ρ k = 0) ∧ ∀ k, f ≤ k → k < N → ρ k = 6 → k + 1 ∉ cs → d.1 19 k = Int32.ofNat (γ k)
def FrE (f : Nat) (d d' : DS) : Prop := (∀ i, i ≠ 13 → i ≠ 19 → i ≠ 21 → i ≠ 22 → d'.1 i = d.1 i) ∧ (∀ i, i ≠ 6 → i ≠ 7 → d'.2 i = d.2 i) ∧ ∀ k, k < f → d'.1 13 k = d.1 13 k ∧ d'.1 19 k = d.1 19 k
theorem FrE.rf {f : Nat} {d : DS} : FrE f d d := ⟨fun _ _ _ _ _ => rfl, fun _ _ _ => rfl, fun _ _ => ⟨rfl, rfl⟩⟩
theorem FrE.tr {f : Nat} {d d' d2 : DS} (h : FrE f d d') (h2 : FrE f d' d2) : FrE f d d2 := ⟨fun i a b c e => (h2.1 i a b c e).trans (h.1 i a b c e), fun i a b => (h2.2.1 i a b).trans (h.2.1 i a b), fun k hk => ⟨(h2.2.2 k hk).1.trans (h.2.2 k hk).1, (h2.2.2 k hk).2.trans (h.2.2 k hk).2⟩⟩
theorem FrE.nx {f j : Nat} {d : DS} : FrE f d (nx d j) := ⟨fun _ _ _ _ _ => rfl, fun i _ h => up_ne h, fun _ _ => ⟨rfl, rfl⟩⟩
theorem FrE.fc {f : Nat} {d d' : DS} (h : FrC d d') : FrE f d d' := ⟨fun i _ _ a b => h.1 i a b, fun i a _ => h.2 i a, fun k _ => ⟨by rw [h.1 13 (by decide) (by decide)], by rw [h.1 19 (by decide) (by decide)]⟩⟩
theorem GTk.fc {cl nm : Nat → Nat} {N f m : Nat} {d d' : DS} {j : Nat} {cs : List Nat} {ρ γ : Nat → Nat} (h : GTk cl nm N f m d j cs ρ γ) (hf : FrC d d') : GTk cl nm N f m d' j cs ρ γ := by
  obtain ⟨hT, hfj, hjm, hmN, h7, h8, hr, hr0, hsn⟩ := h
  refine ⟨hT.cg (hf.2 4 (by decide)) (hf.1 4 (by decide) (by decide)) (hf.1 5 (by decide) (by decide)), hfj, hjm, hmN, (hf.2 7 (by decide)).trans h7, (hf.2 8 (by decide)).trans h8, ?_, hr0, ?_⟩
  · rw [hf.1 13 (by decide) (by decide)]; exact hr
  · rw [hf.1 19 (by decide) (by decide)]; exact hsn
theorem GTk.nx {cl nm : Nat → Nat} {N f m : Nat} {d : DS} {j : Nat} {cs cs' : List Nat} {ρ γ : Nat → Nat} (h : GTk cl nm N f m d j cs ρ γ) (hj : j < m) (hs : ∀ k, k + 1 ∉ cs' → k + 1 ∉ cs) : GTk cl nm N f m (nx d (j + 1)) (j + 1) cs' ρ γ := by
  obtain ⟨hT, hfj, hjm, hmN, h7, h8, hr, hr0, hsn⟩ := h
  exact ⟨hT.cg rfl rfl rfl, by omega, hj, hmN, rfl, h8, hr, fun k hk => hr0 k (by omega), fun k a b c e => hsn k a b c (hs k e)⟩
theorem GTk.nm {cl nm : Nat → Nat} {N f m : Nat} {d : DS} {j : Nat} {cs : List Nat} {ρ γ : Nat → Nat} (h : GTk cl nm N f m d j cs ρ γ) (hj : j < m) {a1 : Int32} {t : Nat} (ha : a1 = Int32.ofNat (sw t)) (ht : t ≠ 6) : GTk cl nm N f m (va_up d.1 13 (upd (d.1 13) j a1), va_up d.2 7 (Int32.ofNat (j + 1))) (j + 1) cs (upN ρ j t) γ := by
  obtain ⟨hT, hfj, hjm, hmN, h7, h8, hr, hr0, hsn⟩ := h
  refine ⟨hT.cg rfl rfl rfl, by omega, hj, hmN, rfl, h8, fun k a b => ?_, fun k hk => ?_, fun k a b c e => ?_⟩
  · show upd (d.1 13) j a1 k = _
    by_cases hk : k = j
    · subst hk; rw [ud_eq, uN_eq, ha]
    · rw [ud_ne hk, uN_ne hk]; exact hr k a b
  · rw [uN_ne (by omega)]; exact hr0 k (by omega)
  · by_cases hk : k = j
    · subst hk; rw [uN_eq] at c; exact absurd c ht
    · rw [uN_ne hk] at c
      show d.1 19 k = _
      exact hsn k a b c e
theorem GTk.cl {cl nm : Nat → Nat} {N f m : Nat} {d : DS} {j n : Nat} {cs cs' : List Nat} {ρ γ : Nat → Nat} (h : GTk cl nm N f m d j cs ρ γ) (hn : n < j) (hs : ∀ k, k + 1 ∉ cs' → k + 1 ∉ cs ∧ k ≠ n) : GTk cl nm N f m (va_up (va_up d.1 13 (upd (d.1 13) n 6)) 19 (upd (d.1 19) n 0), d.2) j cs' (upN ρ n 6) γ := by
  obtain ⟨hT, hfj, hjm, hmN, h7, h8, hr, hr0, hsn⟩ := h
  refine ⟨hT.cg rfl rfl rfl, by omega, hjm, hmN, h7, h8, fun k a b => ?_, fun k hk => ?_, fun k a b c e => ?_⟩
  · show upd (d.1 13) n 6 k = _
    by_cases hk : k = n
    · subst hk; rw [ud_eq, uN_eq]; rfl
    · rw [ud_ne hk, uN_ne hk]; exact hr k a b
  · rw [uN_ne (by omega)]; exact hr0 k hk
  · show upd (d.1 19) n 0 k = _
    obtain ⟨e1, e2⟩ := hs k e
    rw [uN_ne e2] at c
    rw [ud_ne e2]
    exact hsn k a b c e1
theorem GTk.sent {cl nm : Nat → Nat} {N f m : Nat} {d : DS} {j n : Nat} {v : Int32} {cs : List Nat} {ρ γ : Nat → Nat} (h : GTk cl nm N f m d j cs ρ γ) (hn : n + 1 ∈ cs) : GTk cl nm N f m (va_up d.1 19 (upd (d.1 19) n v), d.2) j cs ρ γ := by
  obtain ⟨hT, hfj, hjm, hmN, h7, h8, hr, hr0, hsn⟩ := h
  refine ⟨hT.cg rfl rfl rfl, by omega, hjm, hmN, h7, h8, fun k a b => hr k a b, hr0, fun k a b c e => ?_⟩
  show upd (d.1 19) n v k = _
  have : k ≠ n := fun hk => e (by rw [hk]; exact hn)
  rw [ud_ne this]
  exact hsn k a b c e
theorem GTk.close {cl nm : Nat → Nat} {N f m : Nat} {d : DS} {j n v : Nat} {cs : List Nat} {ρ γ : Nat → Nat} (h : GTk cl nm N f m d j ((n + 1) :: cs) ρ γ) (hv : d.1 19 n = Int32.ofNat v) : GTk cl nm N f m d j cs ρ (upN γ n v) := by
  obtain ⟨hT, hfj, hjm, hmN, h7, h8, hr, hr0, hsn⟩ := h
  refine ⟨hT, hfj, hjm, hmN, h7, h8, hr, hr0, fun k a b c e => ?_⟩
  by_cases hk : k = n
  · subst hk; rw [uN_eq]; exact hv
  · rw [uN_ne hk]
    exact hsn k a b c (by
      intro hm
      rcases List.mem_cons.mp hm with h1 | h1
      · omega
      · exact e h1)
def Bd (cl nm : Nat → Nat) (N f m : Nat) (c0 : Cds) (d' : DS) : Prop := ∃ (j' : Nat) (x : XS), f < j' ∧ j' ≤ m ∧ aut cl nm f c0 j' = some x ∧ (x.1 = 13 → j' < m) ∧ (j' < m → aut cl nm f c0 (j' + 1) = none) ∧ d'.2 7 = Int32.ofNat j' ∧ ∃ n, n ≤ j' ∧ d'.2 6 = Int32.ofNat n ∧ ∀ k, m ≤ k → k < N → d'.1 13 k = 0
def Nxt (cl : Nat → Nat) (m lv j st le b : Nat) : Prop := j < m → (lv ≤ 3 → cl j ≠ 42) ∧ (lv ≤ 2 → cl j ≠ 43 ∧ cl j ≠ 45) ∧ (lv ≤ 1 → cl j = 60 → le ≠ 0) ∧ (st = 12 → cl j = 40 → 3 < b)
def Gd (cl nm : Nat → Nat) (N f m : Nat) (c0 : Cds) (lv s : Nat) (d' : DS) (j ca le cn : Nat) (o : List Nat) (F : List Fm) (V : VS) : Prop := ∃ (j' st' le' : Nat) (o' : List Nat) (ρ' γ' : Nat → Nat) (c' : Cds), j < j' ∧ (st' = 11 ∨ st' = 12) ∧ aut cl nm f c0 j' = some (st', (ca, le', cn, o' ++ o) :: F, ρ', γ', c', V) ∧ GTk cl nm N f m d' j' (ca :: F.map (fun x => x.1)) ρ' γ' ∧ CD d' (c' ++ oi o') ∧ c'.length + o'.length + s ≤ j' ∧ (∀ t, t ∈ o' → lv ≤ rk t) ∧ (1 < lv → le' = le) ∧ Nxt cl m lv j' st' le' F.length
def Lv (cl nm : Nat → Nat) (N f m : Nat) (c0 : Cds) (R : Int32 → DS → Option (Int32 × DS)) (lv b : Nat) : Prop := ∀ (d : DS) (j st ca le cn : Nat) (o : List Nat) (F : List Fm) (ρ γ : Nat → Nat) (c : Cds) (V : VS) (s : Nat), F.length = b → (st = 9 ∨ st = 10 ∧ ¬ (j < m ∧ cl j = 41)) → (∀ t, t ∈ o → rk t < lv) → (lv = 1 → le = 0) → aut cl nm f c0 j = some (st, (ca, le, cn, o) :: F, ρ, γ, c, V) → GTk cl nm N f m d j (ca :: F.map (fun x => x.1)) ρ γ → CD d c → c.length + s ≤ j → ∃ (q : Int32) (d' : DS), R (Int32.ofNat b) d = some (q, d') ∧ FrE f d d' ∧ (q = 1 ∧ Gd cl nm N f m c0 lv s d' j ca le (if st = 10 then 1 else cn) o F V ∨ q = 0 ∧ Bd cl nm N f m c0 d')
theorem isb0 : isb 0 = true := by decide
theorem isb1 : isb 1 = true := by decide
theorem Bd.at {cl nm : Nat → Nat} {N f m : Nat} {c0 : Cds} {d : DS} {j st : Nat} {fr : List Fm} {cs : List Nat} {ρ γ : Nat → Nat} {c w : Cds} {V : VS} (hA : aut cl nm f c0 j = some (st, fr, ρ, γ, c, V)) (h13 : st ≠ 13) (hG : GTk cl nm N f m d j cs ρ γ) (hC : CD d w) (hw : w.length ≤ j) (hn : j < m → stp cl nm f j (st, fr, ρ, γ, c, V) = none) : Bd cl nm N f m c0 d :=
  ⟨j, _, hG.2.1, hG.2.2.1, hA, fun h => absurd h h13, fun h => (aut_g hG.2.1 hA).trans (hn h), hG.2.2.2.2.1, w.length, hw, hC.1, fun k a b => by
    have g1 := hG.2.1
    have g2 := hG.2.2.1
    have h1 := hG.2.2.2.2.2.2.1 k (by omega) b
    rw [hG.2.2.2.2.2.2.2.1 k (by omega)] at h1
    exact h1⟩
theorem opr_none {cl nm : Nat → Nat} {f m k st ca le cn : Nat} {o : List Nat} {F : List Fm} {ρ γ : Nat → Nat} {c : Cds} {V : VS} (hst : st = 11 ∨ st = 12) (hN : Nxt cl m 1 k st le F.length) (hk : k < m) (h1 : F ≠ [] → cl k ≠ 41) (h2 : F ≠ [] → ca ≠ 0 → cl k ≠ 44) (h3 : F = [] → cl k ≠ V.2.1) : stp cl nm f k (st, (ca, le, cn, o) :: F, ρ, γ, c, V) = none := by
  obtain ⟨n1, n2, n3, n4⟩ := hN hk
  have n1 := n1 (by omega)
  have n2 := n2 (by omega)
  have n3 := n3 (by omega)
  by_cases h40 : st = 12 ∧ cl k = 40
  · have := n4 h40.1 h40.2
    rw [h40.1, stp_call h40.2, if_neg (by omega)]
  · rw [stp_opr hst h40]
    unfold xOpr
    rw [if_neg (by omega)]
    by_cases h60 : cl k = 60
    · rw [if_pos h60, if_neg (n3 h60)]
    · rw [if_neg h60]
      by_cases hF : F = []
      · rw [if_pos hF]
        unfold xEnd
        rw [if_neg (h3 hF)]
      · rw [if_neg hF, if_neg (h1 hF), if_neg (fun h => h2 hF h.2 h.1)]
theorem call_loop {cl nm : Nat → Nat} {N f m : Nat} {c0 : Cds} (hK : TK cl nm N) {E : Int32 × DS → Option (Int32 × DS)} {b n s : Nat} {F : List Fm} {V : VS} (hb : b ≤ 4) (hF : F.length = b) (hF0 : F ≠ []) (hfn : f ≤ n) (hE : Lv cl nm N f m c0 (fun a d => E (a, d)) 1 b) : ∀ (z : Nat) (d : DS) (J st cn : Nat) (ρ γ : Nat → Nat) (c : Cds) (M : Nat), m - J ≤ z → n < J → (if st = 10 then 1 else cn) ≤ J → (st = 9 ∨ st = 10 ∧ ¬ (J < m ∧ cl J = 41)) → aut cl nm f c0 J = some (st, (n + 1, 0, cn, []) :: F, ρ, γ, c, V) → GTk cl nm N f m d J ((n + 1) :: F.map (fun x => x.1)) ρ γ → CD d c → c.length + s ≤ J → ∃ (q : Int32) (d' : DS), lpN (BGr_readCall_31 E) (M + z + 2) (Int32.ofNat n, Int32.ofNat b, 0, Int32.ofNat (if st = 10 then 1 else cn), d) = some (q, d') ∧ FrE f d d' ∧ (q = 1 ∧ (∃ (j' : Nat) (ρ' γ' : Nat → Nat) (c' : Cds), J < j' ∧ aut cl nm f c0 j' = some (11, F, ρ', γ', c', V) ∧ GTk cl nm N f m d' j' (F.map (fun x => x.1)) ρ' γ' ∧ CD d' c' ∧ c'.length + s ≤ j') ∨ q = 0 ∧ Bd cl nm N f m c0 d') := by
  intro z
  have hN := hK.1
  induction z with
  | zero =>
    intro d J st cn ρ γ c M hz hnJ hcn hst hA hG hC hs
    obtain ⟨q, d1, e1, e2, e3⟩ := hE d J st (n + 1) 0 cn [] F ρ γ c V s hF hst (fun t h => absurd h List.not_mem_nil) (fun _ => rfl) hA hG hC hs
    have e1 : E (Int32.ofNat b, d) = some (q, d1) := e1
    have hJm : J ≤ m := hG.2.2.1
    have hmN := hG.2.2.2.1
    rcases e3 with ⟨-, j', st', le', o', ρ', γ', c', g1, g2, g3, g4, -⟩ | ⟨rfl, hB⟩
    · have := g4.2.2.1
      omega
    · refine ⟨0, d1, ?_, e2, Or.inr ⟨rfl, hB⟩⟩
      rw [show M + 0 + 2 = (M + 1) + 1 by omega, lp_succ]
      unfold BGr_readCall_31
      dsimp only
      rw [if_neg (show ¬ (240 : Int32) < Int32.ofNat (if st = 10 then 1 else cn) by rw [i_lt, onat (by omega), n240]; omega), if_pos rfl, e1]
      rfl
  | succ z ih =>
    intro d J st cn ρ γ c M hz hnJ hcn hst hA hG hC hs
    obtain ⟨q, d1, e1, e2, e3⟩ := hE d J st (n + 1) 0 cn [] F ρ γ c V s hF hst (fun t h => absurd h List.not_mem_nil) (fun _ => rfl) hA hG hC hs
    have e1 : E (Int32.ofNat b, d) = some (q, d1) := e1
    have hJm : J ≤ m := hG.2.2.1
    have hmN := hG.2.2.2.1
    have hhead : ∀ K : Int32 × Int32 × Int32 × Int32 × DS → Option (Int32 × DS), BGr_readCall_31 E K (Int32.ofNat n, Int32.ofNat b, 0, Int32.ofNat (if st = 10 then 1 else cn), d) = if q = 0 then some (0, d1) else (f_Gr_takeSign 41 (va_up d1.1 19 (upd (d1.1 19) n (Int32.ofNat (if st = 10 then 1 else cn))), d1.2)).bind (fun q13 => if q13.1 = 0 then (f_Gr_takeSign 44 q13.2).bind (fun q15 => if q15.1 = 0 then some (0, q15.2) else K (Int32.ofNat n, Int32.ofNat b, q13.1, Int32.ofNat (if st = 10 then 1 else cn) + 1, q15.2)) else K (Int32.ofNat n, Int32.ofNat b, q13.1, Int32.ofNat (if st = 10 then 1 else cn) + 1, q13.2)) := by
      intro K
      unfold BGr_readCall_31
      dsimp only
      rw [if_neg (show ¬ (240 : Int32) < Int32.ofNat (if st = 10 then 1 else cn) by rw [i_lt, onat (by omega), n240]; omega), if_pos rfl, e1]
      simp only [Option.bind_some, o_inb (show n < 240 by omega) (show n < 2147483648 by omega), o_nat (show n < 2147483648 by omega), ↓reduceIte]
    rcases e3 with ⟨rfl, j', st', le', o', ρ', γ', c', g1, g2, g3, g4, g5, g6, g7, g8, g9⟩ | ⟨rfl, hB⟩
    · rw [List.append_nil] at g3
      have hj'm : j' ≤ m := g4.2.2.1
      have hin : n + 1 ∈ (n + 1) :: F.map (fun x : Fm => x.1) := List.mem_cons_self ..
      have g4' := g4.sent (n := n) (v := Int32.ofNat (if st = 10 then 1 else cn)) hin
      obtain ⟨hT', -, -, -, h7', h8', -⟩ := g4'
      have fs : FrE f d1 (va_up d1.1 19 (upd (d1.1 19) n (Int32.ofNat (if st = 10 then 1 else cn))), d1.2) := ⟨fun i _ h _ _ => up_ne h, fun _ _ _ => rfl, fun k hk => ⟨rfl, ud_ne (by omega)⟩⟩
      have hlen : c'.length + (oi o').length = (c' ++ oi o').length := by rw [List.length_append]
      rw [oi_len] at hlen
      have hC' : CD (va_up d1.1 19 (upd (d1.1 19) n (Int32.ofNat (if st = 10 then 1 else cn))), d1.2) (c' ++ oi o') := g5.cg rfl rfl rfl
      rw [show M + (z + 1) + 2 = (M + z + 2) + 1 by omega, lp_succ, hhead, if_neg ne10]
      by_cases h41 : j' < m ∧ cl j' = 41
      · rw [ts_yes (a1 := 41) (t := 41) hK hT' h7' h8' hmN rfl h41.1 h41.2 (by omega) (by omega), Option.bind_some]
        dsimp only
        rw [if_neg ne10, show M + z + 2 = (M + z + 1) + 1 by omega, lp_succ]
        have hstep : aut cl nm f c0 (j' + 1) = some (11, F, ρ', upN γ' n (if st = 10 then 1 else cn), c' ++ oi o' ++ [(3, Int32.ofNat n)], V) := by
          rw [aut_g g4.2.1 g3, stp_opr g2 (by omega)]
          unfold xOpr
          rw [h41.2, if_neg (by omega), if_neg (by omega), if_neg hF0, if_pos rfl, if_neg (show ¬ n + 1 = 0 by omega), if_neg (show ¬ n + 1 = 0 by omega)]
          rfl
        have g6' := (g4.sent (n := n) (v := Int32.ofNat (if st = 10 then 1 else cn)) hin).nx h41.1 (cs' := (n + 1) :: F.map (fun x => x.1)) (fun k h => h)
        obtain ⟨d2, k1, k2, k3⟩ := cd_add (a := 3) (b := Int32.ofNat n) (d := nx (va_up d1.1 19 (upd (d1.1 19) n (Int32.ofNat (if st = 10 then 1 else cn))), d1.2) (j' + 1)) (hC'.cg rfl rfl rfl) (by omega)
        have hres : BGr_readCall_31 E (lpN (BGr_readCall_31 E) (M + z + 1)) (Int32.ofNat n, Int32.ofNat b, 1, Int32.ofNat (if st = 10 then 1 else cn) + 1, nx (va_up d1.1 19 (upd (d1.1 19) n (Int32.ofNat (if st = 10 then 1 else cn))), d1.2) (j' + 1)) = some (1, d2) := by
          unfold BGr_readCall_31
          dsimp only
          rw [k1, if_neg (show ¬ (1 : Int32) = 0 from ne10)]
          simp only [Option.bind_some, isb1, ↓reduceIte, ite_self]
        refine ⟨1, d2, hres, (e2.tr fs).tr (FrE.nx.tr (FrE.fc k3)), Or.inl ⟨rfl, j' + 1, ρ', _, _, by omega, hstep, ?_, k2, ?_⟩⟩
        · exact (GTk.close g6' (v := if st = 10 then 1 else cn) (by show upd (d1.1 19) n _ n = _; exact ud_eq)).fc k3
        · rw [lenc, ← hlen]; omega
      · rw [ts_no (a1 := 41) (t := 41) hK hT' h7' h8' hmN hj'm rfl (by omega) h41, Option.bind_some]
        dsimp only
        rw [if_pos rfl]
        by_cases h44 : j' < m ∧ cl j' = 44
        · rw [ts_yes (a1 := 44) (t := 44) hK hT' h7' h8' hmN rfl h44.1 h44.2 (by omega) (by omega), Option.bind_some]
          dsimp only
          rw [if_neg ne10, onat1 (by omega)]
          have hstep : aut cl nm f c0 (j' + 1) = some (9, (n + 1, 0, (if st = 10 then 1 else cn) + 1, []) :: F, ρ', γ', c' ++ oi o', V) := by
            rw [aut_g g4.2.1 g3, stp_opr g2 (by omega)]
            unfold xOpr
            rw [h44.2, if_neg (by omega), if_neg (by omega), if_neg hF0, if_neg (by omega), if_pos ⟨rfl, by omega⟩]
          obtain ⟨q, d', k1, k2, k3⟩ := ih (nx (va_up d1.1 19 (upd (d1.1 19) n (Int32.ofNat (if st = 10 then 1 else cn))), d1.2) (j' + 1)) (j' + 1) 9 ((if st = 10 then 1 else cn) + 1) ρ' γ' (c' ++ oi o') M (by omega) (by omega) (by rw [if_neg (by omega)]; omega) (Or.inl rfl) hstep ((g4.sent hin).nx h44.1 (fun k h => h)) (hC'.cg rfl rfl rfl) (by rw [← hlen]; omega)
          rw [if_neg (show ¬ (9 : Nat) = 10 by omega)] at k1
          refine ⟨q, d', k1, (e2.tr fs).tr (FrE.nx.tr k2), ?_⟩
          rcases k3 with ⟨hq, j2, ρ2, γ2, c2, w1, w2⟩ | hB
          · exact Or.inl ⟨hq, j2, ρ2, γ2, c2, by omega, w2⟩
          · exact Or.inr hB
        · rw [ts_no (a1 := 44) (t := 44) hK hT' h7' h8' hmN hj'm rfl (by omega) h44, Option.bind_some]
          dsimp only
          rw [if_pos rfl]
          refine ⟨0, _, rfl, e2.tr fs, Or.inr ⟨rfl, ?_⟩⟩
          refine Bd.at g3 (by omega) (g4.sent hin) hC' (by rw [← hlen]; omega) (fun h => opr_none g2 g9 h (fun _ h1 => h41 ⟨h, h1⟩) (fun _ _ h1 => h44 ⟨h, h1⟩) (fun h1 => absurd h1 hF0))
    · rw [show M + (z + 1) + 2 = (M + z + 2) + 1 by omega, lp_succ, hhead, if_pos rfl]
      exact ⟨0, d1, rfl, e2, Or.inr ⟨rfl, hB⟩⟩
