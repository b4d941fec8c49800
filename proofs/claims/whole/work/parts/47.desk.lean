/-! the desk reads all parts -/
def cdOf (d : DS) (n : Nat) : Cds := (List.range n).map (fun i => (d.1 21 i, d.1 22 i))
theorem cdOf_len (d : DS) (n : Nat) : (cdOf d n).length = n := by
  unfold cdOf
  rw [List.length_map, List.length_range]
theorem cdOf_ok {d : DS} {n : Nat} (h : d.2 6 = Int32.ofNat n) : CD d (cdOf d n) := by
  refine ⟨by rw [cdOf_len]; exact h, fun i hi => ?_⟩
  rw [cdOf_len] at hi
  unfold cdOf
  rw [List.getD_eq_getElem?_getD, List.getElem?_map, List.getElem?_range hi]
  exact ⟨rfl, rfl⟩
def csOf (l : List Cds) (i : Nat) : Cds := l.getD i []
theorem Xp_cg {cl nm : Nat → Nat} {N p : Nat} {cs cs' : Nat → Cds} (h : cs p = cs' p) : Xp cl nm N cs p = Xp cl nm N cs' p ∧ okP cl nm N cs p = okP cl nm N cs' p := by
  unfold okP Xp
  rw [h]
  exact ⟨rfl, rfl⟩
theorem nfn_cg {ok ok' : Nat → Bool} : ∀ p, (∀ i, i < p → ok i = ok' i) → nfn ok p = nfn ok' p
  | 0, _ => rfl
  | p + 1, h => by
    show nfn ok p + (if ok p then 1 else 0) = nfn ok' p + (if ok' p then 1 else 0)
    rw [nfn_cg p (fun i hi => h i (by omega)), h p (by omega)]
theorem DF.cs {cl nm sk ek : Nat → Nat} {N p : Nat} {cs cs' : Nat → Cds} {d : DS} (h : DF cl nm sk ek N cs p d) (hc : ∀ i, i ≤ p + 1 → cs i = cs' i) : DF cl nm sk ek N cs' p d := by
  obtain ⟨x1, x2⟩ := Xp_cg (cl := cl) (nm := nm) (N := N) (hc p (by omega))
  have x3 : nfn (okP cl nm N cs) p = nfn (okP cl nm N cs') p := nfn_cg p (fun i hi => (Xp_cg (hc i (by omega))).2)
  have x4 := hc p (by omega)
  have x5 := hc (p + 1) (by omega)
  unfold DF Brk at *
  rw [x1, x2, x3, x4, x5] at h
  exact h
theorem brokenD {cl nm sk ek : Nat → Nat} {N m j : Nat} {d : DS} (hN : N ≤ 240) (hmN : m ≤ N) (hm : 0 < m) (hjm : j ≤ m) (h7 : d.2 7 = Int32.ofNat j) (h6 : ∀ k, k < N → d.1 6 k = Int32.ofNat (sk k) ∧ d.1 7 k = Int32.ofNat (ek k)) : f_Dr_brokenPlace (Int32.ofNat m) d = some (Int32.ofNat (if j < m then sk j else ek (m - 1)), d) := by
  unfold f_Dr_brokenPlace
  rw [h7]
  by_cases hj : j < m
  · rw [if_neg (by rw [o_le (by omega) (by omega)]; omega), if_pos (o_inb (by omega) (by omega)), o_nat (by omega), (h6 j (by omega)).1, if_pos hj]
  · have em : Int32.ofNat m - 1 = Int32.ofNat (m - 1) := o_sub (b := 1) (by omega)
    rw [if_pos (by rw [o_le (by omega) (by omega)]; omega), em, if_pos (o_inb (by omega) (by omega)), o_nat (by omega), (h6 (m - 1) (by omega)).2, if_neg hj]
/-- What reading the parts leaves as it was. -/
def FrR (d d' : DS) : Prop := (∀ i, i ≠ 9 → i ≠ 10 → i ≠ 11 → i ≠ 13 → i ≠ 16 → i ≠ 17 → i ≠ 18 → i ≠ 19 → i ≠ 21 → i ≠ 22 → i ≠ 24 → i ≠ 25 → i ≠ 26 → i ≠ 28 → d'.1 i = d.1 i) ∧ ∀ i, i ≠ 5 → i ≠ 6 → i ≠ 7 → i ≠ 8 → i ≠ 9 → d'.2 i = d.2 i
theorem FrR.tr {d d' d2 : DS} (h : FrR d d') (h2 : FrR d' d2) : FrR d d2 := ⟨fun i a b c e f g j k l m n o p q => (h2.1 i a b c e f g j k l m n o p q).trans (h.1 i a b c e f g j k l m n o p q), fun i a b c e f => (h2.2 i a b c e f).trans (h.2 i a b c e f)⟩
theorem rd53 {cl nm sk ek : Nat → Nat} {N : Nat} (hK : TK cl nm N) : ∀ (z p : Nat) (d : DS) (l : List Cds) (M : Nat), (ps cl N).length - p = z → p ≤ (ps cl N).length → l.length = p + 1 → DTok cl nm N d → (∀ k, k < N → d.1 6 k = Int32.ofNat (sk k) ∧ d.1 7 k = Int32.ofNat (ek k) ∧ sk k ≤ 240 ∧ ek k ≤ 240) → d.2 0 = Int32.ofNat (ps cl N).length → (∀ i, i ≤ (ps cl N).length → d.1 27 i = Int32.ofNat (bd cl N i)) → (∀ k, bd cl N p ≤ k → k < N → d.1 13 k = 0) → d.2 5 = Int32.ofNat (nfn (okP cl nm N (csOf l)) p) → CD d (csOf l p) → (csOf l p).length ≤ bd cl N p → (∀ q, q < p → DF cl nm sk ek N (csOf l) q d) → ∃ (d' : DS) (l' : List Cds), lpN BDr_refresh_53 (M + z + 1) (Int32.ofNat p, d) = lpN BDr_refresh_122 100000 (0, (d'.1, va_up d'.2 1 0)) ∧ FrR d d' ∧ DTok cl nm N d' ∧ (∀ q, q < (ps cl N).length → DF cl nm sk ek N (csOf l') q d') ∧ d'.2 5 = Int32.ofNat (nfn (okP cl nm N (csOf l')) (ps cl N).length) ∧ CD d' (csOf l' (ps cl N).length) ∧ (csOf l' (ps cl N).length).length ≤ N ∧ csOf l' 0 = csOf l 0 := by
  intro z
  have hN := hK.1
  obtain ⟨b1, b2, b3, b4, b5, b6, b7, b8⟩ := bd_ok hK
  induction z with
  | zero =>
    intro p d l M h1 h2 hll hT h67 h0 h27 h13 h5 hC hcl hD
    have : p = (ps cl N).length := by omega
    subst this
    rw [Nat.add_zero, lp_succ]
    unfold BDr_refresh_53
    dsimp only
    rw [h0, if_pos (by rw [i_le]; omega)]
    refine ⟨d, l, rfl, ⟨fun _ _ _ _ _ _ _ _ _ _ _ _ _ _ _ => rfl, fun _ _ _ _ _ _ => rfl⟩, hT, hD, h5, hC, ?_, rfl⟩
    have := b5 (ps cl N).length
    omega
  | succ z ih =>
    intro p d l M h1 h2 hll hT h67 h0 h27 h13 h5 hC hcl hD
    have hp : p < (ps cl N).length := by omega
    have hlt := b3 p hp
    have hmN := b5 (p + 1)
    have hnf := nfn_le (okP cl nm N (csOf l)) p
    obtain ⟨q, d1, e1, e2⟩ := func_ok hK (b6 (p + 1) (by omega)) hlt hmN hT h13 hC hcl h5 (by omega)
    have x27 := h27 p (by omega)
    have x27' := h27 (p + 1) (by omega)
    rw [show M + (z + 1) + 1 = (M + z + 1) + 1 by omega, lp_succ]
    unfold BDr_refresh_53
    simp only [h0, o_p1, o_inb (show p < 5 by omega) (show p < 2147483648 by omega), o_inb (show p + 1 < 5 by omega) (show p + 1 < 2147483648 by omega), o_inb (show p < 4 by omega) (show p < 2147483648 by omega), o_nat (show p < 2147483648 by omega), o_nat (show p + 1 < 2147483648 by omega), x27, x27', e1, Option.bind_some, ↓reduceIte]
    rw [if_neg (by rw [o_le (by omega) (by omega)]; omega)]
    have lold : ∀ (cc : Cds) i, i ≤ p → csOf (l ++ [cc]) i = csOf l i := fun cc i hi => by
      unfold csOf
      rw [List.getD_eq_getElem?_getD, List.getD_eq_getElem?_getD, List.getElem?_append_left (by omega)]
    have lnew : ∀ cc : Cds, csOf (l ++ [cc]) (p + 1) = cc := fun cc => by
      unfold csOf
      rw [List.getD_eq_getElem?_getD, List.getElem?_append_right (by omega), hll, Nat.sub_self]; rfl
    have llen : ∀ cc : Cds, (l ++ [cc]).length = p + 1 + 1 := fun cc => by rw [List.length_append, hll]; rfl
    have okold : ∀ (cc : Cds) i, i ≤ p → okP cl nm N (csOf (l ++ [cc])) i = okP cl nm N (csOf l) i := fun cc i hi => (Xp_cg (lold cc i hi)).2
    have dfold : ∀ (cc : Cds) (d2 : DS), (∀ q, q < p → DF cl nm sk ek N (csOf l) q d2) → ∀ q, q < p → DF cl nm sk ek N (csOf (l ++ [cc])) q d2 := fun cc d2 hd q hq => (hd q hq).cs (fun i hi => (lold cc i (by omega)).symm)
    rcases e2 with ⟨rfl, h400, ρ, γ, c, V, d3, f1, f2, f3, f4, f5, f6, f7⟩ | ⟨rfl, f1, f2⟩
    · rw [if_neg ne10]
      obtain ⟨ok1, ok2⟩ := okP_of (cs := csOf l) h400 f1 rfl
      have hfr28 : d1.1 28 = d.1 28 := by
        rw [f7]
        exact f6.1 28 (by decide) (by decide) (by decide) (by decide) (by decide) (by decide) (by decide) (by decide) (by decide) (by decide)
      have hA0 : aut0 cl nm (bd cl N p) (csOf l p) (bd cl N (p + 1) - (bd cl N p + 1)) = some (13, [], ρ, γ, c, V) := f1
      have hai := (aut_ai _ _ hA0).1
      rw [show bd cl N p + 1 + (bd cl N (p + 1) - (bd cl N p + 1)) = bd cl N (p + 1) by omega] at hai
      obtain ⟨a, b, cc, p1, e, g, i, k, ll, mm, -, -⟩ := hai
      have hbl : V.1 = [] := aut_13 _ _ hA0 rfl
      obtain ⟨w1, w2, w3, w4, w5, w6, w7, w8, w9⟩ := f2
      obtain ⟨v1, v2, v3, v4, v5, v6, v7, v8, v9⟩ := f5
      have fA : ∀ i, i ≠ 9 → i ≠ 10 → i ≠ 11 → i ≠ 13 → i ≠ 16 → i ≠ 17 → i ≠ 18 → i ≠ 19 → i ≠ 21 → i ≠ 22 → i ≠ 24 → i ≠ 25 → i ≠ 26 → d1.1 i = d.1 i := fun i x9 x10 x11 x13 x16 x17 x18 x19 x21 x22 x24 x25 x26 => by
        rw [f7]
        exact (up_ne x11).trans ((up_ne x10).trans ((up_ne x9).trans (f6.1 i x13 x16 x17 x18 x19 x21 x22 x24 x25 x26)))
      have fI : ∀ i, i ≠ 5 → i ≠ 6 → i ≠ 7 → i ≠ 8 → i ≠ 9 → d1.2 i = d.2 i := fun i x5 x6 x7 x8 x9 => by
        rw [f7]
        exact (up_ne x5).trans ((f6.2.1 i x6 x7 x9).trans ((up_ne x9).trans ((up_ne x8).trans (up_ne x7))))
      have fK : ∀ k, k < bd cl N p → d1.1 13 k = d.1 13 k ∧ d1.1 16 k = d.1 16 k ∧ d1.1 17 k = d.1 17 k ∧ d1.1 18 k = d.1 18 k ∧ d1.1 19 k = d.1 19 k := fun k hk => by
        rw [f7]
        exact f6.2.2 k hk
      have f9 : d1.1 9 = upd (d.1 9) (nfn (okP cl nm N (csOf l)) p) (Int32.ofNat (bd cl N p + 1)) := by rw [f7]; rfl
      have f10 : d1.1 10 = upd (d.1 10) (nfn (okP cl nm N (csOf l)) p) (Int32.ofNat V.2.2.2.2.2.1) := by rw [f7]; rfl
      have f11 : d1.1 11 = upd (d.1 11) (nfn (okP cl nm N (csOf l)) p) (Int32.ofNat (csOf l p).length) := by rw [f7]; rfl
      have f5' : d1.2 5 = Int32.ofNat (nfn (okP cl nm N (csOf l)) p + 1) := by rw [f7]; rfl
      have hcl2 : (c ++ [((0 : Int32), (0 : Int32))] ++ [((8 : Int32), (0 : Int32))]).length = c.length + 2 := by rw [lenc, lenc]
      have hnew : DF cl nm sk ek N (csOf (l ++ [c ++ [(0, 0)] ++ [(8, 0)]])) p (va_up d1.1 28 (upd (d1.1 28) p (-1)), d1.2) := by
        have hX : Xp cl nm N (csOf (l ++ [c ++ [(0, 0)] ++ [(8, 0)]])) p = (13, [], ρ, γ, c, V) := ((Xp_cg (lold _ p (Nat.le_refl _))).1).trans ok2
        have hO : okP cl nm N (csOf (l ++ [c ++ [(0, 0)] ++ [(8, 0)]])) p = true := (okold _ p (Nat.le_refl _)).trans ok1
        have hn : nfn (okP cl nm N (csOf (l ++ [c ++ [(0, 0)] ++ [(8, 0)]]))) p = nfn (okP cl nm N (csOf l)) p := nfn_cg p (fun i hi => okold _ i (by omega))
        refine ⟨fun _ => ?_, fun h => absurd (hO.symm.trans h) (by decide)⟩
        rw [hX, hn, lold _ p (Nat.le_refl _), lnew]
        refine ⟨ud_eq, fun q q1 q2 => ⟨w7 q q1 (by omega), fun h6 => w9 q q1 (by omega) h6 List.not_mem_nil, fun h2 => ?_, fun h3 => ?_⟩, v7, ?_, ?_, ?_, rfl⟩
        · obtain ⟨⟨z1, z2⟩, z3, z4⟩ := cc.1 q h2
          have z3' : q < bd cl N p + 3 + 2 * V.2.2.2.2.2.1 := z3
          obtain ⟨t, ht⟩ : ∃ t, q = bd cl N p + 3 + 2 * t := ⟨(q - (bd cl N p + 3)) / 2, by omega⟩
          rw [ht]
          exact v6 t (by omega)
        · have hα : V.2.2.2.2.2.2.2.1 q ≠ 0 := by
            rcases g q h3 with z | z
            · have z1 : q < V.2.2.2.2.2.2.2.1 q := z.1
              omega
            · exact absurd (show 13 ≤ 12 from z.2.2) (by omega)
          have hω : V.2.2.2.2.2.2.2.2 (V.2.2.2.2.2.2.1 q) ≠ 0 := by
            obtain ⟨z1, z2, z3⟩ := ll q h3
            rcases z3 with ⟨y, y1, -⟩ | z3
            · have y1' : y ∈ V.1 := y1
              rw [hbl] at y1'; exact absurd y1' List.not_mem_nil
            · have z4 : q < V.2.2.2.2.2.2.2.2 (V.2.2.2.2.2.2.1 q) := z3.1
              omega
          exact ⟨(v4 q hα).2.1, (v4 q hα).2.2, (v5 _ hω).2⟩
        · show d1.1 9 _ = _
          rw [f9, ud_eq]
        · show d1.1 10 _ = _
          rw [f10, ud_eq]
        · show d1.1 11 _ = _
          rw [f11, ud_eq]
      have hold : ∀ q, q < p → DF cl nm sk ek N (csOf l) q (va_up d1.1 28 (upd (d1.1 28) p (-1)), d1.2) := fun q hq => by
        have hbq : bd cl N (q + 1) ≤ bd cl N p := by
          have := bd_le hK (p - (q + 1)) (q + 1)
          rw [show q + 1 + (p - (q + 1)) = p by omega] at this
          exact this
        have hnq := nfn_mono (okP cl nm N (csOf l)) (p - (q + 1)) (q + 1)
        rw [show q + 1 + (p - (q + 1)) = p by omega] at hnq
        refine (hD q hq).keep hK (by omega) (fun k hk => fK k (by omega)) ?_ (fun _ t ht => ?_)
        · show upd (d1.1 28) p (-1) q = _
          rw [ud_ne (by omega), hfr28]
        · show d1.1 9 t = _ ∧ d1.1 10 t = _ ∧ d1.1 11 t = _
          rw [f9, f10, f11, ud_ne (by omega), ud_ne (by omega), ud_ne (by omega)]
          exact ⟨rfl, rfl, rfl⟩
      obtain ⟨d', l', r1, r2, r3, r4, r5, r6, r7, r8⟩ := ih (p + 1) (va_up d1.1 28 (upd (d1.1 28) p (-1)), d1.2) (l ++ [c ++ [(0, 0)] ++ [(8, 0)]]) M (by omega) (by omega) (llen _) (w1.cg rfl rfl rfl) (fun k hk => by
        show d1.1 6 k = _ ∧ d1.1 7 k = _ ∧ _
        rw [fA 6 (by decide) (by decide) (by decide) (by decide) (by decide) (by decide) (by decide) (by decide) (by decide) (by decide) (by decide) (by decide) (by decide), fA 7 (by decide) (by decide) (by decide) (by decide) (by decide) (by decide) (by decide) (by decide) (by decide) (by decide) (by decide) (by decide) (by decide)]
        exact h67 k hk) ((fI 0 (by decide) (by decide) (by decide) (by decide) (by decide)).trans h0) (fun i hi => by
        show d1.1 27 i = _
        rw [fA 27 (by decide) (by decide) (by decide) (by decide) (by decide) (by decide) (by decide) (by decide) (by decide) (by decide) (by decide) (by decide) (by decide)]
        exact h27 i hi) (fun k k1 k2 => by
        show d1.1 13 k = 0
        rw [w7 k (by omega) k2, w8 k k1]; rfl) (by
        show d1.2 5 = _
        rw [f5']
        show _ = Int32.ofNat (nfn _ p + (if okP cl nm N (csOf (l ++ [c ++ [(0, 0)] ++ [(8, 0)]])) p then 1 else 0))
        rw [(okold _ p (Nat.le_refl _)).trans ok1, if_pos rfl, nfn_cg p (fun i hi => okold _ i (by omega))]) (by rw [lnew]; exact f3.cg rfl rfl rfl) (by rw [lnew, hcl2]; exact f4) (fun q hq => by
        by_cases hqp : q = p
        · subst hqp; exact hnew
        · exact dfold _ _ hold q (by omega))
      refine ⟨d', l', r1, ?_, r3, r4, r5, r6, r7, r8.trans (lold _ 0 (by omega))⟩
      exact FrR.tr (d' := (va_up d1.1 28 (upd (d1.1 28) p (-1)), d1.2)) ⟨fun i x9 x10 x11 x13 x16 x17 x18 x19 x21 x22 x24 x25 x26 x28 => (up_ne x28).trans (fA i x9 x10 x11 x13 x16 x17 x18 x19 x21 x22 x24 x25 x26), fI⟩ r2
    · rw [if_pos rfl]
      have hT1 : DTok cl nm N d1 := hT.cg (f1.2.1 4 (by decide) (by decide) (by decide)) (f1.1 4 (by decide) (by decide) (by decide) (by decide) (by decide) (by decide) (by decide) (by decide) (by decide) (by decide)) (f1.1 5 (by decide) (by decide) (by decide) (by decide) (by decide) (by decide) (by decide) (by decide) (by decide) (by decide))
      have y27 : d1.1 27 = d.1 27 := f1.1 27 (by decide) (by decide) (by decide) (by decide) (by decide) (by decide) (by decide) (by decide) (by decide) (by decide)
      have y6 : d1.1 6 = d.1 6 := f1.1 6 (by decide) (by decide) (by decide) (by decide) (by decide) (by decide) (by decide) (by decide) (by decide) (by decide)
      have y7 : d1.1 7 = d.1 7 := f1.1 7 (by decide) (by decide) (by decide) (by decide) (by decide) (by decide) (by decide) (by decide) (by decide) (by decide)
      have y28 : d1.1 28 = d.1 28 := f1.1 28 (by decide) (by decide) (by decide) (by decide) (by decide) (by decide) (by decide) (by decide) (by decide) (by decide)
      have y9 : d1.1 9 = d.1 9 := f1.1 9 (by decide) (by decide) (by decide) (by decide) (by decide) (by decide) (by decide) (by decide) (by decide) (by decide)
      have y10 : d1.1 10 = d.1 10 := f1.1 10 (by decide) (by decide) (by decide) (by decide) (by decide) (by decide) (by decide) (by decide) (by decide) (by decide)
      have y11 : d1.1 11 = d.1 11 := f1.1 11 (by decide) (by decide) (by decide) (by decide) (by decide) (by decide) (by decide) (by decide) (by decide) (by decide)
      have y5 : d1.2 5 = d.2 5 := f1.2.1 5 (by decide) (by decide) (by decide)
      have y0 : d1.2 0 = d.2 0 := f1.2.1 0 (by decide) (by decide) (by decide)
      have h67' : ∀ k, k < N → d1.1 6 k = Int32.ofNat (sk k) ∧ d1.1 7 k = Int32.ofNat (ek k) := fun k hk => by
        rw [y6, y7]; exact ⟨(h67 k hk).1, (h67 k hk).2.1⟩
      have hfin : ∃ (j n : Nat), j ≤ bd cl N (p + 1) ∧ d1.2 7 = Int32.ofNat j ∧ n ≤ bd cl N (p + 1) ∧ d1.2 6 = Int32.ofNat n ∧ (∀ k, bd cl N (p + 1) ≤ k → k < N → d1.1 13 k = 0) ∧ Brk cl nm sk ek N (csOf l) p (if j < bd cl N (p + 1) then sk j else ek (bd cl N (p + 1) - 1)) := by
        rcases f2 with ⟨g1, g2⟩ | ⟨g1, j', x, g2, g3, g4, g5, g6, g7, n, g8, g9, g10⟩
        · refine ⟨bd cl N p, (csOf l p).length, by omega, by rw [g2]; rfl, by omega, by rw [g2]; exact hC.1, fun k k1 k2 => by rw [g2]; exact h13 k (by omega) k2, Or.inl ⟨g1, ?_⟩⟩
          rw [if_pos hlt]
        · exact ⟨j', n, g3, g7, by omega, g9, g10, Or.inr ⟨g1, j', ⟨x, g2, g3, g4, g5, g6⟩, rfl⟩⟩
      obtain ⟨j, n, g1, g2, g3, g4, g5, g6⟩ := hfin
      have hno := g6.no
      have hb := brokenD (cl := cl) (nm := nm) hN hmN (by omega) g1 g2 h67'
      have hb240 : (if j < bd cl N (p + 1) then sk j else ek (bd cl N (p + 1) - 1)) ≤ 240 := by
        split
        · exact (h67 j (by omega)).2.2.1
        · exact (h67 (bd cl N (p + 1) - 1) (by omega)).2.2.2
      rw [y27, x27', hb, Option.bind_some]
      dsimp only
      have hnew : DF cl nm sk ek N (csOf (l ++ [cdOf d1 n])) p (va_up d1.1 28 (upd (d1.1 28) p (Int32.ofNat (if j < bd cl N (p + 1) then sk j else ek (bd cl N (p + 1) - 1)))), d1.2) := by
        have hO : okP cl nm N (csOf (l ++ [cdOf d1 n])) p = false := (okold _ p (Nat.le_refl _)).trans hno
        refine ⟨fun h => absurd (h.symm.trans hO) (by decide), fun _ => ⟨_, ?_, hb240, ud_eq⟩⟩
        unfold Brk
        rw [lold _ p (Nat.le_refl _)]
        exact g6
      have hold : ∀ q, q < p → DF cl nm sk ek N (csOf l) q (va_up d1.1 28 (upd (d1.1 28) p (Int32.ofNat (if j < bd cl N (p + 1) then sk j else ek (bd cl N (p + 1) - 1)))), d1.2) := fun q hq => by
        have hbq : bd cl N (q + 1) ≤ bd cl N p := by
          have := bd_le hK (p - (q + 1)) (q + 1)
          rw [show q + 1 + (p - (q + 1)) = p by omega] at this
          exact this
        refine (hD q hq).keep hK (by omega) (fun k hk => f1.2.2 k (by omega)) ?_ (fun _ t ht => ?_)
        · show upd (d1.1 28) p _ q = _
          rw [ud_ne (by omega), y28]
        · show d1.1 9 t = _ ∧ d1.1 10 t = _ ∧ d1.1 11 t = _
          rw [y9, y10, y11]
          exact ⟨rfl, rfl, rfl⟩
      obtain ⟨d', l', r1, r2, r3, r4, r5, r6, r7, r8⟩ := ih (p + 1) (va_up d1.1 28 (upd (d1.1 28) p (Int32.ofNat (if j < bd cl N (p + 1) then sk j else ek (bd cl N (p + 1) - 1)))), d1.2) (l ++ [cdOf d1 n]) M (by omega) (by omega) (llen _) (hT1.cg rfl rfl rfl) (fun k hk => by
        show d1.1 6 k = _ ∧ d1.1 7 k = _ ∧ _
        rw [y6, y7]
        exact h67 k hk) (y0.trans h0) (fun i hi => by
        show d1.1 27 i = _
        rw [y27]
        exact h27 i hi) g5 (by
        show d1.2 5 = _
        rw [y5, h5]
        show _ = Int32.ofNat (nfn _ p + (if okP cl nm N (csOf (l ++ [cdOf d1 n])) p then 1 else 0))
        rw [(okold _ p (Nat.le_refl _)).trans hno, nfn_cg p (fun i hi => okold _ i (by omega))]; rfl) (by rw [lnew]; exact (cdOf_ok g4).cg rfl rfl rfl) (by rw [lnew, cdOf_len]; exact g3) (fun q hq => by
        by_cases hqp : q = p
        · subst hqp; exact hnew
        · exact dfold _ _ hold q (by omega))
      refine ⟨d', l', r1, ?_, r3, r4, r5, r6, r7, r8.trans (lold _ 0 (by omega))⟩
      refine FrR.tr ⟨fun i x9 x10 x11 x13 x16 x17 x18 x19 x21 x22 x24 x25 x26 x28 => (up_ne x28).trans (f1.1 i x13 x16 x17 x18 x19 x21 x22 x24 x25 x26), fun i x5 x6 x7 x8 x9 => ?_⟩ r2
      exact (f1.2.1 i x6 x7 x9).trans ((up_ne x9).trans ((up_ne x8).trans (up_ne x7)))
