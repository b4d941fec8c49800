/-! the desk's names: what its small questions answer -/
def AW (cl nm : Nat → Nat) (N : Nat) (R Sc Si Un : Nat → Nat) (ok : Nat → Bool) : Prop := (∀ k, k < N → R k ≤ 6 ∧ (R k ≠ 0 → ok (pt cl N k) = true ∧ cl k = 200 ∧ bd cl N (pt cl N k) < k) ∧ (R k = 1 → k = bd cl N (pt cl N k) + 1) ∧ (R k = 2 → bd cl N (pt cl N k) + 3 ≤ k ∧ Sc k = bd cl N (pt cl N k) ∧ Si k = bd cl N (pt cl N k) ∧ Un k = bd cl N (pt cl N k + 1)) ∧ (R k = 3 → bd cl N (pt cl N k) + 2 < Sc k ∧ Sc k < k ∧ k < Si k ∧ Si k ≤ bd cl N (pt cl N k + 1) ∧ Un k ≤ bd cl N (pt cl N k + 1)) ∧ (3 ≤ R k → bd cl N (pt cl N k) + 1 < k ∧ ∀ q, q < N → pt cl N q = pt cl N k → R q = 2 → q < k)) ∧ (∀ p, p < (ps cl N).length → ok p = true → bd cl N p + 1 < bd cl N (p + 1) ∧ R (bd cl N p + 1) = 1) ∧ ∀ q1 q2, q2 < N → q1 < q2 → pt cl N q1 = pt cl N q2 → R q1 = 3 → R q2 = 3 → Si q1 ≤ q2
def DW (cl nm : Nat → Nat) (N : Nat) (R G Sc Si Un np : Nat → Nat) (ok : Nat → Bool) (d : DS) : Prop := DTok cl nm N d ∧ (∀ k, k < N → ok (pt cl N k) = true → d.1 13 k = Int32.ofNat (sw (R k)) ∧ (R k = 6 → d.1 19 k = Int32.ofNat (G k)) ∧ (R k = 2 → d.1 16 k = Int32.ofNat (bd cl N (pt cl N k) + 2) ∧ d.1 17 k = Int32.ofNat (k + 1) ∧ d.1 18 (bd cl N (pt cl N k) + 2) = Int32.ofNat (Un k)) ∧ (R k = 3 → d.1 16 k = Int32.ofNat (Sc k) ∧ d.1 17 k = Int32.ofNat (Si k) ∧ d.1 18 (Sc k) = Int32.ofNat (Un k))) ∧ d.2 5 = Int32.ofNat (nfn ok (ps cl N).length) ∧ ∀ p, p < (ps cl N).length → ok p = true → d.1 9 (nfn ok p) = Int32.ofNat (bd cl N p + 1) ∧ d.1 10 (nfn ok p) = Int32.ofNat (np p)
theorem DW.cg {cl nm : Nat → Nat} {N : Nat} {R G Sc Si Un np : Nat → Nat} {ok : Nat → Bool} {d d' : DS} (h : DW cl nm N R G Sc Si Un np ok d) (hA : ∀ i, i ≠ 14 → i ≠ 15 → i ≠ 29 → d'.1 i = d.1 i) (hI : ∀ i, i ≠ 1 → d'.2 i = d.2 i) : DW cl nm N R G Sc Si Un np ok d' := by
  obtain ⟨h1, h2, h3, h4⟩ := h
  refine ⟨h1.cg (hI 4 (by decide)) (hA 4 (by decide) (by decide) (by decide)) (hA 5 (by decide) (by decide) (by decide)), ?_, (hI 5 (by decide)).trans h3, ?_⟩
  · rw [hA 13 (by decide) (by decide) (by decide), hA 19 (by decide) (by decide) (by decide), hA 16 (by decide) (by decide) (by decide), hA 17 (by decide) (by decide) (by decide), hA 18 (by decide) (by decide) (by decide)]
    exact h2
  · rw [hA 9 (by decide) (by decide) (by decide), hA 10 (by decide) (by decide) (by decide)]
    exact h4
theorem sw_1 {t : Nat} : sw t = 1 ↔ t = 1 := by
  unfold sw
  repeat' split
  all_goals omega
theorem sw_2 {t : Nat} : sw t = 2 ↔ t = 2 := by
  unfold sw
  repeat' split
  all_goals omega
theorem sw_3 {t : Nat} : sw t = 3 ↔ t = 3 := by
  unfold sw
  repeat' split
  all_goals omega
theorem sw_le {t : Nat} (h : t ≤ 6) : sw t ≤ 6 := by
  unfold sw
  repeat' split
  all_goals omega
theorem findD {cl nm : Nat → Nat} {N : Nat} {R G Sc Si Un np : Nat → Nat} {ok : Nat → Bool} {d : DS} {w : Nat} (hK : TK cl nm N) (hA : AW cl nm N R Sc Si Un ok) (hW : DW cl nm N R G Sc Si Un np ok d) (hw : w < 1073741824) : (hd R nm N w = 0 ∧ f_Fn_find (Int32.ofNat w) d = some (-1, d)) ∨ ∃ p, p < (ps cl N).length ∧ ok p = true ∧ nm (bd cl N p + 1) = w ∧ hd R nm N w = bd cl N p + 1 + 1 ∧ f_Fn_find (Int32.ofNat w) d = some (Int32.ofNat (nfn ok p), d) := by
  have hN := hK.1
  obtain ⟨b1, b2, b3, b4, b5, b6, b7, b8⟩ := bd_ok hK
  have hheads : ∀ p, (∀ q, q < p → q < (ps cl N).length → ok q = true → nm (bd cl N q + 1) ≠ w) → ∀ i, i < N → i < bd cl N p + 1 → hdB R nm w i = false := by
    intro p hp i hiN hi
    refine decide_eq_false (fun h => ?_)
    obtain ⟨a1, a2, a3, -⟩ := hA.1 i hiN
    obtain ⟨z1, z2, z3⟩ := a2 (by omega)
    obtain ⟨y1, y2, y3⟩ := pt_ok hK hiN
    have hieq := a3 h.1
    have hlt : pt cl N i < p := by
      by_cases hlt : pt cl N i < p
      · exact hlt
      · exfalso
        have := bd_le hK (pt cl N i - p) p
        rw [show p + (pt cl N i - p) = pt cl N i by omega] at this
        omega
    refine hp (pt cl N i) hlt y1 z1 ?_
    rw [← hieq]; exact h.2
  have loop : ∀ (z p : Nat) (M : Nat), (ps cl N).length - p = z → p ≤ (ps cl N).length → (∀ q, q < p → ok q = true → nm (bd cl N q + 1) ≠ w) → (hd R nm N w = 0 ∧ lpN BFn_find_2 (M + z + 1) (Int32.ofNat w, Int32.ofNat (nfn ok p), d) = some (-1, d)) ∨ ∃ p', p' < (ps cl N).length ∧ ok p' = true ∧ nm (bd cl N p' + 1) = w ∧ hd R nm N w = bd cl N p' + 1 + 1 ∧ lpN BFn_find_2 (M + z + 1) (Int32.ofNat w, Int32.ofNat (nfn ok p), d) = some (Int32.ofNat (nfn ok p'), d) := by
    intro z
    induction z with
    | zero =>
      intro p M h1 h2 h3
      have : p = (ps cl N).length := by omega
      subst this
      refine Or.inl ⟨fsB_no (fun i hi => hheads _ (fun q q1 _ => h3 q q1) i hi (by rw [b4 _ (Nat.le_refl _)]; omega)), ?_⟩
      rw [Nat.add_zero, lp_succ]
      unfold BFn_find_2
      dsimp only
      rw [hW.2.2.1, if_pos (by rw [i_le]; omega)]
    | succ z ih =>
      intro p M h1 h2 h3
      have hp : p < (ps cl N).length := by omega
      have hnf := nfn_le ok p
      have hdef : nfn ok (p + 1) = nfn ok p + (if ok p then 1 else 0) := rfl
      cases ho : ok p with
      | false =>
        rw [ho] at hdef
        have := ih (p + 1) (M + 1) (by omega) (by omega) (fun q hq hoq => by
          by_cases hqp : q = p
          · subst hqp; exact absurd (ho.symm.trans hoq) (by decide)
          · exact h3 q (by omega) hoq)
        rw [show nfn ok (p + 1) = nfn ok p by rw [hdef]; rfl, show M + 1 + z + 1 = M + (z + 1) + 1 by omega] at this
        exact this
      | true =>
        rw [ho, if_pos rfl] at hdef
        obtain ⟨g1, g2⟩ := hA.2.1 p hp ho
        obtain ⟨f1, f2⟩ := hW.2.2.2 p hp ho
        have hbN := b5 (p + 1)
        have hmono := nfn_mono ok ((ps cl N).length - (p + 1)) (p + 1)
        rw [show p + 1 + ((ps cl N).length - (p + 1)) = (ps cl N).length by omega] at hmono
        have hnl := nfn_le ok (ps cl N).length
        have hcl := ((hA.1 (bd cl N p + 1) (by omega)).2.1 (by omega)).2.1
        have s5 := (hW.1.2 (bd cl N p + 1) (by omega)).2.2.1 (Or.inl hcl)
        have hnm := hK.2.2.1 (bd cl N p + 1)
        have hcmp : (Int32.ofNat (nm (bd cl N p + 1)) = Int32.ofNat w) = (nm (bd cl N p + 1) = w) := o_eq (by omega) (by omega)
        have hun : ∀ K : Int32 × Int32 × DS → Option (Int32 × DS), BFn_find_2 K (Int32.ofNat w, Int32.ofNat (nfn ok p), d) = if nm (bd cl N p + 1) = w then some (Int32.ofNat (nfn ok p), d) else K (Int32.ofNat w, Int32.ofNat (nfn ok p + 1), d) := by
          intro K
          unfold BFn_find_2
          simp only [hW.2.2.1, o_inb (show nfn ok p < 4 by omega) (show nfn ok p < 2147483648 by omega), o_nat (show nfn ok p < 2147483648 by omega), ↓reduceIte, f1, o_inb (show bd cl N p + 1 < 240 by omega) (show bd cl N p + 1 < 2147483648 by omega), o_nat (show bd cl N p + 1 < 2147483648 by omega), bindv, s5, hcmp, o_p1]
          rw [if_neg (by rw [o_le (by omega) (by omega)]; omega)]
        rw [show M + (z + 1) + 1 = (M + z + 1) + 1 by omega, lp_succ, hun]
        by_cases hn : nm (bd cl N p + 1) = w
        · rw [if_pos hn]
          refine Or.inr ⟨p, hp, ho, hn, fsB_eq (by omega) (decide_eq_true ⟨g2, hn⟩) (fun i hi => hheads p (fun q q1 _ => h3 q q1) i (by omega) hi), rfl⟩
        · rw [if_neg hn, ← hdef]
          exact ih (p + 1) M (by omega) (by omega) (fun q hq hoq => by
            by_cases hqp : q = p
            · subst hqp; exact hn
            · exact h3 q (by omega) hoq)
  have := loop (ps cl N).length 0 (99999 - (ps cl N).length) rfl (by omega) (fun q hq => absurd hq (Nat.not_lt_zero _))
  rw [show 99999 - (ps cl N).length + (ps cl N).length + 1 = 100000 by omega] at this
  exact this
theorem firstD {cl nm : Nat → Nat} {N : Nat} {R G Sc Si Un np : Nat → Nat} {ok : Nat → Bool} {d : DS} {k : Nat} (hK : TK cl nm N) (hA : AW cl nm N R Sc Si Un ok) (hW : DW cl nm N R G Sc Si Un np ok d) (hk : k < N) (hR : R k = 1) : f_Fn_isFirst (Int32.ofNat k) d = some (if rp R nm Sc k then 0 else 1, d) := by
  have hN := hK.1
  obtain ⟨b1, b2, b3, b4, b5, b6, b7, b8⟩ := bd_ok hK
  obtain ⟨a1, a2, a3, -⟩ := hA.1 k hk
  obtain ⟨o1, o2, o3⟩ := a2 (by omega)
  have s5 := (hW.1.2 k hk).2.2.1 (Or.inl o2)
  have hrp : rp R nm Sc k = true ↔ ∃ q, q < k ∧ R q = 1 ∧ nm q = nm k := by
    unfold rp
    rw [exB_t]
    constructor
    · rintro ⟨q, q1, q2⟩
      have := of_decide_eq_true q2
      rw [if_pos hR] at this
      exact ⟨q, q1, this.1, this.2⟩
    · rintro ⟨q, q1, q2, q3⟩
      refine ⟨q, q1, decide_eq_true ?_⟩
      rw [if_pos hR]
      exact ⟨q2, q3⟩
  unfold f_Fn_isFirst
  rw [if_pos (o_inb (by omega) (by omega)), o_nat (by omega), s5]
  rcases findD hK hA hW (hK.2.2.1 k) with ⟨h1, h2⟩ | ⟨p, h1, h2, h3, h4, h5⟩
  · exfalso
    rcases fsB_ok (P := hdB R nm (nm k)) N with ⟨-, g⟩ | ⟨q', g1, -⟩
    · have := g k hk
      rw [show hdB R nm (nm k) k = true from decide_eq_true ⟨hR, rfl⟩] at this
      exact absurd this (by decide)
    · have g1 : hd R nm N (nm k) = q' + 1 := g1
      omega
  · obtain ⟨f1, -⟩ := hW.2.2.2 p h1 h2
    have hnf := nfn_le ok p
    have hbN := b5 p
    obtain ⟨w1, w2⟩ := hA.2.1 p h1 h2
    have hbN1 := b5 (p + 1)
    rw [h5, Option.bind_some]
    dsimp only
    rw [if_neg (show ¬ Int32.ofNat (nfn ok p) = -1 by rw [o_nm1 (by omega)]; exact id), if_pos (o_inb (by omega) (by omega)), o_nat (by omega), f1]
    have hcmp : (Int32.ofNat (bd cl N p + 1) = Int32.ofNat k) = (bd cl N p + 1 = k) := o_eq (by omega) (by omega)
    simp only [hcmp]
    by_cases hpk : bd cl N p + 1 = k
    · rw [if_pos hpk]
      have : rp R nm Sc k = false := by
        cases hr : rp R nm Sc k with
        | false => rfl
        | true =>
          obtain ⟨q, q1, q2, q3⟩ := hrp.mp hr
          rcases fsB_ok (P := hdB R nm (nm k)) N with ⟨-, g⟩ | ⟨q', g1, -, -, g4⟩
          · have := g q (by omega)
            rw [show hdB R nm (nm k) q = true from decide_eq_true ⟨q2, q3⟩] at this
            exact absurd this (by decide)
          · have g1 : hd R nm N (nm k) = q' + 1 := g1
            have := g4 q (by omega)
            rw [show hdB R nm (nm k) q = true from decide_eq_true ⟨q2, q3⟩] at this
            exact absurd this (by decide)
      rw [this]; rfl
    · rw [if_neg hpk]
      have : rp R nm Sc k = true := by
        refine hrp.mpr ⟨bd cl N p + 1, ?_, w2, h3⟩
        rcases fsB_ok (P := hdB R nm (nm k)) N with ⟨-, g⟩ | ⟨q', g1, -, -, g4⟩
        · have := g k hk
          rw [show hdB R nm (nm k) k = true from decide_eq_true ⟨hR, rfl⟩] at this
          exact absurd this (by decide)
        · have g1 : hd R nm N (nm k) = q' + 1 := g1
          have hq' : q' = bd cl N p + 1 := by omega
          by_cases hlt : k < q'
          · have := g4 k hlt
            rw [show hdB R nm (nm k) k = true from decide_eq_true ⟨hR, rfl⟩] at this
            exact absurd this (by decide)
          · omega
      rw [this]; rfl
/-- Bound declarations, as the desk has them. -/
def BdD (R nm Sc : Nat → Nat) (lo hi : Nat) (d : DS) : Prop := ∀ q, lo ≤ q → q < hi → R q = 2 ∨ R q = 3 → d.1 14 q = if rp R nm Sc q then -1 else Int32.ofNat q
theorem declD {cl nm : Nat → Nat} {N : Nat} {R G Sc Si Un np : Nat → Nat} {ok : Nat → Bool} {d : DS} {q w lo hi : Nat} (hK : TK cl nm N) (hA : AW cl nm N R Sc Si Un ok) (hW : DW cl nm N R G Sc Si Un np ok d) (hB : BdD R nm Sc lo hi d) (h1 : lo ≤ q) (h2 : q < hi) (hq : q < N) (ho : ok (pt cl N q) = true) (hw : w < 1073741824) : f_Na_declares (Int32.ofNat q) (Int32.ofNat w) d = some (if (R q = 2 ∨ R q = 3) ∧ rp R nm Sc q = false ∧ nm q = w then 1 else 0, d) := by
  have hN := hK.1
  obtain ⟨a1, a2, -⟩ := hA.1 q hq
  obtain ⟨c13, -⟩ := hW.2.1 q hq ho
  have hsw := sw_le a1
  have t2 : (Int32.ofNat (sw (R q)) = 2) = (R q = 2) := by
    rw [show ((2 : Int32) = Int32.ofNat 2) from rfl, o_eq (by omega) (by omega)]; exact propext sw_2
  have t3 : (Int32.ofNat (sw (R q)) = 3) = (R q = 3) := by
    rw [show ((3 : Int32) = Int32.ofNat 3) from rfl, o_eq (by omega) (by omega)]; exact propext sw_3
  have iq : inb (Int32.ofNat q) 240 = true := o_inb (by omega) (by omega)
  have hnq := hK.2.2.1 q
  unfold f_Na_declares
  simp only [iq, ↓reduceIte, o_nat (show q < 2147483648 by omega), c13, t2, t3]
  have go : (R q = 2 ∨ R q = 3) → (if d.1 14 q = Int32.ofNat q then (if d.1 5 q = Int32.ofNat w then some ((1 : Int32), d) else some (0, d)) else some (0, d)) = some (if (R q = 2 ∨ R q = 3) ∧ rp R nm Sc q = false ∧ nm q = w then 1 else 0, d) := by
    intro hr
    obtain ⟨-, o2, -⟩ := a2 (by omega)
    have s5 := (hW.1.2 q hq).2.2.1 (Or.inl o2)
    have hcmp : (Int32.ofNat (nm q) = Int32.ofNat w) = (nm q = w) := o_eq (by omega) (by omega)
    rw [hB q h1 h2 hr, s5]
    simp only [hcmp]
    cases hrp : rp R nm Sc q with
    | true =>
      rw [if_pos rfl, if_neg (show ¬ (-1 : Int32) = Int32.ofNat q by intro h; have := o_nm1 (a := q) (by omega); rw [h.symm] at this; exact absurd (this.mp rfl) id), if_neg (fun h => absurd h.2.1 (by decide))]
    | false =>
      rw [if_neg (show ¬ (false = true) by decide), if_pos rfl]
      by_cases hn : nm q = w
      · rw [if_pos hn, if_pos ⟨hr, rfl, hn⟩]
      · rw [if_neg hn, if_neg (fun h => hn h.2.2)]
  by_cases h2' : R q = 2
  · rw [if_pos h2']; exact go (Or.inl h2')
  · rw [if_neg h2']
    by_cases h3' : R q = 3
    · rw [if_pos h3']; exact go (Or.inr h3')
    · rw [if_neg h3', if_neg (fun h => by omega)]
