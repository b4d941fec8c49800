/-! the desk judges its parts: its faults in order -/
def FD (d : DS) (l : List Nat) : Prop := d.2 1 = Int32.ofNat l.length ∧ ∀ i, i < l.length → d.1 29 i = Int32.ofNat (l.getD i 0)
theorem addF {d : DS} {l : List Nat} {a b : Nat} (hF : FD d l) (hl : l.length < 244) : ∃ d' : DS, f_Dr_addFault (Int32.ofNat a) (Int32.ofNat b) d = some d' ∧ FD d' (l ++ [a + 8 * b]) ∧ (∀ i, i ≠ 29 → d'.1 i = d.1 i) ∧ (∀ i, i ≠ 1 → d'.2 i = d.2 i) := by
  have ee : Int32.ofNat a + 8 * Int32.ofNat b = Int32.ofNat (a + 8 * b) := by
    rw [show (8 : Int32) * Int32.ofNat b = Int32.ofNat (8 * b) from o_mul (a := 8), o_add]
  unfold f_Dr_addFault
  rw [hF.1, if_neg (show ¬ (244 : Int32) ≤ Int32.ofNat l.length by rw [show ((244 : Int32) = Int32.ofNat 244) from rfl, o_le (by omega) (by omega)]; omega), if_pos (o_inb hl (by omega)), o_nat (by omega), onat1 (by omega), ee]
  refine ⟨_, rfl, ⟨by rw [lenn]; rfl, fun i hi => ?_⟩, fun i hi => up_ne hi, fun i hi => up_ne hi⟩
  rw [lenn] at hi
  show upd (d.1 29) l.length (Int32.ofNat (a + 8 * b)) i = _
  by_cases hi2 : i < l.length
  · rw [ud_ne (by omega), gn_old hi2]; exact hF.2 i hi2
  · have : i = l.length := by omega
    subst this
    rw [ud_eq, gn_new]
def JI (cl nm sk ek : Nat → Nat) (N : Nat) (cs : Nat → Cds) (F : Nat → Nat) (p k : Nat) (l : List Nat) : Prop := l.Pairwise (· < ·) ∧ (k < N → ∀ x, x ∈ l → x ≤ 8 * sk k + 1) ∧ l.length ≤ k + p ∧ ∀ x, x ∈ l ↔ B1 cl nm sk ek N cs p x ∨ ∃ q, (q < k ∧ F q ≠ 0) ∧ x = F q + 8 * sk q
theorem JI.add {l : List Nat} {e : Nat} (hs : l.Pairwise (· < ·)) (hb : ∀ x, x ∈ l → x < e) : (l ++ [e]).Pairwise (· < ·) := by
  rw [List.pairwise_append]
  refine ⟨hs, List.pairwise_singleton _ _, fun x hx y hy => ?_⟩
  rw [List.mem_singleton.mp hy]
  exact hb x hx
theorem JI.next {cl nm sk ek : Nat → Nat} {N : Nat} {cs : Nat → Cds} {F : Nat → Nat} {p k : Nat} {l : List Nat} (hS : TS sk ek N) (h : JI cl nm sk ek N cs F p k l) (hk : k < N) (hF : F k = 0) : JI cl nm sk ek N cs F p (k + 1) l := by
  obtain ⟨h1, h2, h3, h4⟩ := h
  refine ⟨h1, fun hk2 x hx => ?_, by omega, fun x => ?_⟩
  · have := h2 hk x hx
    have := (hS.lt (show k < k + 1 by omega) hk2).2
    omega
  · rw [h4 x]
    constructor
    · rintro (h | ⟨q, ⟨q1, q2⟩, q3⟩)
      · exact Or.inl h
      · exact Or.inr ⟨q, ⟨by omega, q2⟩, q3⟩
    · rintro (h | ⟨q, ⟨q1, q2⟩, q3⟩)
      · exact Or.inl h
      · refine Or.inr ⟨q, ⟨?_, q2⟩, q3⟩
        by_cases hqk : q = k
        · subst hqk; exact absurd hF q2
        · omega
theorem JI.fault {cl nm sk ek : Nat → Nat} {N : Nat} {cs : Nat → Cds} {F : Nat → Nat} {p k : Nat} {l : List Nat} (hS : TS sk ek N) (h : JI cl nm sk ek N cs F p k l) (hk : k < N) (hF : 2 ≤ F k ∧ F k ≤ 6) : JI cl nm sk ek N cs F p (k + 1) (l ++ [F k + 8 * sk k]) := by
  obtain ⟨h1, h2, h3, h4⟩ := h
  refine ⟨JI.add h1 (fun x hx => by have := h2 hk x hx; omega), fun hk2 x hx => ?_, by rw [lenn]; omega, fun x => ?_⟩
  · have hlt := (hS.lt (show k < k + 1 by omega) hk2).2
    rcases List.mem_append.mp hx with h | h
    · have := h2 hk x h
      omega
    · rw [List.mem_singleton.mp h]; omega
  · rw [List.mem_append, h4 x, List.mem_singleton]
    constructor
    · rintro ((h | ⟨q, ⟨q1, q2⟩, q3⟩) | h)
      · exact Or.inl h
      · exact Or.inr ⟨q, ⟨by omega, q2⟩, q3⟩
      · exact Or.inr ⟨k, ⟨by omega, by omega⟩, h⟩
    · rintro (h | ⟨q, ⟨q1, q2⟩, q3⟩)
      · exact Or.inl (Or.inl h)
      · by_cases hqk : q = k
        · subst hqk; exact Or.inr q3
        · exact Or.inl (Or.inr ⟨q, ⟨by omega, q2⟩, q3⟩)
theorem jl50 {cl nm sk ek : Nat → Nat} {N p : Nat} {cs : Nat → Cds} {F : Nat → Nat} (hK : TK cl nm N) (hS : TS sk ek N) (hp : p < (ps cl N).length) (hF : ∀ q, F q = 0 ∨ 2 ≤ F q ∧ F q ≤ 6) : ∀ (z k : Nat) (d : DS) (l : List Nat) (M : Nat), bd cl N (p + 1) - k = z → bd cl N p ≤ k → k ≤ bd cl N (p + 1) → d.1 27 (p + 1) = Int32.ofNat (bd cl N (p + 1)) → (∀ q, q < N → d.1 6 q = Int32.ofNat (sk q)) → (∀ q, bd cl N p ≤ q → q < bd cl N (p + 1) → d.1 15 q = wr (F q)) → FD d l → JI cl nm sk ek N cs F p k l → ∃ (d' : DS) (l' : List Nat), lpN BDr_judgePart_50 (M + z + 1) (Int32.ofNat p, Int32.ofNat k, d) = some d' ∧ FD d' l' ∧ JI cl nm sk ek N cs F p (bd cl N (p + 1)) l' ∧ (∀ i, i ≠ 29 → d'.1 i = d.1 i) ∧ (∀ i, i ≠ 1 → d'.2 i = d.2 i) := by
  intro z
  have hN := hK.1
  obtain ⟨b1, b2, b3, b4, b5, b6, b7, b8⟩ := bd_ok hK
  have hmN := b5 (p + 1)
  induction z with
  | zero =>
    intro k d l M h1 h2 h3 h27 h6 h15 hD hJ
    have : k = bd cl N (p + 1) := by omega
    subst this
    rw [Nat.add_zero, lp_succ]
    unfold BDr_judgePart_50
    simp only [o_p1, o_inb (show p + 1 < 5 by omega) (show p + 1 < 2147483648 by omega), o_nat (show p + 1 < 2147483648 by omega), ↓reduceIte, h27]
    rw [if_pos (by rw [i_le]; omega)]
    exact ⟨d, l, rfl, hD, hJ, fun _ _ => rfl, fun _ _ => rfl⟩
  | succ z ih =>
    intro k d l M h1 h2 h3 h27 h6 h15 hD hJ
    have e15 := h15 k h2 (by omega)
    have e6 := h6 k (by omega)
    rw [show M + (z + 1) + 1 = (M + z + 1) + 1 by omega, lp_succ]
    unfold BDr_judgePart_50
    simp only [o_p1, o_inb (show p + 1 < 5 by omega) (show p + 1 < 2147483648 by omega), o_nat (show p + 1 < 2147483648 by omega), o_inb (show k < 240 by omega) (show k < 2147483648 by omega), o_nat (show k < 2147483648 by omega), ↓reduceIte, h27, e15, e6]
    rw [if_neg (by rw [o_le (by omega) (by omega)]; omega)]
    rcases hF k with h0 | h0
    · rw [h0, if_pos (show wr 0 = -1 from rfl)]
      exact ih (k + 1) d l M (by omega) (by omega) (by omega) h27 h6 h15 hD (hJ.next hS (by omega) h0)
    · have hw : wr (F k) = Int32.ofNat (F k) := by
        unfold wr
        rw [if_neg (by omega)]
      have hlen := hJ.2.2.1
      obtain ⟨d2, n1, n2, n3, n4⟩ := addF (a := F k) (b := sk k) hD (by omega)
      rw [hw, if_neg (show ¬ Int32.ofNat (F k) = -1 by rw [o_nm1 (by omega)]; exact id), n1, Option.bind_some]
      obtain ⟨d', l', r1, r2, r3, r4, r5⟩ := ih (k + 1) d2 (l ++ [F k + 8 * sk k]) M (by omega) (by omega) (by omega) (by rw [n3 27 (by decide)]; exact h27) (by rw [n3 6 (by decide)]; exact h6) (by rw [n3 15 (by decide)]; exact h15) n2 (hJ.fault hS (by omega) h0)
      exact ⟨d', l', r1, r2, r3, fun i hi => (r4 i hi).trans (n3 i hi), fun i hi => (r5 i hi).trans (n4 i hi)⟩
theorem jd122 {cl nm sk ek : Nat → Nat} {N : Nat} {cs : Nat → Cds} {R G Sc Si Un np : Nat → Nat} (hK : TK cl nm N) (hS : TS sk ek N) (hA : AW cl nm N R Sc Si Un (okP cl nm N cs)) : ∀ (z p : Nat) (d : DS) (l : List Nat) (M : Nat), (ps cl N).length - p = z → p ≤ (ps cl N).length → DW cl nm N R G Sc Si Un np (okP cl nm N cs) d → d.2 0 = Int32.ofNat (ps cl N).length → (∀ i, i ≤ (ps cl N).length → d.1 27 i = Int32.ofNat (bd cl N i)) → (∀ q, q < (ps cl N).length → (okP cl nm N cs q = true → d.1 28 q = -1) ∧ (okP cl nm N cs q = false → ∃ b, Brk cl nm sk ek N cs q b ∧ b ≤ 240 ∧ d.1 28 q = Int32.ofNat b)) → (∀ q, q < N → d.1 6 q = Int32.ofNat (sk q)) → (∀ q, q < bd cl N p → d.1 14 q = pm (wB cl nm N R Sc Si Un q)) → (∀ q, bd cl N p ≤ q → q < N → d.1 14 q = -1 ∧ d.1 15 q = -1) → FD d l → JI cl nm sk ek N cs (wF cl nm N R G Sc Si Un np) p (bd cl N p) l → ∃ (d' : DS) (l' : List Nat), lpN BDr_refresh_122 (M + z + 1) (Int32.ofNat p, d) = some d' ∧ DW cl nm N R G Sc Si Un np (okP cl nm N cs) d' ∧ (∀ q, q < N → d'.1 14 q = pm (wB cl nm N R Sc Si Un q)) ∧ FD d' l' ∧ JI cl nm sk ek N cs (wF cl nm N R G Sc Si Un np) (ps cl N).length N l' ∧ (∀ i, i ≠ 14 → i ≠ 15 → i ≠ 29 → d'.1 i = d.1 i) ∧ (∀ i, i ≠ 1 → d'.2 i = d.2 i) := by
  intro z
  have hN := hK.1
  obtain ⟨b1, b2, b3, b4, b5, b6, b7, b8⟩ := bd_ok hK
  induction z with
  | zero =>
    intro p d l M h1 h2 hW h0 h27 h28 h6 h14 hn hD hJ
    have : p = (ps cl N).length := by omega
    subst this
    rw [Nat.add_zero, lp_succ]
    unfold BDr_refresh_122
    dsimp only
    rw [h0, if_pos (by rw [i_le]; omega)]
    have hbN := b4 (ps cl N).length (Nat.le_refl _)
    rw [hbN] at h14 hJ
    exact ⟨d, l, rfl, hW, h14, hD, hJ, fun _ _ _ _ => rfl, fun _ _ => rfl⟩
  | succ z ih =>
    intro p d l M h1 h2 hW h0 h27 h28 h6 h14 hn hD hJ
    have hp : p < (ps cl N).length := by omega
    have hlt := b3 p hp
    have hmN := b5 (p + 1)
    have x27 := h27 p (by omega)
    have x27' := h27 (p + 1) (by omega)
    have ip4 : inb (Int32.ofNat p) 4 = true := o_inb (by omega) (by omega)
    have ip5 : inb (Int32.ofNat p) 5 = true := o_inb (by omega) (by omega)
    have ip51 : inb (Int32.ofNat (p + 1)) 5 = true := o_inb (by omega) (by omega)
    rw [show M + (z + 1) + 1 = (M + z + 1) + 1 by omega, lp_succ]
    unfold BDr_refresh_122 f_Dr_judgePart
    simp only [h0, ip4, ip5, ip51, ↓reduceIte, o_p1, o_nat (show p < 2147483648 by omega), o_nat (show p + 1 < 2147483648 by omega), x27, x27']
    rw [if_neg (by rw [o_le (by omega) (by omega)]; omega)]
    cases ho : okP cl nm N cs p with
    | true =>
      rw [(h28 p hp).1 ho, if_pos rfl]
      obtain ⟨d1, e1, e2, e3, e4, e5⟩ := bind_loop hK hA hp ho (bd cl N (p + 1) - bd cl N p) (bd cl N p) d (99999 - (bd cl N (p + 1) - bd cl N p)) rfl (Nat.le_refl _) (by omega) hW (fun q q1 q2 => by omega) hn
      rw [show 99999 - (bd cl N (p + 1) - bd cl N p) + (bd cl N (p + 1) - bd cl N p) + 1 = 100000 by omega] at e1
      have e1' : f_Na_bind (Int32.ofNat (bd cl N p)) (Int32.ofNat (bd cl N (p + 1))) d = some d1 := e1
      rw [e1', Option.bind_some]
      have y27 : d1.1 27 = d.1 27 := e2 27 (by decide) (by decide)
      have hD1 : FD d1 l := ⟨by rw [e3]; exact hD.1, fun i hi => by rw [e2 29 (by decide) (by decide)]; exact hD.2 i hi⟩
      obtain ⟨d2, l2, r1, r2, r3, r4, r5⟩ := jl50 (cs := cs) (F := wF cl nm N R G Sc Si Un np) hK hS hp wF_le (bd cl N (p + 1) - bd cl N p) (bd cl N p) d1 l (99999 - (bd cl N (p + 1) - bd cl N p)) rfl (Nat.le_refl _) (by omega) (by rw [y27]; exact x27') (by rw [e2 6 (by decide) (by decide)]; exact h6) (fun q q1 q2 => (e4 q q1 q2).2) hD1 hJ
      rw [show 99999 - (bd cl N (p + 1) - bd cl N p) + (bd cl N (p + 1) - bd cl N p) + 1 = 100000 by omega] at r1
      rw [y27, x27, r1, Option.bind_some]
      have f14 : d2.1 14 = d1.1 14 := r4 14 (by decide)
      have f15 : d2.1 15 = d1.1 15 := r4 15 (by decide)
      have hW2 : DW cl nm N R G Sc Si Un np (okP cl nm N cs) d2 := hW.cg (fun i x y w => (r4 i w).trans (e2 i x y)) (fun i hi => (r5 i hi).trans (by rw [e3]))
      obtain ⟨d', l', s1, s2, s3, s4, s5, s6, s7⟩ := ih (p + 1) d2 l2 M (by omega) (by omega) hW2 ((r5 0 (by decide)).trans (by rw [e3]; exact h0)) (by rw [r4 27 (by decide), y27]; exact h27) (by rw [r4 28 (by decide), e2 28 (by decide) (by decide)]; exact h28) (by rw [r4 6 (by decide), e2 6 (by decide) (by decide)]; exact h6) (fun q hq => by
        rw [f14]
        by_cases hqp : bd cl N p ≤ q
        · exact (e4 q hqp hq).1
        · rw [(e5 q (Or.inl (by omega))).1]; exact h14 q (by omega)) (fun q q1 q2 => by
        rw [f14, f15, (e5 q (Or.inr q1)).1, (e5 q (Or.inr q1)).2]
        exact hn q (by omega) q2) r2 (by
        obtain ⟨j1, j2, j3, j4⟩ := r3
        refine ⟨j1, j2, by omega, fun x => ?_⟩
        rw [j4 x]
        constructor
        · rintro (⟨q, b, q1, q2, q3⟩ | h)
          · exact Or.inl ⟨q, b, by omega, q2, q3⟩
          · exact Or.inr h
        · rintro (⟨q, b, q1, q2, q3⟩ | h)
          · by_cases hqp : q = p
            · subst hqp; exact absurd (ho.symm.trans q2.no) (by decide)
            · exact Or.inl ⟨q, b, by omega, q2, q3⟩
          · exact Or.inr h)
      exact ⟨d', l', s1, s2, s3, s4, s5, fun i x y w => (s6 i x y w).trans ((r4 i w).trans (e2 i x y)), fun i hi => (s7 i hi).trans ((r5 i hi).trans (by rw [e3]))⟩
    | false =>
      obtain ⟨b, hb1, hb2, hb3⟩ := (h28 p hp).2 ho
      obtain ⟨i1, i2, i3⟩ := hb1.in hK hS hp
      obtain ⟨j1, j2, j3, j4⟩ := id hJ
      rw [hb3, if_neg (show ¬ Int32.ofNat b = -1 by rw [o_nm1 (by omega)]; exact id)]
      obtain ⟨d2, n1, n2, n3, n4⟩ := addF (a := 1) (b := b) hD (by omega)
      have n1' : f_Dr_addFault 1 (Int32.ofNat b) d = some d2 := n1
      rw [n1', Option.bind_some, Option.bind_some]
      have hz : ∀ q, bd cl N p ≤ q → q < bd cl N (p + 1) → R q = 0 := fun q q1 q2 => by
        have hpq : pt cl N q = p := pt_in hK hp q1 q2
        by_cases hr : R q = 0
        · exact hr
        · have := ((hA.1 q (by omega)).2.1 hr).1
          rw [hpq, ho] at this
          exact absurd this (by decide)
      have hW2 : DW cl nm N R G Sc Si Un np (okP cl nm N cs) d2 := hW.cg (fun i _ _ w => n3 i w) n4
      obtain ⟨d', l', s1, s2, s3, s4, s5, s6, s7⟩ := ih (p + 1) d2 (l ++ [1 + 8 * b]) M (by omega) (by omega) hW2 ((n4 0 (by decide)).trans h0) (by rw [n3 27 (by decide)]; exact h27) (by rw [n3 28 (by decide)]; exact h28) (by rw [n3 6 (by decide)]; exact h6) (fun q hq => by
        rw [n3 14 (by decide)]
        by_cases hqp : bd cl N p ≤ q
        · rw [(wF_0 (cl := cl) (nm := nm) (N := N) (G := G) (Sc := Sc) (Si := Si) (Un := Un) (np := np) (hz q hqp hq)).2]
          exact (hn q hqp (by omega)).1
        · exact h14 q (by omega)) (fun q q1 q2 => by
        rw [n3 14 (by decide), n3 15 (by decide)]
        exact hn q (by omega) q2) n2 (by
        refine ⟨JI.add j1 (fun x hx => ?_), fun hk2 x hx => ?_, by rw [lenn]; omega, fun x => ?_⟩
        · have := j2 (by omega) x hx
          by_cases h0p : 0 < p
          · have := i3 h0p
            omega
          · exfalso
            have hp0 : p = 0 := by omega
            subst hp0
            have hl0 : l.length ≤ 0 := by rw [b2] at j3; exact j3
            have : l = [] := List.length_eq_zero_iff.mp (by omega)
            rw [this] at hx
            exact absurd hx List.not_mem_nil
        · have hlt2 := (hS.lt (show bd cl N (p + 1) - 1 < bd cl N (p + 1) by omega) hk2).1
          rcases List.mem_append.mp hx with h | h
          · have := j2 (by omega) x h
            have := (hS.lt (show bd cl N p < bd cl N (p + 1) by omega) hk2).2
            omega
          · rw [List.mem_singleton.mp h]; omega
        · rw [List.mem_append, j4 x, List.mem_singleton]
          constructor
          · rintro ((⟨q, b', q1, q2, q3⟩ | ⟨q, ⟨q1, q2⟩, q3⟩) | h)
            · exact Or.inl ⟨q, b', by omega, q2, q3⟩
            · exact Or.inr ⟨q, ⟨by omega, q2⟩, q3⟩
            · exact Or.inl ⟨p, b, by omega, hb1, h⟩
          · rintro (⟨q, b', q1, q2, q3⟩ | ⟨q, ⟨q1, q2⟩, q3⟩)
            · by_cases hqp : q = p
              · subst hqp
                have := hb1.un q2
                subst this
                exact Or.inr q3
              · exact Or.inl (Or.inl ⟨q, b', by omega, q2, q3⟩)
            · refine Or.inl (Or.inr ⟨q, ⟨?_, q2⟩, q3⟩)
              by_cases hqp : q < bd cl N p
              · exact hqp
              · exfalso
                exact q2 (wF_0 (hz q (by omega) q1)).1)
      exact ⟨d', l', s1, s2, s3, s4, s5, fun i x y w => (s6 i x y w).trans (n3 i w), fun i hi => (s7 i hi).trans (n4 i hi)⟩
