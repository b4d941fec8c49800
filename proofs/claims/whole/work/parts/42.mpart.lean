/-! the model reads a whole part -/
def MEnd (ek : Nat → Nat) (N : Nat) (r : RS) : Prop := ∀ k, k < N → r.1 7 k = Int32.ofNat (ek k) ∧ ek k ≤ 240
def FrQ (p f m : Nat) (r r' : RS) : Prop := (∀ i, i ≠ 9 → i ≠ 12 → i ≠ 13 → i ≠ 14 → i ≠ 15 → i ≠ 18 → i ≠ 19 → i ≠ 21 → i ≠ 22 → i ≠ 23 → r'.1 i = r.1 i) ∧ (∀ i, i ≠ 6 → i ≠ 7 → i ≠ 8 → i ≠ 9 → i ≠ 10 → r'.2.1 i = r.2.1 i) ∧ r'.2.2 = r.2.2 ∧ (∀ k, ¬ (f ≤ k ∧ k < m) → r'.1 9 k = r.1 9 k ∧ r'.1 12 k = r.1 12 k ∧ r'.1 13 k = r.1 13 k ∧ r'.1 14 k = r.1 14 k ∧ r'.1 15 k = r.1 15 k) ∧ ∀ k, k ≠ p → r'.1 18 k = r.1 18 k ∧ r'.1 19 k = r.1 19 k
theorem FrQ.rf {p f m : Nat} {r : RS} : FrQ p f m r r := ⟨fun _ _ _ _ _ _ _ _ _ _ _ => rfl, fun _ _ _ _ _ _ => rfl, rfl, fun _ _ => ⟨rfl, rfl, rfl, rfl, rfl⟩, fun _ _ => ⟨rfl, rfl⟩⟩
theorem FrQ.tr {p f m : Nat} {r r' r2 : RS} (h : FrQ p f m r r') (h2 : FrQ p f m r' r2) : FrQ p f m r r2 := by
  refine ⟨fun i a b c e g h3 h4 h5 h6 h7 => (h2.1 i a b c e g h3 h4 h5 h6 h7).trans (h.1 i a b c e g h3 h4 h5 h6 h7), fun i a b c e g => (h2.2.1 i a b c e g).trans (h.2.1 i a b c e g), h2.2.2.1.trans h.2.2.1, fun k hk => ?_, fun k hk => ⟨(h2.2.2.2.2 k hk).1.trans (h.2.2.2.2 k hk).1, (h2.2.2.2.2 k hk).2.trans (h.2.2.2.2 k hk).2⟩⟩
  obtain ⟨a1, a2, a3, a4, a5⟩ := h.2.2.2.1 k hk
  obtain ⟨b1, b2, b3, b4, b5⟩ := h2.2.2.2.1 k hk
  exact ⟨b1.trans a1, b2.trans a2, b3.trans a3, b4.trans a4, b5.trans a5⟩
theorem FrQ.of {p f m : Nat} {r r' : RS} (h : FrP p f m r r') : FrQ p f m r r' := ⟨fun i a b c e g _ h3 h4 h5 h6 => h.1 i a b c e g h3 h4 h5 h6, h.2.1, h.2.2.1, h.2.2.2.1, fun k hk => ⟨congrFun (h.1 18 (by decide) (by decide) (by decide) (by decide) (by decide) (by decide) (by decide) (by decide) (by decide)) k, h.2.2.2.2 k hk⟩⟩
theorem FrQ.brk {p f m : Nat} {r : RS} {v : Int32} : FrQ p f m r (va_up r.1 18 (upd (r.1 18) p v), r.2.1, r.2.2) := ⟨fun i _ _ _ _ _ a _ _ _ _ => up_ne a, fun _ _ _ _ _ _ => rfl, rfl, fun _ _ => ⟨rfl, rfl, rfl, rfl, rfl⟩, fun k hk => ⟨ud_ne hk, rfl⟩⟩
theorem MTok.fq {cl nm sk : Nat → Nat} {N p f m : Nat} {r r' : RS} (h : MTok cl nm sk N r) (hf : FrQ p f m r r') : MTok cl nm sk N r' := h.cg (hf.2.1 3 (by decide) (by decide) (by decide) (by decide) (by decide)) hf.2.2.1 (hf.1 5 (by decide) (by decide) (by decide) (by decide) (by decide) (by decide) (by decide) (by decide) (by decide) (by decide)) (hf.1 6 (by decide) (by decide) (by decide) (by decide) (by decide) (by decide) (by decide) (by decide) (by decide) (by decide)) (hf.1 2 (by decide) (by decide) (by decide) (by decide) (by decide) (by decide) (by decide) (by decide) (by decide) (by decide))
theorem MEnd.fq {ek : Nat → Nat} {N p f m : Nat} {r r' : RS} (h : MEnd ek N r) (hf : FrQ p f m r r') : MEnd ek N r' := by
  unfold MEnd
  rw [hf.1 7 (by decide) (by decide) (by decide) (by decide) (by decide) (by decide) (by decide) (by decide) (by decide) (by decide)]
  exact h
def AutB (cl nm : Nat → Nat) (f m : Nat) (c0 : Cds) (j' : Nat) : Prop := ∃ x : XS, f < j' ∧ j' ≤ m ∧ aut cl nm f c0 j' = some x ∧ (x.1 = 13 → j' < m) ∧ (j' < m → aut cl nm f c0 (j' + 1) = none)
theorem rp70 {cl nm sk ek : Nat → Nat} {N f m p : Nat} {c0 : Cds} (hK : TK cl nm N) (hmN : m ≤ N) (hp : p < 4) : ∀ (z k : Nat) (r : RS) (M : Nat) (x : XS), m - k = z → f < k → k ≤ m → aut cl nm f c0 k = some x → MXk cl nm sk N f p r k x → r.1 18 p = -1 → MEnd ek N r → ∃ r1 : RS, lpN BMo_readPart_70 (M + z + 2) (Int32.ofNat p, Int32.ofNat m, Int32.ofNat k, r) = lpN BMo_readPart_150 100000 (Int32.ofNat p, Int32.ofNat m, Int32.ofNat f, r1) ∧ FrQ p f m r r1 ∧ r1.1 16 p = Int32.ofNat f ∧ ((∃ x, aut cl nm f c0 m = some x ∧ x.1 = 13 ∧ MXk cl nm sk N f p r1 m x ∧ r1.1 18 p = -1) ∨ ∃ j', AutB cl nm f m c0 j' ∧ r1.1 18 p = Int32.ofNat (if j' < m then sk j' else ek (m - 1))) := by
  intro z
  have hN := hK.1
  have ip : inb (Int32.ofNat p) 122 = true := o_inb (by omega) (by omega)
  induction z with
  | zero =>
    intro k r M x h1 h2 h3 hA hX h18 hek
    have : k = m := by omega
    subst this
    have h16 : r.1 16 p = Int32.ofNat f := hX.2.2.1
    have h6 : r.2.1 6 = Int32.ofNat x.1 := hX.1
    have hx13 : x.1 ≤ 13 := hX.2.2.2.1
    rw [show M + 0 + 2 = (M + 1) + 1 by omega, lp_succ]
    unfold BMo_readPart_70
    simp only [ip, ↓reduceIte, o_nat (show p < 2147483648 by omega), h18, h16, h6]
    rw [if_pos (by rw [i_le]; omega), if_neg (show ¬ (0 : Int32) ≤ -1 by decide)]
    have s13 : (Int32.ofNat x.1 = 13) = (x.1 = 13) := o_eq (b := 13) (by omega) (by omega)
    by_cases h13 : x.1 = 13
    · rw [if_pos (by rw [s13]; exact h13)]
      exact ⟨r, rfl, FrQ.rf, h16, Or.inl ⟨x, hA, h13, hX, h18⟩⟩
    · have em : Int32.ofNat k - 1 = Int32.ofNat (k - 1) := o_sub (b := 1) (by omega)
      obtain ⟨k1, k2⟩ := hek (k - 1) (by omega)
      rw [if_neg (by rw [s13]; exact h13), em, if_pos (o_inb (by omega) (by omega)), o_nat (by omega), k1]
      refine ⟨_, rfl, FrQ.brk, h16, Or.inr ⟨k, ⟨x, h2, by omega, hA, fun h => absurd h h13, fun h => by omega⟩, ?_⟩⟩
      rw [if_neg (by omega)]
      exact ud_eq
  | succ z ih =>
    intro k r M x h1 h2 h3 hA hX h18 hek
    have hkm : k < m := by omega
    have h16 : r.1 16 p = Int32.ofNat f := hX.2.2.1
    have hAk : aut0 cl nm f c0 (k - (f + 1)) = some x := hA
    obtain ⟨q, r', e1, e2, e3⟩ := stepM hK h2 hkm hmN hp (aut_wf _ _ hAk) (aut_h5 _ _ hAk) (aut_e8 _ _ hAk) hX
    have e18 : r'.1 18 p = r.1 18 p := congrFun (e2.1 18 (by decide) (by decide) (by decide) (by decide) (by decide) (by decide) (by decide) (by decide) (by decide)) p
    have e16 : r'.1 16 p = r.1 16 p := congrFun (e2.1 16 (by decide) (by decide) (by decide) (by decide) (by decide) (by decide) (by decide) (by decide) (by decide)) p
    rw [show M + (z + 1) + 2 = (M + z + 2) + 1 by omega, lp_succ]
    have hun : ∀ K : Int32 × Int32 × Int32 × RS → Option RS, BMo_readPart_70 K (Int32.ofNat p, Int32.ofNat m, Int32.ofNat k, r) = if q = 0 then (if inb (Int32.ofNat k) 240 then K (Int32.ofNat p, Int32.ofNat m, Int32.ofNat (k + 1), (va_up r'.1 18 (upd (r'.1 18) p (r'.1 6 k)), r'.2.1, r'.2.2)) else none) else K (Int32.ofNat p, Int32.ofNat m, Int32.ofNat (k + 1), r') := by
      intro K
      unfold BMo_readPart_70
      simp only [ip, ↓reduceIte, o_nat (show p < 2147483648 by omega), o_nat (show k < 2147483648 by omega), h18, e1, Option.bind_some, o_p1]
      rw [if_neg (by rw [o_le (by omega) (by omega)]; omega), if_neg (show ¬ (0 : Int32) ≤ -1 by decide)]
    rw [hun]
    rcases e3 with ⟨x', hs, rfl, hX'⟩ | ⟨hs, rfl⟩
    · rw [if_neg ne10]
      have hA' : aut cl nm f c0 (k + 1) = some x' := (aut_g h2 hA).trans hs
      obtain ⟨r1, g1, g2, g3, g4⟩ := ih (k + 1) r' M x' (by omega) (by omega) (by omega) hA' hX' (e18.trans h18) (hek.fq (FrQ.of e2))
      exact ⟨r1, g1, (FrQ.of e2).tr g2, g3, g4⟩
    · have hM' : MTok cl nm sk N r' := hX.2.1.fq (FrQ.of e2)
      obtain ⟨-, t6, t7, -⟩ := hM'.2.2 k (by omega)
      rw [if_pos rfl, if_pos (o_inb (by omega) (by omega)), show M + z + 2 = (M + z + 1) + 1 by omega, lp_succ, t6]
      have hb : (0 : Int32) ≤ Int32.ofNat (sk k) := by rw [i_le, onat (by omega), n0]; omega
      have z18 : va_up r'.1 18 (upd (r'.1 18) p (Int32.ofNat (sk k))) 18 p = Int32.ofNat (sk k) := ud_eq
      have z16 : va_up r'.1 18 (upd (r'.1 18) p (Int32.ofNat (sk k))) 16 p = Int32.ofNat f := e16.trans h16
      refine ⟨(va_up r'.1 18 (upd (r'.1 18) p (Int32.ofNat (sk k))), r'.2.1, r'.2.2), ?_, (FrQ.of e2).tr FrQ.brk, z16, Or.inr ⟨k, ⟨x, h2, by omega, hA, fun _ => hkm, fun _ => (aut_g h2 hA).trans hs⟩, ?_⟩⟩
      · unfold BMo_readPart_70
        simp only [ip, ↓reduceIte, o_nat (show p < 2147483648 by omega), z18, z16, hb, ite_self]
      · rw [if_pos hkm]; exact z18
theorem rp150g {N f m p : Nat} (hm : m ≤ 240) (hp : p < 4) : ∀ (z k : Nat) (r : RS) (M : Nat), m - k = z → k ≤ m → r.1 18 p = -1 → r.1 16 p = Int32.ofNat f → ∃ r' : RS, lpN BMo_readPart_150 (M + z + 1) (Int32.ofNat p, Int32.ofNat m, Int32.ofNat k, r) = some r' ∧ (∀ i, i ≠ 14 → i ≠ 15 → r'.1 i = r.1 i) ∧ (∀ q, r'.1 14 q = if k ≤ q ∧ q < m ∧ r.1 9 q = 2 then Int32.ofNat f else r.1 14 q) ∧ (∀ q, r'.1 15 q = if k ≤ q ∧ q < m ∧ r.1 9 q = 2 then Int32.ofNat m else r.1 15 q) ∧ r'.2 = r.2 := by
  intro z
  have ip : inb (Int32.ofNat p) 122 = true := o_inb (by omega) (by omega)
  induction z with
  | zero =>
    intro k r M h1 h2 h18 h16
    have : k = m := by omega
    subst this
    rw [Nat.add_zero, lp_succ]
    unfold BMo_readPart_150
    dsimp only
    rw [if_pos (by rw [i_le]; omega)]
    exact ⟨r, rfl, fun _ _ _ => rfl, fun q => by rw [if_neg (fun h => by omega)], fun q => by rw [if_neg (fun h => by omega)], rfl⟩
  | succ z ih =>
    intro k r M h1 h2 h18 h16
    have ik : inb (Int32.ofNat k) 240 = true := o_inb (by omega) (by omega)
    rw [show M + (z + 1) + 1 = (M + z + 1) + 1 by omega, lp_succ]
    unfold BMo_readPart_150
    simp only [ip, ik, ↓reduceIte, o_nat (show p < 2147483648 by omega), o_nat (show k < 2147483648 by omega), h18, h16, show ((-1 : Int32) < 0) by decide, o_p1]
    rw [if_neg (by rw [o_le (by omega) (by omega)]; omega)]
    by_cases h9 : r.1 9 k = 2
    · rw [if_pos h9]
      obtain ⟨r', e1, e2, e3, e4, e5⟩ := ih (k + 1) (va_up (va_up r.1 14 (upd (r.1 14) k (Int32.ofNat f))) 15 (upd (r.1 15) k (Int32.ofNat m)), r.2.1, r.2.2) M (by omega) (by omega) h18 h16
      refine ⟨r', e1, fun i a b => (e2 i a b).trans ((up_ne b).trans (up_ne a)), fun q => ?_, fun q => ?_, e5⟩
      · rw [e3 q]
        show (if k + 1 ≤ q ∧ q < m ∧ r.1 9 q = 2 then Int32.ofNat f else upd (r.1 14) k (Int32.ofNat f) q) = _
        by_cases hq : q = k
        · subst hq
          rw [ud_eq, ite_self, if_pos ⟨by omega, by omega, h9⟩]
        · rw [ud_ne hq]
          by_cases h : k + 1 ≤ q ∧ q < m ∧ r.1 9 q = 2
          · rw [if_pos h, if_pos ⟨by omega, h.2⟩]
          · rw [if_neg h, if_neg (fun h2 => h ⟨by omega, h2.2⟩)]
      · rw [e4 q]
        show (if k + 1 ≤ q ∧ q < m ∧ r.1 9 q = 2 then Int32.ofNat m else upd (r.1 15) k (Int32.ofNat m) q) = _
        by_cases hq : q = k
        · subst hq
          rw [ud_eq, ite_self, if_pos ⟨by omega, by omega, h9⟩]
        · rw [ud_ne hq]
          by_cases h : k + 1 ≤ q ∧ q < m ∧ r.1 9 q = 2
          · rw [if_pos h, if_pos ⟨by omega, h.2⟩]
          · rw [if_neg h, if_neg (fun h2 => h ⟨by omega, h2.2⟩)]
    · rw [if_neg h9]
      obtain ⟨r', e1, e2, e3, e4, e5⟩ := ih (k + 1) r M (by omega) (by omega) h18 h16
      refine ⟨r', e1, e2, fun q => ?_, fun q => ?_, e5⟩
      · rw [e3 q]
        by_cases h : k + 1 ≤ q ∧ q < m ∧ r.1 9 q = 2
        · rw [if_pos h, if_pos ⟨by omega, h.2⟩]
        · rw [if_neg h, if_neg (fun h2 => h ⟨by
            by_cases hq : q = k
            · subst hq; exact absurd h2.2.2 h9
            · omega, h2.2⟩)]
      · rw [e4 q]
        by_cases h : k + 1 ≤ q ∧ q < m ∧ r.1 9 q = 2
        · rw [if_pos h, if_pos ⟨by omega, h.2⟩]
        · rw [if_neg h, if_neg (fun h2 => h ⟨by
            by_cases hq : q = k
            · subst hq; exact absurd h2.2.2 h9
            · omega, h2.2⟩)]
theorem rp150b {m p b : Nat} (hm : m ≤ 240) (hp : p < 4) (hb : b ≤ 240) : ∀ (z k : Nat) (r : RS) (M : Nat), m - k = z → k ≤ m → r.1 18 p = Int32.ofNat b → ∃ r' : RS, lpN BMo_readPart_150 (M + z + 1) (Int32.ofNat p, Int32.ofNat m, Int32.ofNat k, r) = some r' ∧ (∀ i, i ≠ 9 → r'.1 i = r.1 i) ∧ (∀ q, r'.1 9 q = if k ≤ q ∧ q < m then 0 else r.1 9 q) ∧ r'.2 = r.2 := by
  intro z
  have ip : inb (Int32.ofNat p) 122 = true := o_inb (by omega) (by omega)
  induction z with
  | zero =>
    intro k r M h1 h2 h18
    have : k = m := by omega
    subst this
    rw [Nat.add_zero, lp_succ]
    unfold BMo_readPart_150
    dsimp only
    rw [if_pos (by rw [i_le]; omega)]
    exact ⟨r, rfl, fun _ _ => rfl, fun q => by rw [if_neg (fun h => by omega)], rfl⟩
  | succ z ih =>
    intro k r M h1 h2 h18
    have ik : inb (Int32.ofNat k) 240 = true := o_inb (by omega) (by omega)
    have hnb : ¬ Int32.ofNat b < 0 := by rw [i_lt, onat (by omega), n0]; omega
    have u0 : upd (r.1 9) k 0 k = 0 := ud_eq
    rw [show M + (z + 1) + 1 = (M + z + 1) + 1 by omega, lp_succ]
    unfold BMo_readPart_150
    simp only [ip, ik, ↓reduceIte, o_nat (show p < 2147483648 by omega), o_nat (show k < 2147483648 by omega), h18, hnb, bindv, u0, show ¬ ((0 : Int32) = 2) by decide, o_p1]
    rw [if_neg (by rw [o_le (by omega) (by omega)]; omega)]
    obtain ⟨r', e1, e2, e3, e4⟩ := ih (k + 1) (va_up r.1 9 (upd (r.1 9) k 0), r.2.1, r.2.2) M (by omega) (by omega) h18
    refine ⟨r', e1, fun i a => (e2 i a).trans (up_ne a), fun q => ?_, e4⟩
    rw [e3 q]
    show (if k + 1 ≤ q ∧ q < m then (0 : Int32) else upd (r.1 9) k 0 q) = _
    by_cases hq : q = k
    · subst hq
      rw [ud_eq, ite_self, if_pos ⟨by omega, by omega⟩]
    · rw [ud_ne hq]
      by_cases h : k + 1 ≤ q ∧ q < m
      · rw [if_pos h, if_pos ⟨by omega, h.2⟩]
      · rw [if_neg h, if_neg (fun h2 => h ⟨by omega, h2.2⟩)]
/-- What the model has of a part that it has read. -/
def MGd (cl nm : Nat → Nat) (f m p : Nat) (c0 : Cds) (r' : RS) : Prop := ∃ (ρ γ : Nat → Nat) (c : Cds) (V : VS), aut cl nm f c0 m = some (13, [], ρ, γ, c, V) ∧ r'.1 18 p = -1 ∧ r'.1 19 p = Int32.ofNat V.2.2.2.2.2.1 ∧ (∀ k, f ≤ k → k < m → r'.1 9 k = Int32.ofNat (ρ k) ∧ (ρ k = 6 → r'.1 12 k = Int32.ofNat (γ k)) ∧ (ρ k = 2 ∨ ρ k = 3 → r'.1 13 k = Int32.ofNat (V.2.2.2.2.2.2.1 k)) ∧ (r'.1 14 k = if ρ k = 2 then Int32.ofNat f else Int32.ofNat (V.2.2.2.2.2.2.2.1 k)) ∧ (r'.1 15 k = if ρ k = 2 then Int32.ofNat m else if ρ k = 3 then Int32.ofNat (V.2.2.2.2.2.2.2.2 (V.2.2.2.2.2.2.1 k)) else 0)) ∧ (∀ k, ρ k ≤ 6) ∧ (∀ k, m ≤ k → ρ k = 0) ∧ (∀ k, ρ k = 3 → f ≤ V.2.2.2.2.2.2.1 k ∧ V.2.2.2.2.2.2.1 k < k)
def MBd (cl nm sk ek : Nat → Nat) (f m p : Nat) (c0 : Cds) (r' : RS) (b : Nat) : Prop := b ≤ 240 ∧ r'.1 18 p = Int32.ofNat b ∧ (∀ k, f ≤ k → k < m → r'.1 9 k = 0) ∧ (cl f ≠ 400 ∧ b = sk f ∨ cl f = 400 ∧ ∃ j', AutB cl nm f m c0 j' ∧ b = if j' < m then sk j' else ek (m - 1))
theorem partM {cl nm sk ek : Nat → Nat} {N f m p : Nat} (c0 : Cds) {r : RS} (hK : TK cl nm N) (hfm : f < m) (hmN : m ≤ N) (hp : p < 4) (hM : MTok cl nm sk N r) (hek : MEnd ek N r) (h16 : r.1 16 p = Int32.ofNat f) (h17 : r.1 17 p = Int32.ofNat m) (h0 : ∀ k, f ≤ k → k < N → r.1 9 k = 0 ∧ r.1 12 k = 0 ∧ r.1 14 k = 0 ∧ r.1 15 k = 0) : ∃ r' : RS, f_Mo_readPart (Int32.ofNat p) r = some r' ∧ FrQ p f m r r' ∧ (cl f = 400 ∧ MGd cl nm f m p c0 r' ∨ ∃ b, MBd cl nm sk ek f m p c0 r' b) := by
  have hN := hK.1
  have ip : inb (Int32.ofNat p) 122 = true := o_inb (by omega) (by omega)
  have fr0 : FrQ p f m r (va_up (va_up r.1 18 (upd (r.1 18) p (-1))) 19 (upd (r.1 19) p 0), va_up (va_up r.2.1 6 0) 7 0, r.2.2) := ⟨fun i _ _ _ _ _ a b _ _ _ => (up_ne b).trans (up_ne a), fun i a b _ _ _ => (up_ne b).trans (up_ne a), rfl, fun _ _ => ⟨rfl, rfl, rfl, rfl, rfl⟩, fun k hk => ⟨ud_ne hk, ud_ne hk⟩⟩
  have hM0 := hM.fq fr0
  have hek0 := hek.fq fr0
  have z18 : va_up (va_up r.1 18 (upd (r.1 18) p (-1))) 19 (upd (r.1 19) p 0) 18 p = -1 := ud_eq
  have z16 : va_up (va_up r.1 18 (upd (r.1 18) p (-1))) 19 (upd (r.1 19) p 0) 16 p = Int32.ofNat f := h16
  unfold f_Mo_readPart
  simp only [ip, ↓reduceIte, o_nat (show p < 2147483648 by omega), h16, h17, isFnM hK hM0 (show f < N by omega), Option.bind_some, z16, o_p1]
  have bad : ∀ (r1 : RS) (b : Nat), FrQ p f m r r1 → b ≤ 240 → r1.1 18 p = Int32.ofNat b → (cl f ≠ 400 ∧ b = sk f ∨ cl f = 400 ∧ ∃ j', AutB cl nm f m c0 j' ∧ b = if j' < m then sk j' else ek (m - 1)) → ∃ r' : RS, lpN BMo_readPart_150 100000 (Int32.ofNat p, Int32.ofNat m, Int32.ofNat f, r1) = some r' ∧ FrQ p f m r r' ∧ (cl f = 400 ∧ MGd cl nm f m p c0 r' ∨ ∃ b, MBd cl nm sk ek f m p c0 r' b) := by
    intro r1 b hfr hb h18 hc
    obtain ⟨r', e1, e2, e3, e4⟩ := rp150b (p := p) (show m ≤ 240 by omega) hp hb (m - f) f r1 (99999 - (m - f)) rfl (by omega) h18
    rw [show 99999 - (m - f) + (m - f) + 1 = 100000 by omega] at e1
    have fr2 : FrQ p f m r1 r' := ⟨fun i a _ _ _ _ _ _ _ _ _ => e2 i a, fun i _ _ _ _ _ => by rw [e4], by rw [e4], fun k hk => ⟨by rw [e3 k, if_neg hk], by rw [e2 12 (by decide)], by rw [e2 13 (by decide)], by rw [e2 14 (by decide)], by rw [e2 15 (by decide)]⟩, fun k _ => ⟨by rw [e2 18 (by decide)], by rw [e2 19 (by decide)]⟩⟩
    exact ⟨r', e1, hfr.tr fr2, Or.inr ⟨b, hb, by rw [e2 18 (by decide)]; exact h18, fun k a b => by rw [e3 k, if_pos ⟨a, b⟩], hc⟩⟩
  by_cases h400 : cl f = 400
  · rw [if_pos h400, if_neg ne10]
    have hA0 : aut cl nm f c0 (f + 1) = some (0, [], fun _ => 0, fun _ => 0, c0, [], 0, 0, 0, (0, 0), 0, fun _ => 0, fun _ => 0, fun _ => 0) := by
      unfold aut
      rw [Nat.sub_self]; rfl
    have hX0 : MXk cl nm sk N f p (va_up (va_up r.1 18 (upd (r.1 18) p (-1))) 19 (upd (r.1 19) p 0), va_up (va_up r.2.1 6 0) 7 0, r.2.2) (f + 1) (0, [], fun _ => 0, fun _ => 0, c0, [], 0, 0, 0, (0, 0), 0, fun _ => 0, fun _ => 0, fun _ => 0) :=
      ⟨rfl, hM0, h16, by show 0 ≤ 13; omega, ⟨rfl, by show 0 ≤ 4; omega, trivial⟩, fun a => absurd (show 9 ≤ 0 from a) (by omega), fun a => absurd (show 8 ≤ 0 from a) (by omega), ⟨fun k a b => (h0 k a b).1, fun _ _ => rfl, fun _ => by show 0 ≤ 6; omega⟩, ⟨fun k _ _ c => absurd (show 0 = 6 from c) (by omega), fun k a b _ => (h0 k a b).2.1, fun a h => absurd h List.not_mem_nil⟩, ⟨fun k _ _ c => absurd (show 0 = 2 ∨ 0 = 3 from c) (by omega), fun k c => absurd (show 0 = 3 from c) (by omega)⟩, fun k a b => (h0 k a b).2.2.1, ⟨fun k a b => (h0 k a b).2.2.2, fun _ _ => rfl⟩, ud_eq, by show 0 ≤ f + 1; omega, fun a => absurd (show 0 = 12 from a) (by omega)⟩
    obtain ⟨r1, e1, e2, e3, e4⟩ := rp70 hK hmN hp (m - (f + 1)) (f + 1) _ (99998 - (m - (f + 1))) _ rfl (by omega) (by omega) hA0 hX0 z18 hek0
    rw [show 99998 - (m - (f + 1)) + (m - (f + 1)) + 2 = 100000 by omega] at e1
    rw [e1]
    rcases e4 with ⟨x, hA, h13, hX, h18⟩ | ⟨j', hB, h18⟩
    · obtain ⟨r', g1, g2, g3, g4, g5⟩ := rp150g (N := N) (p := p) (show m ≤ 240 by omega) hp (m - f) f r1 (99999 - (m - f)) rfl (by omega) h18 e3
      rw [show 99999 - (m - f) + (m - f) + 1 = 100000 by omega] at g1
      have fr2 : FrQ p f m r1 r' := ⟨fun i _ _ _ a b _ _ _ _ _ => g2 i a b, fun i _ _ _ _ _ => by rw [g5], by rw [g5], fun k hk => ⟨by rw [g2 9 (by decide) (by decide)], by rw [g2 12 (by decide) (by decide)], by rw [g2 13 (by decide) (by decide)], by rw [g3 k, if_neg (fun h => hk ⟨h.1, h.2.1⟩)], by rw [g4 k, if_neg (fun h => hk ⟨h.1, h.2.1⟩)]⟩, fun k _ => ⟨by rw [g2 18 (by decide) (by decide)], by rw [g2 19 (by decide) (by decide)]⟩⟩
      obtain ⟨st, fr, ρ, γ, c, V⟩ := x
      have h13' : st = 13 := h13
      subst h13'
      have hfr : fr = [] := (aut_wf _ _ (show aut0 cl nm f c0 (m - (f + 1)) = _ from hA)).2.1 (Or.inr (by show 13 ≤ 13; omega))
      subst hfr
      obtain ⟨-, hMm, -, -, -, -, -, hRo, hGi, hSc, hSi, hUn, h19, -, -⟩ := hX
      refine ⟨r', g1, (fr0.tr e2).tr fr2, Or.inl ⟨h400, ρ, γ, c, V, hA, by rw [g2 18 (by decide) (by decide)]; exact h18, by rw [g2 19 (by decide) (by decide)]; exact h19, fun k a b => ?_, hRo.2.2, hRo.2.1, hSc.2⟩⟩
      have q9 : r1.1 9 k = Int32.ofNat (ρ k) := hRo.1 k a (by omega)
      have hr6 : ρ k ≤ 6 := hRo.2.2 k
      have q2 : (Int32.ofNat (ρ k) = 2) = (ρ k = 2) := o_eq (b := 2) (by omega) (by omega)
      refine ⟨by rw [g2 9 (by decide) (by decide)]; exact q9, fun h6 => by rw [g2 12 (by decide) (by decide)]; exact hGi.1 k a (by omega) h6 List.not_mem_nil, fun h23 => by rw [g2 13 (by decide) (by decide)]; exact hSc.1 k a (by omega) h23, ?_, ?_⟩
      · rw [g3 k, q9]
        simp only [q2]
        by_cases h2 : ρ k = 2
        · rw [if_pos ⟨a, b, h2⟩, if_pos h2]
        · rw [if_neg (fun h => h2 h.2.2), if_neg h2]; exact hSi k a (by omega)
      · rw [g4 k, q9]
        simp only [q2]
        by_cases h2 : ρ k = 2
        · rw [if_pos ⟨a, b, h2⟩, if_pos h2]
        · rw [if_neg (fun h => h2 h.2.2), if_neg h2]; exact hUn.1 k a (by omega)
    · refine bad r1 _ (fr0.tr e2) ?_ h18 (Or.inr ⟨h400, j', hB, rfl⟩)
      obtain ⟨x, q1, q2, -⟩ := hB
      split
      · have := (hM.2.2 j' (by omega)).2.2.1
        omega
      · exact (hek (m - 1) (by omega)).2
  · rw [if_neg h400, if_pos rfl]
    obtain ⟨-, t6, t7, -⟩ := hM.2.2 f (by omega)
    have t6' : va_up (va_up r.1 18 (upd (r.1 18) p (-1))) 19 (upd (r.1 19) p 0) 6 f = Int32.ofNat (sk f) := t6
    simp only [o_inb (show f < 240 by omega) (show f < 2147483648 by omega), o_nat (show f < 2147483648 by omega), t6', bindv, ↓reduceIte]
    rw [show (100000 : Nat) = 99999 + 1 from rfl, lp_succ]
    have hb : (0 : Int32) ≤ Int32.ofNat (sk f) := by rw [i_le, onat (by omega), n0]; omega
    obtain ⟨r', e1, e2⟩ := bad (va_up (va_up (va_up r.1 18 (upd (r.1 18) p (-1))) 19 (upd (r.1 19) p 0)) 18 (upd (va_up (va_up r.1 18 (upd (r.1 18) p (-1))) 19 (upd (r.1 19) p 0) 18) p (Int32.ofNat (sk f))), va_up (va_up r.2.1 6 0) 7 0, r.2.2) (sk f) (fr0.tr FrQ.brk) (by omega) ud_eq (Or.inl ⟨h400, rfl⟩)
    have y18 : va_up (va_up (va_up r.1 18 (upd (r.1 18) p (-1))) 19 (upd (r.1 19) p 0)) 18 (upd (va_up (va_up r.1 18 (upd (r.1 18) p (-1))) 19 (upd (r.1 19) p 0) 18) p (Int32.ofNat (sk f))) 18 p = Int32.ofNat (sk f) := ud_eq
    have y16 : va_up (va_up (va_up r.1 18 (upd (r.1 18) p (-1))) 19 (upd (r.1 19) p 0)) 18 (upd (va_up (va_up r.1 18 (upd (r.1 18) p (-1))) 19 (upd (r.1 19) p 0) 18) p (Int32.ofNat (sk f))) 16 p = Int32.ofNat f := h16
    refine ⟨r', ?_, e2⟩
    rw [← e1]
    unfold BMo_readPart_70
    simp only [ip, ↓reduceIte, o_nat (show p < 2147483648 by omega), y18, y16, hb, ite_self]
