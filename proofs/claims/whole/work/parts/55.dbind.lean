/-! the desk binds the names of a part, and judges all parts -/
def wr (t : Nat) : Int32 := if t = 0 then -1 else Int32.ofNat t
theorem wF_0 {cl nm : Nat → Nat} {N : Nat} {R G Sc Si Un np : Nat → Nat} {k : Nat} (h : R k = 0) : wF cl nm N R G Sc Si Un np k = 0 ∧ wB cl nm N R Sc Si Un k = 0 := by
  unfold wF wB
  rw [if_neg (by omega), if_neg (by omega), if_neg (by omega), if_neg (by omega), if_neg (by omega), if_neg (by omega), if_neg (by omega)]
  exact ⟨rfl, rfl⟩
theorem bindOrD {d : DS} {k : Nat} {v a3 : Int32} (hk : k < 240) : f_Na_bindOr (Int32.ofNat k) v a3 d = some (if v = -1 then (va_up (va_up d.1 14 (upd (d.1 14) k v)) 15 (upd (d.1 15) k a3), d.2) else (va_up d.1 14 (upd (d.1 14) k v), d.2)) := by
  unfold f_Na_bindOr
  simp only [o_inb hk (show k < 2147483648 by omega), o_nat (show k < 2147483648 by omega), ↓reduceIte]
  split <;> rfl
theorem pm_neg {t : Nat} (h : t ≤ 2147483647) : (pm t = -1) = (t = 0) := pm_m1 h
theorem bind_loop {cl nm : Nat → Nat} {N p : Nat} {R G Sc Si Un np : Nat → Nat} {ok : Nat → Bool} (hK : TK cl nm N) (hA : AW cl nm N R Sc Si Un ok) (hp : p < (ps cl N).length) (ho : ok p = true) : ∀ (z k : Nat) (d : DS) (M : Nat), bd cl N (p + 1) - k = z → bd cl N p ≤ k → k ≤ bd cl N (p + 1) → DW cl nm N R G Sc Si Un np ok d → (∀ q, bd cl N p ≤ q → q < k → d.1 14 q = pm (wB cl nm N R Sc Si Un q) ∧ d.1 15 q = wr (wF cl nm N R G Sc Si Un np q)) → (∀ q, k ≤ q → q < N → d.1 14 q = -1 ∧ d.1 15 q = -1) → ∃ d' : DS, lpN BNa_bind_2 (M + z + 1) (Int32.ofNat (bd cl N p), Int32.ofNat (bd cl N (p + 1)), Int32.ofNat k, d) = some d' ∧ (∀ i, i ≠ 14 → i ≠ 15 → d'.1 i = d.1 i) ∧ d'.2 = d.2 ∧ (∀ q, bd cl N p ≤ q → q < bd cl N (p + 1) → d'.1 14 q = pm (wB cl nm N R Sc Si Un q) ∧ d'.1 15 q = wr (wF cl nm N R G Sc Si Un np q)) ∧ (∀ q, q < bd cl N p ∨ bd cl N (p + 1) ≤ q → d'.1 14 q = d.1 14 q ∧ d'.1 15 q = d.1 15 q) := by
  intro z
  have hN := hK.1
  obtain ⟨b1, b2, b3, b4, b5, b6, b7, b8⟩ := bd_ok hK
  have hmN := b5 (p + 1)
  have hlt := b3 p hp
  induction z with
  | zero =>
    intro k d M h1 h2 h3 hW hdn hn
    have : k = bd cl N (p + 1) := by omega
    subst this
    rw [Nat.add_zero, lp_succ]
    unfold BNa_bind_2
    dsimp only
    rw [if_pos (by rw [i_le]; omega)]
    exact ⟨d, rfl, fun _ _ _ => rfl, rfl, hdn, fun _ _ => ⟨rfl, rfl⟩⟩
  | succ z ih =>
    intro k d M h1 h2 h3 hW hdn hn
    have hpk : pt cl N k = p := pt_eq hK (by omega) h2 (by omega)
    have hok : ok (pt cl N k) = true := by rw [hpk]; exact ho
    obtain ⟨c13, c19, -⟩ := hW.2.1 k (by omega) hok
    obtain ⟨a1, a2, -⟩ := hA.1 k (by omega)
    have hsw := sw_le a1
    have hswr : sw (R k) = if R k = 4 then 5 else if R k = 5 then 4 else R k := rfl
    have ik : inb (Int32.ofNat k) 240 = true := o_inb (by omega) (by omega)
    have t1 : (Int32.ofNat (sw (R k)) = 1) = (sw (R k) = 1) := o_eq (b := 1) (by omega) (by omega)
    have t2 : (Int32.ofNat (sw (R k)) = 2) = (sw (R k) = 2) := o_eq (b := 2) (by omega) (by omega)
    have t3 : (Int32.ofNat (sw (R k)) = 3) = (sw (R k) = 3) := o_eq (b := 3) (by omega) (by omega)
    have t4 : (Int32.ofNat (sw (R k)) = 4) = (sw (R k) = 4) := o_eq (b := 4) (by omega) (by omega)
    have t5 : (Int32.ofNat (sw (R k)) = 5) = (sw (R k) = 5) := o_eq (b := 5) (by omega) (by omega)
    have t6 : (Int32.ofNat (sw (R k)) = 6) = (sw (R k) = 6) := o_eq (b := 6) (by omega) (by omega)
    have hBd : BdD R nm Sc (bd cl N p) k d := fun q q1 q2 hr => by
      rw [(hdn q q1 q2).1]
      unfold wB
      rw [if_pos (by omega)]
      cases rp R nm Sc q <;> rfl
    have hnk := hK.2.2.1 k
    have n14 := (hn k (Nat.le_refl _) (by omega)).1
    have n15 := (hn k (Nat.le_refl _) (by omega)).2
    have go : ∀ d2 : DS, (∀ i, i ≠ 14 → i ≠ 15 → d2.1 i = d.1 i) → d2.2 = d.2 → (∀ q, q ≠ k → d2.1 14 q = d.1 14 q ∧ d2.1 15 q = d.1 15 q) → d2.1 14 k = pm (wB cl nm N R Sc Si Un k) → d2.1 15 k = wr (wF cl nm N R G Sc Si Un np k) → ∃ d' : DS, lpN BNa_bind_2 (M + z + 1) (Int32.ofNat (bd cl N p), Int32.ofNat (bd cl N (p + 1)), Int32.ofNat (k + 1), d2) = some d' ∧ (∀ i, i ≠ 14 → i ≠ 15 → d'.1 i = d.1 i) ∧ d'.2 = d.2 ∧ (∀ q, bd cl N p ≤ q → q < bd cl N (p + 1) → d'.1 14 q = pm (wB cl nm N R Sc Si Un q) ∧ d'.1 15 q = wr (wF cl nm N R G Sc Si Un np q)) ∧ (∀ q, q < bd cl N p ∨ bd cl N (p + 1) ≤ q → d'.1 14 q = d.1 14 q ∧ d'.1 15 q = d.1 15 q) := by
      intro d2 g1 g2 g3 g4 g5
      obtain ⟨d', e1, e2, e3, e4, e5⟩ := ih (k + 1) d2 M (by omega) (by omega) (by omega) (hW.cg (fun i x y _ => g1 i x y) (fun i _ => by rw [g2])) (fun q q1 q2 => by
        by_cases hqk : q = k
        · subst hqk; exact ⟨g4, g5⟩
        · rw [(g3 q hqk).1, (g3 q hqk).2]
          exact hdn q q1 (by omega)) (fun q q1 q2 => by
        rw [(g3 q (by omega)).1, (g3 q (by omega)).2]
        exact hn q (by omega) q2)
      refine ⟨d', e1, fun i x y => (e2 i x y).trans (g1 i x y), e3.trans g2, e4, fun q hq => ?_⟩
      obtain ⟨y1, y2⟩ := e5 q hq
      obtain ⟨y3, y4⟩ := g3 q (by omega)
      exact ⟨y1.trans y3, y2.trans y4⟩
    have gor : ∀ (t fl : Nat) (a3 : Int32), t ≤ 240 → wB cl nm N R Sc Si Un k = t → wF cl nm N R G Sc Si Un np k = (if t = 0 then fl else 0) → a3 = Int32.ofNat fl → fl ≠ 0 → ∃ d' : DS, ((f_Na_bindOr (Int32.ofNat k) (pm t) a3 d).bind (fun q6 => lpN BNa_bind_2 (M + z + 1) (Int32.ofNat (bd cl N p), Int32.ofNat (bd cl N (p + 1)), Int32.ofNat (k + 1), q6))) = some d' ∧ (∀ i, i ≠ 14 → i ≠ 15 → d'.1 i = d.1 i) ∧ d'.2 = d.2 ∧ (∀ q, bd cl N p ≤ q → q < bd cl N (p + 1) → d'.1 14 q = pm (wB cl nm N R Sc Si Un q) ∧ d'.1 15 q = wr (wF cl nm N R G Sc Si Un np q)) ∧ (∀ q, q < bd cl N p ∨ bd cl N (p + 1) ≤ q → d'.1 14 q = d.1 14 q ∧ d'.1 15 q = d.1 15 q) := by
      intro t fl a3 ht hwB hwF ha3 hfl
      rw [bindOrD (show k < 240 by omega), Option.bind_some]
      simp only [pm_neg (show t ≤ 2147483647 by omega)]
      by_cases h0 : t = 0
      · rw [if_pos h0]
        rw [if_pos h0] at hwF
        refine go _ (fun i x y => (up_ne y).trans (up_ne x)) rfl (fun q hq => ⟨ud_ne hq, ud_ne hq⟩) (by rw [hwB]; exact ud_eq) ?_
        rw [hwF]
        unfold wr
        rw [if_neg hfl, ← ha3]; exact ud_eq
      · rw [if_neg h0]
        rw [if_neg h0] at hwF
        refine go _ (fun i x _ => up_ne x) rfl (fun q hq => ⟨ud_ne hq, rfl⟩) (by rw [hwB]; exact ud_eq) ?_
        rw [hwF]
        exact n15
    rw [show M + (z + 1) + 1 = (M + z + 1) + 1 by omega, lp_succ]
    unfold BNa_bind_2
    simp only [ik, ↓reduceIte, o_nat (show k < 2147483648 by omega), c13, t1, t2, t3, t4, t5, t6, o_p1]
    rw [if_neg (by rw [o_le (by omega) (by omega)]; omega)]
    have hs : R k = 0 ∨ R k = 1 ∨ R k = 2 ∨ R k = 3 ∨ R k = 4 ∨ R k = 5 ∨ R k = 6 := by omega
    have dcl : (R k = 2 ∨ R k = 3) → ∃ d' : DS, ((f_Na_isDeclaredBefore (Int32.ofNat k) (Int32.ofNat (bd cl N p)) d).bind (fun q9 => if q9.1 = 0 then (f_Na_bindOr (Int32.ofNat k) (Int32.ofNat k) 2 q9.2).bind (fun q11 => lpN BNa_bind_2 (M + z + 1) (Int32.ofNat (bd cl N p), Int32.ofNat (bd cl N (p + 1)), Int32.ofNat (k + 1), q11)) else (f_Na_bindOr (Int32.ofNat k) (-1) 2 q9.2).bind (fun q12 => lpN BNa_bind_2 (M + z + 1) (Int32.ofNat (bd cl N p), Int32.ofNat (bd cl N (p + 1)), Int32.ofNat (k + 1), q12)))) = some d' ∧ (∀ i, i ≠ 14 → i ≠ 15 → d'.1 i = d.1 i) ∧ d'.2 = d.2 ∧ (∀ q, bd cl N p ≤ q → q < bd cl N (p + 1) → d'.1 14 q = pm (wB cl nm N R Sc Si Un q) ∧ d'.1 15 q = wr (wF cl nm N R G Sc Si Un np q)) ∧ (∀ q, q < bd cl N p ∨ bd cl N (p + 1) ≤ q → d'.1 14 q = d.1 14 q ∧ d'.1 15 q = d.1 15 q) := by
      intro hr
      have hbf := befD hK hA hW (show k < N by omega) hr (by rw [hpk]; exact hBd)
      rw [hpk] at hbf
      rw [hbf, Option.bind_some]
      dsimp only
      have hwB : wB cl nm N R Sc Si Un k = if rp R nm Sc k then 0 else k + 1 := by
        unfold wB
        rw [if_pos (by omega)]
      have hwF : wF cl nm N R G Sc Si Un np k = if rp R nm Sc k then 2 else 0 := by
        unfold wF
        rw [if_neg (by omega), if_pos hr]
      cases hrp : rp R nm Sc k with
      | true =>
        rw [hrp, if_pos rfl] at hwB hwF
        rw [if_pos rfl, if_neg ne10]
        exact gor 0 2 2 (by omega) hwB (by rw [hwF]; rfl) rfl (by omega)
      | false =>
        rw [hrp] at hwB hwF
        simp only [Bool.false_eq_true, ↓reduceIte] at hwB hwF ⊢
        exact gor (k + 1) 2 2 (by omega) hwB (by rw [hwF]; rfl) rfl (by omega)
    have use : (R k = 4 ∨ R k = 5) → ∃ d' : DS, ((f_Na_meaning (Int32.ofNat k) (d.1 5 k) d).bind (fun q20 => (f_Na_bindOr (Int32.ofNat k) q20.1 3 q20.2).bind (fun q21 => lpN BNa_bind_2 (M + z + 1) (Int32.ofNat (bd cl N p), Int32.ofNat (bd cl N (p + 1)), Int32.ofNat (k + 1), q21)))) = some d' ∧ (∀ i, i ≠ 14 → i ≠ 15 → d'.1 i = d.1 i) ∧ d'.2 = d.2 ∧ (∀ q, bd cl N p ≤ q → q < bd cl N (p + 1) → d'.1 14 q = pm (wB cl nm N R Sc Si Un q) ∧ d'.1 15 q = wr (wF cl nm N R G Sc Si Un np q)) ∧ (∀ q, q < bd cl N p ∨ bd cl N (p + 1) ≤ q → d'.1 14 q = d.1 14 q ∧ d'.1 15 q = d.1 15 q) := by
      intro hr
      have s5 := (hW.1.2 k (by omega)).2.2.1 (Or.inl ((a2 (by omega)).2.1))
      rw [s5, meanD hK hA hW (by omega) (by omega) hnk (by rw [hpk]; exact hBd), Option.bind_some]
      dsimp only
      have hwB : wB cl nm N R Sc Si Un k = mean R nm Sc Si Un N (nm k) k := by
        unfold wB
        rw [if_neg (by omega), if_pos hr]
      have hwF : wF cl nm N R G Sc Si Un np k = if mean R nm Sc Si Un N (nm k) k = 0 then 3 else 0 := by
        unfold wF
        rw [if_neg (by omega), if_neg (by omega), if_pos hr]
      refine gor (mean R nm Sc Si Un N (nm k) k) 3 3 ?_ hwB hwF rfl (by omega)
      rcases lsB_ok (P := ftB R nm Sc Si Un (nm k) k) N with ⟨g1, -⟩ | ⟨q', g1, g2, -⟩
      · have g1 : mean R nm Sc Si Un N (nm k) k = 0 := g1
        omega
      · have g1 : mean R nm Sc Si Un N (nm k) k = q' + 1 := g1
        omega
    rcases hs with h | h | h | h | h | h | h
    · clear dcl use
      have e : sw (R k) = 0 := by rw [h]; rfl
      simp only [e, show ¬ (0 : Nat) = 1 by omega, show ¬ (0 : Nat) = 2 by omega, show ¬ (0 : Nat) = 3 by omega, show ¬ (0 : Nat) = 4 by omega, show ¬ (0 : Nat) = 5 by omega, show ¬ (0 : Nat) = 6 by omega, ↓reduceIte]
      obtain ⟨z1, z2⟩ := wF_0 (cl := cl) (nm := nm) (N := N) (G := G) (Sc := Sc) (Si := Si) (Un := Un) (np := np) h
      exact go d (fun _ _ _ => rfl) rfl (fun _ _ => ⟨rfl, rfl⟩) (by rw [z2]; exact n14) (by rw [z1]; exact n15)
    · clear dcl use
      have e : sw (R k) = 1 := by rw [h]; rfl
      simp only [e, ↓reduceIte]
      rw [firstD hK hA hW (by omega) h, Option.bind_some]
      dsimp only
      have hwB : wB cl nm N R Sc Si Un k = if rp R nm Sc k then 0 else k + 1 := by
        unfold wB
        rw [if_pos (by omega)]
      have hwF : wF cl nm N R G Sc Si Un np k = if rp R nm Sc k then 6 else 0 := by
        unfold wF
        rw [if_pos h]
      cases hrp : rp R nm Sc k with
      | true =>
        rw [hrp, if_pos rfl] at hwB hwF
        rw [if_pos rfl, if_pos rfl]
        exact gor 0 6 6 (by omega) hwB (by rw [hwF]; rfl) rfl (by omega)
      | false =>
        rw [hrp] at hwB hwF
        simp only [Bool.false_eq_true, ↓reduceIte, ne10] at hwB hwF ⊢
        exact gor (k + 1) 6 6 (by omega) hwB (by rw [hwF]; rfl) rfl (by omega)
    · clear use
      have e : sw (R k) = 2 := by rw [h]; rfl
      simp only [e, show ¬ (2 : Nat) = 1 by omega, ↓reduceIte]
      exact dcl (Or.inl h)
    · clear use
      have e : sw (R k) = 3 := by rw [h]; rfl
      simp only [e, show ¬ (3 : Nat) = 1 by omega, show ¬ (3 : Nat) = 2 by omega, ↓reduceIte]
      exact dcl (Or.inr h)
    · clear dcl
      have e : sw (R k) = 5 := by rw [h]; rfl
      simp only [e, show ¬ (5 : Nat) = 1 by omega, show ¬ (5 : Nat) = 2 by omega, show ¬ (5 : Nat) = 3 by omega, show ¬ (5 : Nat) = 4 by omega, ↓reduceIte]
      exact use (Or.inl h)
    · clear dcl
      have e : sw (R k) = 4 := by rw [h]; rfl
      simp only [e, show ¬ (4 : Nat) = 1 by omega, show ¬ (4 : Nat) = 2 by omega, show ¬ (4 : Nat) = 3 by omega, ↓reduceIte]
      exact use (Or.inr h)
    · clear dcl use
      have e : sw (R k) = 6 := by rw [h]; rfl
      simp only [e, show ¬ (6 : Nat) = 1 by omega, show ¬ (6 : Nat) = 2 by omega, show ¬ (6 : Nat) = 3 by omega, show ¬ (6 : Nat) = 4 by omega, show ¬ (6 : Nat) = 5 by omega, ↓reduceIte]
      have s5 := (hW.1.2 k (by omega)).2.2.1 (Or.inl ((a2 (by omega)).2.1))
      have hwB : wB cl nm N R Sc Si Un k = hd R nm N (nm k) := by
        unfold wB
        rw [if_neg (by omega), if_neg (by omega), if_pos h]
      have hwF : wF cl nm N R G Sc Si Un np k = if hd R nm N (nm k) = 0 then 4 else if Int32.ofNat (np (pt cl N (hd R nm N (nm k) - 1))) = Int32.ofNat (G k) then 0 else 5 := by
        unfold wF
        rw [if_neg (by omega), if_neg (by omega), if_neg (by omega), if_pos h]
      unfold f_Na_bindCall
      simp only [ik, ↓reduceIte, o_nat (show k < 2147483648 by omega), s5]
      rcases findD hK hA hW hnk with ⟨f1, f2⟩ | ⟨p', f1, f2, f3, f4, f5⟩
      · rw [f1] at hwB
        rw [f1, if_pos rfl] at hwF
        rw [f2, Option.bind_some]
        dsimp only
        rw [if_pos rfl, Option.bind_some]
        refine go _ (fun i _ y => up_ne y) rfl (fun q hq => ⟨rfl, ud_ne hq⟩) (by rw [hwB]; exact n14) ?_
        rw [hwF]; exact ud_eq
      · obtain ⟨w1, w2⟩ := hA.2.1 p' f1 f2
        have hbN := b5 (p' + 1)
        have hpp : pt cl N (bd cl N p' + 1) = p' := pt_in hK f1 (by omega) w1
        obtain ⟨y9, y10⟩ := hW.2.2.2 p' f1 f2
        have hnf := nfn_le ok p'
        rw [f4] at hwB
        rw [f4, if_neg (by omega), Nat.add_sub_cancel, hpp] at hwF
        have c19' := c19 h
        rw [f5, Option.bind_some]
        dsimp only
        rw [if_neg (show ¬ Int32.ofNat (nfn ok p') = -1 by rw [o_nm1 (by omega)]; exact id), if_pos (o_inb (by omega) (by omega)), if_pos (o_inb (by omega) (by omega)), o_nat (by omega), y9, y10, c19']
        by_cases heq : Int32.ofNat (np p') = Int32.ofNat (G k)
        · rw [if_pos heq] at hwF
          rw [if_pos heq.symm, Option.bind_some]
          refine go _ (fun i x _ => up_ne x) rfl (fun q hq => ⟨ud_ne hq, rfl⟩) (by rw [hwB]; exact ud_eq) ?_
          rw [hwF]; exact n15
        · rw [if_neg heq] at hwF
          rw [if_neg (fun h => heq h.symm), Option.bind_some]
          refine go _ (fun i x y => (up_ne y).trans (up_ne x)) rfl (fun q hq => ⟨ud_ne hq, ud_ne hq⟩) (by rw [hwB]; exact ud_eq) ?_
          rw [hwF]; exact ud_eq
