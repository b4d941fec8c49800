/-! the model reads all parts -/
def TS (sk ek : Nat → Nat) (N : Nat) : Prop := (∀ k, k < N → sk k < ek k ∧ ek k ≤ 240) ∧ ∀ k, k + 1 < N → ek k ≤ sk (k + 1)
theorem scanL_ts (T : Nat → Nat) (n : Nat) : ∀ f p, n - p ≤ f → p ≤ n → (∀ k, k < (scanL T n f p).length → p ≤ ((scanL T n f p).getD k (0, 0)).1) ∧ ∀ k, k + 1 < (scanL T n f p).length → ((scanL T n f p).getD k (0, 0)).2 ≤ ((scanL T n f p).getD (k + 1) (0, 0)).1 := by
  intro f
  induction f with
  | zero =>
    intro p h1 h2
    exact ⟨fun k hk => absurd hk (Nat.not_lt_zero _), fun k hk => absurd hk (Nat.not_lt_zero _)⟩
  | succ f ih =>
    intro p h1 h2
    unfold scanL
    by_cases hp : p < n
    · rw [if_pos hp]
      by_cases h0 : gr (T p) = 0
      · rw [if_pos h0]
        obtain ⟨g1, g2⟩ := ih (p + 1) (by omega) (by omega)
        exact ⟨fun k hk => by have := g1 k hk; omega, g2⟩
      · rw [if_neg h0]
        obtain ⟨k1, k2, k3, k4, k5⟩ := tkE_ok T n p hp
        obtain ⟨g1, g2⟩ := ih (tkE T n p) (by omega) k2
        refine ⟨fun k hk => ?_, fun k hk => ?_⟩
        · rw [List.length_cons] at hk
          cases k with
          | zero => exact Nat.le_refl _
          | succ k => have := g1 k (by omega); exact Nat.le_trans (Nat.le_of_lt k1) this
        · rw [List.length_cons] at hk
          cases k with
          | zero => exact g1 0 (by omega)
          | succ k => exact g2 k (by omega)
    · rw [if_neg hp]
      exact ⟨fun k hk => absurd hk (Nat.not_lt_zero _), fun k hk => absurd hk (Nat.not_lt_zero _)⟩
theorem TS.mono {sk ek : Nat → Nat} {N : Nat} (h : TS sk ek N) : ∀ (z k : Nat), k + z + 1 < N → ek k ≤ sk (k + z + 1)
  | 0, k, hk => h.2 k hk
  | z + 1, k, hk => by
    have h1 := TS.mono h z k (by omega)
    have h2 := (h.1 (k + z + 1) (by omega)).1
    have h3 := h.2 (k + z + 1) (by omega)
    rw [show k + (z + 1) + 1 = k + z + 1 + 1 by omega]; omega
theorem TS.lt {sk ek : Nat → Nat} {N i j : Nat} (h : TS sk ek N) (hij : i < j) (hj : j < N) : ek i ≤ sk j ∧ sk i < sk j := by
  have h1 := h.mono (j - i - 1) i (by omega)
  rw [show i + (j - i - 1) + 1 = j by omega] at h1
  have h2 := (h.1 i (by omega)).1
  exact ⟨h1, by omega⟩
theorem Brk.in {cl nm sk ek : Nat → Nat} {N : Nat} {cs : Nat → Cds} {p b : Nat} (hK : TK cl nm N) (hS : TS sk ek N) (hp : p < (ps cl N).length) (h : Brk cl nm sk ek N cs p b) : sk (bd cl N p) ≤ b ∧ b ≤ ek (bd cl N (p + 1) - 1) ∧ (0 < p → sk (bd cl N p) < b) := by
  obtain ⟨b1, b2, b3, b4, b5, b6, b7, b8⟩ := bd_ok hK
  have hlt := b3 p hp
  have hmN := b5 (p + 1)
  have hle : ∀ i, bd cl N p ≤ i → i < bd cl N (p + 1) → sk (bd cl N p) ≤ sk i ∧ sk i < ek (bd cl N (p + 1) - 1) := fun i h1 h2 => by
    refine ⟨?_, ?_⟩
    · by_cases h3 : bd cl N p = i
      · rw [h3]; exact Nat.le_refl _
      · exact Nat.le_of_lt (hS.lt (show bd cl N p < i by omega) (by omega)).2
    · have h4 := (hS.1 (bd cl N (p + 1) - 1) (by omega)).1
      by_cases h3 : i = bd cl N (p + 1) - 1
      · rw [h3]; exact h4
      · have := (hS.lt (show i < bd cl N (p + 1) - 1 by omega) (by omega)).2
        omega
  rcases h with ⟨h1, h2⟩ | ⟨h1, j, ⟨x, h2, h3, -⟩, h4⟩
  · rw [h2]
    obtain ⟨z1, z2⟩ := hle (bd cl N p) (by omega) hlt
    refine ⟨by omega, by omega, fun h0 => ?_⟩
    exact absurd (b7 p h0 hp) h1
  · by_cases hj : j < bd cl N (p + 1)
    · rw [if_pos hj] at h4
      obtain ⟨z1, z2⟩ := hle j (by omega) hj
      have := (hS.lt h2 (by omega)).2
      rw [h4]
      exact ⟨by omega, by omega, fun _ => this⟩
    · rw [if_neg hj] at h4
      obtain ⟨z1, z2⟩ := hle (bd cl N p) (by omega) hlt
      rw [h4]
      exact ⟨by omega, by omega, fun _ => z2⟩
def MF' (cl nm sk ek : Nat → Nat) (N : Nat) (cs : Nat → Cds) (q : Nat) (r : RS) : Prop := (okP cl nm N cs q = true → MGd cl nm (bd cl N q) (bd cl N (q + 1)) q (cs q) r) ∧ (okP cl nm N cs q = false → ∃ b, Brk cl nm sk ek N cs q b ∧ r.1 18 q = Int32.ofNat b ∧ ∀ k, bd cl N q ≤ k → k < bd cl N (q + 1) → r.1 9 k = 0)
theorem MF'.keep {cl nm sk ek : Nat → Nat} {N : Nat} {cs : Nat → Cds} {q : Nat} {r r' : RS} (h : MF' cl nm sk ek N cs q r) (h18 : r'.1 18 q = r.1 18 q ∧ r'.1 19 q = r.1 19 q) (ha : ∀ k, bd cl N q ≤ k → k < bd cl N (q + 1) → r'.1 9 k = r.1 9 k ∧ r'.1 12 k = r.1 12 k ∧ r'.1 13 k = r.1 13 k ∧ r'.1 14 k = r.1 14 k ∧ r'.1 15 k = r.1 15 k) : MF' cl nm sk ek N cs q r' := by
  refine ⟨fun ho => ?_, fun ho => ?_⟩
  · obtain ⟨ρ, γ, c, V, g1, g2, g3, g4, g5⟩ := h.1 ho
    refine ⟨ρ, γ, c, V, g1, h18.1.trans g2, h18.2.trans g3, fun k k1 k2 => ?_, g5⟩
    obtain ⟨a1, a2, a3, a4, a5⟩ := ha k k1 k2
    obtain ⟨y1, y2, y3, y4, y5⟩ := g4 k k1 k2
    exact ⟨a1.trans y1, fun h => a2.trans (y2 h), fun h => a3.trans (y3 h), a4.trans y4, a5.trans y5⟩
  · obtain ⟨b, b1, b2, b3⟩ := h.2 ho
    exact ⟨b, b1, h18.1.trans b2, fun k k1 k2 => (ha k k1 k2).1.trans (b3 k k1 k2)⟩
/-- Faults of broken parts. -/
def B1 (cl nm sk ek : Nat → Nat) (N : Nat) (cs : Nat → Cds) (p : Nat) (x : Nat) : Prop := ∃ q b, q < p ∧ Brk cl nm sk ek N cs q b ∧ x = 1 + 8 * b
theorem rd86 {cl nm sk ek : Nat → Nat} {N : Nat} (cs : Nat → Cds) (hK : TK cl nm N) (hS : TS sk ek N) : ∀ (z p : Nat) (r : RS) (l : List Nat) (M : Nat), (ps cl N).length - p = z → p ≤ (ps cl N).length → MTok cl nm sk N r → MEnd ek N r → r.2.1 4 = Int32.ofNat (ps cl N).length → (∀ i, i < (ps cl N).length → r.1 16 i = Int32.ofNat (bd cl N i) ∧ r.1 17 i = Int32.ofNat (bd cl N (i + 1))) → (∀ k, bd cl N p ≤ k → k < N → r.1 9 k = 0 ∧ r.1 12 k = 0 ∧ r.1 14 k = 0 ∧ r.1 15 k = 0) → (∀ q, q < p → MF' cl nm sk ek N cs q r) → FL r l → l.Pairwise (· < ·) → l.length ≤ p → (∀ x, x ∈ l ↔ B1 cl nm sk ek N cs p x) → ∃ (r' : RS) (l' : List Nat), lpN BMo_analyse_86 (M + z + 1) (Int32.ofNat p, r) = f_Mo_bind r' ∧ MTok cl nm sk N r' ∧ MEnd ek N r' ∧ (∀ q, q < (ps cl N).length → MF' cl nm sk ek N cs q r') ∧ FL r' l' ∧ l'.Pairwise (· < ·) ∧ l'.length ≤ (ps cl N).length ∧ (∀ x, x ∈ l' ↔ B1 cl nm sk ek N cs (ps cl N).length x) ∧ (∀ i, i ≠ 9 → i ≠ 12 → i ≠ 13 → i ≠ 14 → i ≠ 15 → i ≠ 18 → i ≠ 19 → i ≠ 20 → i ≠ 21 → i ≠ 22 → i ≠ 23 → r'.1 i = r.1 i) ∧ (∀ i, i ≠ 5 → i ≠ 6 → i ≠ 7 → i ≠ 8 → i ≠ 9 → i ≠ 10 → r'.2.1 i = r.2.1 i) ∧ r'.2.2 = r.2.2 := by
  intro z
  have hN := hK.1
  obtain ⟨b1, b2, b3, b4, b5, b6, b7, b8⟩ := bd_ok hK
  induction z with
  | zero =>
    intro p r l M h1 h2 hM hE h4 h16 h0 hF hL hs hll hm
    have : p = (ps cl N).length := by omega
    subst this
    rw [Nat.add_zero, lp_succ]
    unfold BMo_analyse_86
    dsimp only
    rw [h4, if_pos (by rw [i_le]; omega)]
    refine ⟨r, l, ?_, hM, hE, hF, hL, hs, hll, hm, fun _ _ _ _ _ _ _ _ _ _ _ _ => rfl, fun _ _ _ _ _ _ _ => rfl, rfl⟩
    cases f_Mo_bind r <;> rfl
  | succ z ih =>
    intro p r l M h1 h2 hM hE h4 h16 h0 hF hL hs hll hm
    have hp : p < (ps cl N).length := by omega
    have hlt := b3 p hp
    have hmN := b5 (p + 1)
    obtain ⟨r1, e1, e2, e3⟩ := partM (cs p) hK hlt hmN (by omega) hM hE (h16 p hp).1 (h16 p hp).2 h0
    have hM1 := hM.fq e2
    have hE1 := hE.fq e2
    have y16 : r1.1 16 = r.1 16 := e2.1 16 (by decide) (by decide) (by decide) (by decide) (by decide) (by decide) (by decide) (by decide) (by decide) (by decide)
    have y17 : r1.1 17 = r.1 17 := e2.1 17 (by decide) (by decide) (by decide) (by decide) (by decide) (by decide) (by decide) (by decide) (by decide) (by decide)
    have y20 : r1.1 20 = r.1 20 := e2.1 20 (by decide) (by decide) (by decide) (by decide) (by decide) (by decide) (by decide) (by decide) (by decide) (by decide)
    have y4 : r1.2.1 4 = r.2.1 4 := e2.2.1 4 (by decide) (by decide) (by decide) (by decide) (by decide)
    have y5 : r1.2.1 5 = r.2.1 5 := e2.2.1 5 (by decide) (by decide) (by decide) (by decide) (by decide)
    have hL1 : FL r1 l := ⟨y5.trans hL.1, fun i hi => by rw [y20]; exact hL.2 i hi⟩
    have hold : ∀ q, q < p → MF' cl nm sk ek N cs q r1 := fun q hq => by
      have hbq : bd cl N (q + 1) ≤ bd cl N p := by
        have := bd_le hK (p - (q + 1)) (q + 1)
        rw [show q + 1 + (p - (q + 1)) = p by omega] at this
        exact this
      exact (hF q hq).keep (e2.2.2.2.2 q (by omega)) (fun k k1 k2 => e2.2.2.2.1 k (by omega))
    have hfresh : ∀ k, bd cl N (p + 1) ≤ k → k < N → r1.1 9 k = 0 ∧ r1.1 12 k = 0 ∧ r1.1 14 k = 0 ∧ r1.1 15 k = 0 := fun k k1 k2 => by
      obtain ⟨a1, a2, a3, a4, a5⟩ := e2.2.2.2.1 k (by omega)
      rw [a1, a2, a4, a5]
      exact h0 k (by omega) k2
    rw [show M + (z + 1) + 1 = (M + z + 1) + 1 by omega, lp_succ]
    unfold BMo_analyse_86
    simp only [h4, e1, Option.bind_some, o_inb (show p < 122 by omega) (show p < 2147483648 by omega), o_nat (show p < 2147483648 by omega), ↓reduceIte, o_p1]
    rw [if_neg (by rw [o_le (by omega) (by omega)]; omega)]
    have fr : ∀ {r2 : RS}, FrQ p (bd cl N p) (bd cl N (p + 1)) r r2 → (∀ i, i ≠ 9 → i ≠ 12 → i ≠ 13 → i ≠ 14 → i ≠ 15 → i ≠ 18 → i ≠ 19 → i ≠ 20 → i ≠ 21 → i ≠ 22 → i ≠ 23 → r2.1 i = r.1 i) := fun h i a b c e g h3 h4 _ h5 h6 h7 => h.1 i a b c e g h3 h4 h5 h6 h7
    rcases e3 with ⟨h400, hg⟩ | ⟨b, hb240, hb18, hb9, hb⟩
    · obtain ⟨ρ, γ, c, V, g1, g2, g3, g4, g5⟩ := id hg
      obtain ⟨ok1, ok2⟩ := okP_of (cs := cs) h400 g1 rfl
      rw [g2, if_pos (show (-1 : Int32) < 0 by decide)]
      obtain ⟨r', l', k1, k2, k3, k4, k5, k6, k7, k8, k9, k10, k11⟩ := ih (p + 1) r1 l M (by omega) (by omega) hM1 hE1 (y4.trans h4) (by rw [y16, y17]; exact h16) hfresh (fun q hq => by
        by_cases hqp : q = p
        · subst hqp
          exact ⟨fun _ => hg, fun h => absurd (ok1.symm.trans h) (by decide)⟩
        · exact hold q (by omega)) hL1 hs (by omega) (fun x => by
        rw [hm x]
        constructor
        · rintro ⟨q, b, q1, q2, q3⟩
          exact ⟨q, b, by omega, q2, q3⟩
        · rintro ⟨q, b, q1, q2, q3⟩
          by_cases hqp : q = p
          · subst hqp
            exact absurd (ok1.symm.trans q2.no) (by decide)
          · exact ⟨q, b, by omega, q2, q3⟩)
      exact ⟨r', l', k1, k2, k3, k4, k5, k6, k7, k8, fun i a b c e f g h j m n o => (k9 i a b c e f g h j m n o).trans (e2.1 i a b c e f g h m n o), fun i a b c e f g => (k10 i a b c e f g).trans (e2.2.1 i b c e f g), k11.trans e2.2.2.1⟩
    · have hbrk : Brk cl nm sk ek N cs p b := hb
      clear hb
      have hno := hbrk.no
      obtain ⟨i1, i2, i3⟩ := hbrk.in hK hS hp
      have hnew : 1 + 8 * b ∉ l := fun hmem => by
        obtain ⟨q, b', q1, q2, q3⟩ := (hm _).mp hmem
        obtain ⟨j1, j2, j3⟩ := q2.in hK hS (by omega)
        have hbq : bd cl N (q + 1) ≤ bd cl N p := by
          have := bd_le hK (p - (q + 1)) (q + 1)
          rw [show q + 1 + (p - (q + 1)) = p by omega] at this
          exact this
        have hbq2 := b3 q (by omega)
        have := (hS.lt (show bd cl N (q + 1) - 1 < bd cl N p by omega) (by omega)).1
        have := i3 (by omega)
        omega
      have hbnd : ∀ x, x ∈ l → x < 2147483648 := fun x hx => by
        obtain ⟨q, b', q1, q2, q3⟩ := (hm _).mp hx
        obtain ⟨j1, j2, j3⟩ := q2.in hK hS (by omega)
        have := (hS.1 (bd cl N (q + 1) - 1) (by have := b3 q (by omega); have := b5 (q + 1); omega)).2
        omega
      obtain ⟨r2, l2, n1, n2, n3, n4, n5, n6, n7, n8⟩ := noteM (a := 1) (b := b) hL1 hs (by omega) hbnd (by omega) hb240 hnew
      have n1' : f_Mo_note 1 (Int32.ofNat b) r1 = some r2 := n1
      rw [hb18, if_neg (show ¬ Int32.ofNat b < 0 by rw [i_lt, onat (by omega), n0]; omega), n1', Option.bind_some]
      obtain ⟨r', l', k1, k2, k3, k4, k5, k6, k7, k8, k9, k10, k11⟩ := ih (p + 1) r2 l2 M (by omega) (by omega) (hM1.cg (n7 3 (by decide)) n8 (n6 5 (by decide)) (n6 6 (by decide)) (n6 2 (by decide))) (by unfold MEnd; rw [n6 7 (by decide)]; exact hE1) ((n7 4 (by decide)).trans (y4.trans h4)) (by rw [n6 16 (by decide), n6 17 (by decide), y16, y17]; exact h16) (by rw [n6 9 (by decide), n6 12 (by decide), n6 14 (by decide), n6 15 (by decide)]; exact hfresh) (fun q hq => by
        have hk : MF' cl nm sk ek N cs q r1 := by
          by_cases hqp : q = p
          · subst hqp
            exact ⟨fun h => absurd (h.symm.trans hno) (by decide), fun _ => ⟨b, hbrk, hb18, hb9⟩⟩
          · exact hold q (by omega)
        refine hk.keep ⟨by rw [n6 18 (by decide)], by rw [n6 19 (by decide)]⟩ (fun k _ _ => ?_)
        rw [n6 9 (by decide), n6 12 (by decide), n6 13 (by decide), n6 14 (by decide), n6 15 (by decide)]
        exact ⟨rfl, rfl, rfl, rfl, rfl⟩) n2 n3 (by omega) (fun x => by
        rw [n5 x, hm x]
        constructor
        · rintro (h | ⟨q, b', q1, q2, q3⟩)
          · exact ⟨p, b, by omega, hbrk, h⟩
          · exact ⟨q, b', by omega, q2, q3⟩
        · rintro ⟨q, b', q1, q2, q3⟩
          by_cases hqp : q = p
          · subst hqp
            have := hbrk.un q2
            subst this
            exact Or.inl q3
          · exact Or.inr ⟨q, b', by omega, q2, q3⟩)
      exact ⟨r', l', k1, k2, k3, k4, k5, k6, k7, k8, fun i a b c e f g h j m n o => (k9 i a b c e f g h j m n o).trans ((n6 i j).trans (e2.1 i a b c e f g h m n o)), fun i a b c e f g => (k10 i a b c e f g).trans ((n7 i a).trans (e2.2.1 i b c e f g)), k11.trans (n8.trans e2.2.2.1)⟩
