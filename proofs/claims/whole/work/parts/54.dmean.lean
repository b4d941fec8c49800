/-! what the desk's names mean -/
theorem pt_eq {cl nm : Nat → Nat} {N p k : Nat} (hK : TK cl nm N) (hk : k < N) (h1 : bd cl N p ≤ k) (h2 : k < bd cl N (p + 1)) : pt cl N k = p := by
  by_cases hp : p < (ps cl N).length
  · exact pt_in hK hp h1 h2
  · have := (bd_ok hK).2.2.2.1 p (by omega)
    omega
def sdD (cl : Nat → Nat) (N : Nat) (R Sc : Nat → Nat) (q : Nat) : Nat := if R q = 2 then bd cl N (pt cl N q) + 2 else Sc q
theorem scD {cl nm : Nat → Nat} {N : Nat} {R G Sc Si Un np : Nat → Nat} {ok : Nat → Bool} {d : DS} {q : Nat} (hK : TK cl nm N) (hA : AW cl nm N R Sc Si Un ok) (hW : DW cl nm N R G Sc Si Un np ok d) (hq : q < N) (ho : ok (pt cl N q) = true) (hr : R q = 2 ∨ R q = 3) : d.1 16 q = Int32.ofNat (sdD cl N R Sc q) ∧ sdD cl N R Sc q < q ∧ d.1 18 (sdD cl N R Sc q) = Int32.ofNat (Un q) ∧ Un q ≤ N := by
  obtain ⟨a1, a2, a3, a4, a5, a6⟩ := hA.1 q hq
  obtain ⟨c1, c2, c3, c4⟩ := hW.2.1 q hq ho
  have hb := (bd_ok hK).2.2.2.2.1 (pt cl N q + 1)
  unfold sdD
  by_cases h2 : R q = 2
  · rw [if_pos h2]
    obtain ⟨y1, y2, y3, y4⟩ := a4 h2
    exact ⟨(c3 h2).1, by omega, (c3 h2).2.2, by omega⟩
  · rw [if_neg h2]
    obtain ⟨y1, y2, y3, y4, y5⟩ := a5 (by omega)
    exact ⟨(c4 (by omega)).1, y2, (c4 (by omega)).2.2, by omega⟩
theorem sd_eq {cl nm : Nat → Nat} {N : Nat} {R Sc Si Un : Nat → Nat} {ok : Nat → Bool} {q k : Nat} (hA : AW cl nm N R Sc Si Un ok) (hq : q < N) (hk : k < N) (hp : pt cl N q = pt cl N k) (hr : R q = 2 ∨ R q = 3) (hr2 : R k = 2 ∨ R k = 3) : sdD cl N R Sc q = sdD cl N R Sc k ↔ Sc q = Sc k := by
  obtain ⟨-, -, -, a4, a5, -⟩ := hA.1 q hq
  obtain ⟨-, -, -, b4, b5, -⟩ := hA.1 k hk
  unfold sdD
  rw [← hp] at b4 b5 ⊢
  by_cases h2 : R q = 2
  · rw [if_pos h2]
    have := a4 h2
    by_cases h2' : R k = 2
    · rw [if_pos h2']
      have := b4 h2'
      omega
    · rw [if_neg h2']
      have := b5 (by omega)
      omega
  · rw [if_neg h2]
    have := a5 (by omega)
    by_cases h2' : R k = 2
    · rw [if_pos h2']
      have := b4 h2'
      omega
    · rw [if_neg h2']
theorem befD {cl nm : Nat → Nat} {N : Nat} {R G Sc Si Un np : Nat → Nat} {ok : Nat → Bool} {d : DS} {k : Nat} (hK : TK cl nm N) (hA : AW cl nm N R Sc Si Un ok) (hW : DW cl nm N R G Sc Si Un np ok d) (hk : k < N) (hr : R k = 2 ∨ R k = 3) (hB : BdD R nm Sc (bd cl N (pt cl N k)) k d) : f_Na_isDeclaredBefore (Int32.ofNat k) (Int32.ofNat (bd cl N (pt cl N k))) d = some (if rp R nm Sc k then 1 else 0, d) := by
  have hN := hK.1
  obtain ⟨p1, p2, p3⟩ := pt_ok hK hk
  obtain ⟨a1, a2, -⟩ := hA.1 k hk
  obtain ⟨o1, o2, o3⟩ := a2 (by omega)
  have s5 := (hW.1.2 k hk).2.2.1 (Or.inl o2)
  have hnk := hK.2.2.1 k
  have ik : inb (Int32.ofNat k) 240 = true := o_inb (by omega) (by omega)
  obtain ⟨k16, k16b, -⟩ := scD hK hA hW hk o1 hr
  have hrpq : ∀ {t : Nat}, (R t = 2 ∨ R t = 3) → (rp R nm Sc t = true ↔ ∃ q, q < t ∧ (R q = 2 ∨ R q = 3) ∧ Sc q = Sc t ∧ nm q = nm t) := by
    intro t ht
    unfold rp
    rw [exB_t]
    constructor
    · rintro ⟨q, q1, q2⟩
      have := of_decide_eq_true q2
      rw [if_neg (by omega)] at this
      exact ⟨q, q1, this.1.1, this.1.2, this.2⟩
    · rintro ⟨q, q1, q2, q3, q4⟩
      refine ⟨q, q1, decide_eq_true ?_⟩
      rw [if_neg (by omega)]
      exact ⟨⟨q2, q3⟩, q4⟩
  -- the first one with this name in this scope is bound, and stands in this part
  have least : ∀ n, (∃ q, q < n ∧ q < k ∧ (R q = 2 ∨ R q = 3) ∧ Sc q = Sc k ∧ nm q = nm k) → ∃ q, q < k ∧ (R q = 2 ∨ R q = 3) ∧ Sc q = Sc k ∧ nm q = nm k ∧ rp R nm Sc q = false := by
    intro n
    induction n with
    | zero => rintro ⟨q, h, -⟩; exact absurd h (Nat.not_lt_zero _)
    | succ n ih =>
      rintro ⟨q, q0, q1, q2, q3, q4⟩
      cases hr : rp R nm Sc q with
      | false => exact ⟨q, q1, q2, q3, q4, hr⟩
      | true =>
        obtain ⟨t, t1, t2, t3, t4⟩ := (hrpq q2).mp hr
        exact ih ⟨t, by omega, by omega, t2, by omega, by omega⟩
  have inpart : ∀ q, q < k → (R q = 2 ∨ R q = 3) → Sc q = Sc k → bd cl N (pt cl N k) ≤ q := by
    intro q q1 q2 q3
    by_cases h : bd cl N (pt cl N k) ≤ q
    · exact h
    · exfalso
      obtain ⟨-, -, -, a4, a5, -⟩ := hA.1 q (by omega)
      obtain ⟨-, -, -, b4, b5, -⟩ := hA.1 k hk
      obtain ⟨y1, y2, y3⟩ := pt_ok hK (show q < N by omega)
      have h1 : Sc q < bd cl N (pt cl N k) := by
        rcases q2 with h2 | h2
        · have := a4 h2
          omega
        · have := a5 h2
          omega
      have h2 : bd cl N (pt cl N k) ≤ Sc k := by
        rcases hr with h2 | h2
        · have := b4 h2
          omega
        · have := b5 h2
          omega
      omega
  have loop : ∀ (z j : Nat) (M : Nat), k - j = z → bd cl N (pt cl N k) ≤ j → j ≤ k → (∀ q, bd cl N (pt cl N k) ≤ q → q < j → ¬ ((R q = 2 ∨ R q = 3) ∧ rp R nm Sc q = false ∧ nm q = nm k ∧ Sc q = Sc k)) → lpN BNa_isDeclaredBefore_2 (M + z + 1) (Int32.ofNat k, Int32.ofNat (bd cl N (pt cl N k)), Int32.ofNat j, d) = some (if rp R nm Sc k then 1 else 0, d) := by
    intro z
    induction z with
    | zero =>
      intro j M h1 h2 h3 h4
      have : j = k := by omega
      subst this
      rw [Nat.add_zero, lp_succ]
      unfold BNa_isDeclaredBefore_2
      dsimp only
      rw [if_pos (by rw [i_le]; omega)]
      have : rp R nm Sc j = false := by
        cases hrp : rp R nm Sc j with
        | false => rfl
        | true =>
          obtain ⟨q, q1, q2, q3, q4⟩ := (hrpq hr).mp hrp
          obtain ⟨t, t1, t2, t3, t4, t5⟩ := least j ⟨q, q1, q1, q2, q3, q4⟩
          exact absurd ⟨t2, t5, t4, t3⟩ (h4 t (inpart t t1 t2 t3) t1)
      rw [this]; rfl
    | succ z ih =>
      intro j M h1 h2 h3 h4
      have hpj : pt cl N j = pt cl N k := pt_eq hK (by omega) h2 (by omega)
      have hdc := declD (q := j) (w := nm k) hK hA hW hB h2 (by omega) (by omega) (by rw [hpj]; exact o1) hnk
      rw [show M + (z + 1) + 1 = (M + z + 1) + 1 by omega, lp_succ]
      unfold BNa_isDeclaredBefore_2
      simp only [ik, ↓reduceIte, o_nat (show k < 2147483648 by omega), s5, hdc, Option.bind_some, o_inb (show j < 240 by omega) (show j < 2147483648 by omega), o_nat (show j < 2147483648 by omega), o_p1]
      rw [if_neg (by rw [o_le (by omega) (by omega)]; omega)]
      have next : ¬ ((R j = 2 ∨ R j = 3) ∧ rp R nm Sc j = false ∧ nm j = nm k ∧ Sc j = Sc k) → lpN BNa_isDeclaredBefore_2 (M + z + 1) (Int32.ofNat k, Int32.ofNat (bd cl N (pt cl N k)), Int32.ofNat (j + 1), d) = some (if rp R nm Sc k then 1 else 0, d) := fun hn => ih (j + 1) M (by omega) (by omega) (by omega) (fun q q1 q2 => by
        by_cases hqj : q = j
        · subst hqj; exact hn
        · exact h4 q q1 (by omega))
      by_cases hd : (R j = 2 ∨ R j = 3) ∧ rp R nm Sc j = false ∧ nm j = nm k
      · simp only [if_pos hd, ne10, ↓reduceIte]
        obtain ⟨j16, j16b, -⟩ := scD hK hA hW (show j < N by omega) (by rw [hpj]; exact o1) hd.1
        have hcmp : (d.1 16 j = d.1 16 k) = (Sc j = Sc k) := by
          rw [j16, k16, o_eq (by omega) (by omega)]
          exact propext (sd_eq hA (by omega) hk hpj hd.1 hr)
        simp only [hcmp]
        by_cases hs : Sc j = Sc k
        · rw [if_pos hs]
          have : rp R nm Sc k = true := (hrpq hr).mpr ⟨j, by omega, hd.1, hs, hd.2.2⟩
          rw [this]; rfl
        · rw [if_neg hs]
          exact next (fun h => hs h.2.2.2)
      · simp only [if_neg hd, ↓reduceIte]
        exact next (fun h => hd ⟨h.1, h.2.1, h.2.2.1⟩)
  have := loop (k - bd cl N (pt cl N k)) (bd cl N (pt cl N k)) (99999 - (k - bd cl N (pt cl N k))) rfl (Nat.le_refl _) (by omega) (fun q q1 q2 => by omega)
  rw [show 99999 - (k - bd cl N (pt cl N k)) + (k - bd cl N (pt cl N k)) + 1 = 100000 by omega] at this
  exact this
theorem ft_in {cl nm : Nat → Nat} {N : Nat} {R Sc Si Un : Nat → Nat} {ok : Nat → Bool} {w k q : Nat} (hK : TK cl nm N) (hA : AW cl nm N R Sc Si Un ok) (hk : k < N) (h3 : 3 ≤ R k) (hq : q < N) (h : ftB R nm Sc Si Un w k q = true) : (R q = 2 ∨ R q = 3) ∧ rp R nm Sc q = false ∧ nm q = w ∧ Si q ≤ k ∧ k < Un q ∧ pt cl N q = pt cl N k ∧ q < k := by
  unfold ftB at h
  rw [Bool.and_eq_true, Bool.and_eq_true] at h
  have h1 := of_decide_eq_true h.1.1
  have h2 : rp R nm Sc q = false := by
    cases hr : rp R nm Sc q with
    | false => rfl
    | true => rw [hr] at h; exact absurd h.1.2 (by decide)
  obtain ⟨g1, g2, g3⟩ := of_decide_eq_true h.2
  obtain ⟨-, -, -, a4, a5, -⟩ := hA.1 q hq
  obtain ⟨y1, y2, y3⟩ := pt_ok hK hq
  have hp : pt cl N k = pt cl N q := by
    refine pt_eq hK hk ?_ ?_
    · rcases h1 with h1 | h1
      · have := a4 h1
        omega
      · have := a5 h1
        omega
    · rcases h1 with h1 | h1
      · have := a4 h1
        omega
      · have := a5 h1
        omega
  refine ⟨h1, h2, g1, g2, g3, hp.symm, ?_⟩
  rcases h1 with h1 | h1
  · exact ((hA.1 k hk).2.2.2.2.2 h3).2 q hq hp.symm h1
  · have := a5 h1
    omega
theorem meanD {cl nm : Nat → Nat} {N : Nat} {R G Sc Si Un np : Nat → Nat} {ok : Nat → Bool} {d : DS} {k w : Nat} (hK : TK cl nm N) (hA : AW cl nm N R Sc Si Un ok) (hW : DW cl nm N R G Sc Si Un np ok d) (hk : k < N) (h3 : 3 ≤ R k) (hw : w < 1073741824) (hB : BdD R nm Sc (bd cl N (pt cl N k)) k d) : f_Na_meaning (Int32.ofNat k) (Int32.ofNat w) d = some (pm (mean R nm Sc Si Un N w k), d) := by
  have hN := hK.1
  obtain ⟨p1, p2, p3⟩ := pt_ok hK hk
  obtain ⟨a1, a2, a3, a4, a5, a6⟩ := hA.1 k hk
  obtain ⟨o1, o2, o3⟩ := a2 (by omega)
  have a6' := (a6 h3).1
  obtain ⟨g1, g2⟩ := hA.2.1 _ p1 o1
  have loop : ∀ (z j : Nat) (M : Nat), j - (bd cl N (pt cl N k) + 1) = z → bd cl N (pt cl N k) + 1 ≤ j → j < k → (∀ q, j < q → q < k → ftB R nm Sc Si Un w k q = false) → lpN BNa_meaning_4 (M + z + 1) (Int32.ofNat k, Int32.ofNat w, Int32.ofNat j, d) = some (pm (mean R nm Sc Si Un N w k), d) := by
    intro z
    induction z with
    | zero =>
      intro j M h1 h2 h4 h5
      have hj : j = bd cl N (pt cl N k) + 1 := by omega
      have hpj : pt cl N j = pt cl N k := pt_eq hK (by omega) (by omega) (by omega)
      obtain ⟨c13, -⟩ := hW.2.1 j (by omega) (by rw [hpj]; exact o1)
      rw [hj, g2] at c13
      rw [Nat.add_zero, lp_succ]
      unfold BNa_meaning_4
      dsimp only
      rw [if_neg (show ¬ Int32.ofNat j < 0 by rw [i_lt, onat (by omega), n0]; omega), if_pos (o_inb (by omega) (by omega)), o_nat (by omega), hj, c13, if_pos (show Int32.ofNat (sw 1) = 1 from rfl)]
      have : mean R nm Sc Si Un N w k = 0 := lsB_no (fun q hq => by
        cases hb : ftB R nm Sc Si Un w k q with
        | false => rfl
        | true =>
          obtain ⟨f1, f2, f3, f4, f5, f6, f7⟩ := ft_in hK hA hk h3 hq hb
          by_cases hqj : j < q
          · rw [h5 q hqj f7] at hb; exact absurd hb (by decide)
          · exfalso
            obtain ⟨-, e2, -, e4, e5, -⟩ := hA.1 q hq
            have hlt := (e2 (by omega)).2.2
            rw [f6] at hlt
            have : q = j := by omega
            rw [this, hj, g2] at f1
            omega)
      rw [this]; rfl
    | succ z ih =>
      intro j M h1 h2 h4 h5
      have hpj : pt cl N j = pt cl N k := pt_eq hK (by omega) (by omega) (by omega)
      have hoj : ok (pt cl N j) = true := by rw [hpj]; exact o1
      obtain ⟨c13, -, c2, c3⟩ := hW.2.1 j (by omega) hoj
      obtain ⟨e1, e2, e3, e4, e5, -⟩ := hA.1 j (by omega)
      have hsw := sw_le e1
      have hR1 : R j ≠ 1 := fun h => by
        have := e3 h
        rw [hpj] at this
        omega
      have t1 : ¬ Int32.ofNat (sw (R j)) = 1 := fun h => hR1 (sw_1.mp ((o_eq (b := 1) (by omega) (by omega)).mp h))
      have hdc := declD (q := j) (w := w) hK hA hW hB (by omega) h4 (by omega) hoj hw
      have hng : ¬ Int32.ofNat j < 0 := by rw [i_lt, onat (by omega), n0]; omega
      have ej : Int32.ofNat j - 1 = Int32.ofNat (j - 1) := o_sub (b := 1) (by omega)
      rw [show M + (z + 1) + 1 = (M + z + 1) + 1 by omega, lp_succ]
      unfold BNa_meaning_4
      simp only [hng, ↓reduceIte, o_inb (show j < 240 by omega) (show j < 2147483648 by omega), o_nat (show j < 2147483648 by omega), c13, t1, hdc, Option.bind_some, ej]
      have next : ftB R nm Sc Si Un w k j = false → lpN BNa_meaning_4 (M + z + 1) (Int32.ofNat k, Int32.ofNat w, Int32.ofNat (j - 1), d) = some (pm (mean R nm Sc Si Un N w k), d) := fun hn => ih (j - 1) M (by omega) (by omega) (by omega) (fun q q1 q2 => by
        by_cases hqj : q = j
        · subst hqj; exact hn
        · exact h5 q (by omega) q2)
      by_cases hd : (R j = 2 ∨ R j = 3) ∧ rp R nm Sc j = false ∧ nm j = w
      · simp only [if_pos hd, ne10, ↓reduceIte]
        obtain ⟨j16, j16b, j18, j18b⟩ := scD hK hA hW (show j < N by omega) hoj hd.1
        have hno : ¬ (Si j ≤ k ∧ k < Un j) → ftB R nm Sc Si Un w k j = false := fun h => by
          cases hb : ftB R nm Sc Si Un w k j with
          | false => rfl
          | true =>
            obtain ⟨f1, f2, f3, f4, f5, f6, f7⟩ := ft_in hK hA hk h3 (by omega) hb
            exact absurd ⟨f4, f5⟩ h
        have h17 : (Int32.ofNat k < d.1 17 j) = (k < Si j) := by
          rcases hd.1 with h | h
          · rw [(c2 h).2.1, o_lt (by omega) (by omega)]
            have := e4 h
            exact propext (by omega)
          · rw [(c3 h).2.1]
            have hy := e5 h
            have hb := (bd_ok hK).2.2.2.2.1 (pt cl N j + 1)
            exact o_lt (by omega) (by omega)
        simp only [h17]
        by_cases h6 : k < Si j
        · rw [if_pos h6]
          exact next (hno (fun h => by omega))
        · rw [if_neg h6, j16, if_pos (o_inb (by omega) (by omega)), o_nat (by omega), j18]
          have hu : (Int32.ofNat (Un j) ≤ Int32.ofNat k) = (Un j ≤ k) := o_le (by omega) (by omega)
          simp only [bindv, hu]
          by_cases h7 : Un j ≤ k
          · rw [if_pos h7]
            exact next (hno (fun h => by omega))
          · rw [if_neg h7]
            have hfit : ftB R nm Sc Si Un w k j = true := by
              unfold ftB
              rw [decide_eq_true hd.1, hd.2.1, decide_eq_true (show nm j = w ∧ Si j ≤ k ∧ k < Un j from ⟨hd.2.2, by omega, by omega⟩)]; rfl
            have : mean R nm Sc Si Un N w k = j + 1 := lsB_eq (by omega) hfit (fun q q1 q2 => by
              cases hb : ftB R nm Sc Si Un w k q with
              | false => rfl
              | true =>
                obtain ⟨f1, f2, f3, f4, f5, f6, f7⟩ := ft_in hK hA hk h3 q2 hb
                rw [h5 q q1 f7] at hb; exact absurd hb (by decide))
            rw [this]; rfl
      · simp only [if_neg hd, ↓reduceIte]
        refine next ?_
        cases hb : ftB R nm Sc Si Un w k j with
        | false => rfl
        | true =>
          obtain ⟨f1, f2, f3, f4, f5, f6, f7⟩ := ft_in hK hA hk h3 (by omega) hb
          exact absurd ⟨f1, f2, f3⟩ hd
  have ek : Int32.ofNat k - 1 = Int32.ofNat (k - 1) := o_sub (b := 1) (by omega)
  have := loop (k - 1 - (bd cl N (pt cl N k) + 1)) (k - 1) (99999 - (k - 1 - (bd cl N (pt cl N k) + 1))) rfl (by omega) (by omega) (fun q q1 q2 => by omega)
  rw [show 99999 - (k - 1 - (bd cl N (pt cl N k) + 1)) + (k - 1 - (bd cl N (pt cl N k) + 1)) + 1 = 100000 by omega] at this
  unfold f_Na_meaning
  rw [ek]
  exact this
