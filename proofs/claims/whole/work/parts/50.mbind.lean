/-! the model binds its names -/
def BdA (N : Nat) (R nm Sc : Nat → Nat) (r : RS) : Prop := ∀ q, q < N → R q = 2 ∨ R q = 3 → r.1 10 q = if rp R nm Sc q then -1 else Int32.ofNat q
theorem meanM {cl nm sk : Nat → Nat} {N : Nat} {R G Sc Si Un np : Nat → Nat} {ok : Nat → Bool} {r : RS} {w k : Nat} (hK : TK cl nm N) (hW : MW cl nm sk N R G Sc Si Un np ok r) (hB : BdA N R nm Sc r) (hw : w < 1073741824) (hk : k < N) (hmono : ∀ q1 q2, q1 < q2 → q2 < N → ftB R nm Sc Si Un w k q1 = true → ftB R nm Sc Si Un w k q2 = true → Si q1 ≤ Si q2) : f_Mo_meaning (Int64.ofNat w) (Int32.ofNat k) r = some (pm (mean R nm Sc Si Un N w k), r) := by
  have hN := hK.1
  have loop : ∀ (z q : Nat) (M : Nat), N - q = z → q ≤ N → lpN BMo_meaning_6 (M + z + 1) (Int64.ofNat w, Int32.ofNat k, pm (lsB (ftB R nm Sc Si Un w k) q), Int32.ofNat q, r) = some (pm (mean R nm Sc Si Un N w k), r) := by
    intro z
    induction z with
    | zero =>
      intro q M h1 h2
      have : q = N := by omega
      subst this
      rw [Nat.add_zero, lp_succ]
      unfold BMo_meaning_6
      dsimp only
      rw [hW.1.1, if_pos (by rw [i_le]; omega)]
      rfl
    | succ z ih =>
      intro q M h1 h2
      obtain ⟨c9, c6, c200, -, c13⟩ := hW.2.1 q (by omega)
      have iq : inb (Int32.ofNat q) 240 = true := o_inb (by omega) (by omega)
      have t2 : (Int32.ofNat (R q) = 2) = (R q = 2) := o_eq (b := 2) (by omega) (by omega)
      have t3 : (Int32.ofNat (R q) = 3) = (R q = 3) := o_eq (b := 3) (by omega) (by omega)
      have hnq := hK.2.2.1 q
      have ih' := ih (q + 1) M (by omega) (by omega)
      have hls : lsB (ftB R nm Sc Si Un w k) (q + 1) = if ftB R nm Sc Si Un w k q then q + 1 else lsB (ftB R nm Sc Si Un w k) q := rfl
      rw [hls] at ih'
      have no : ftB R nm Sc Si Un w k q = false → lpN BMo_meaning_6 (M + z + 1) (Int64.ofNat w, Int32.ofNat k, pm (lsB (ftB R nm Sc Si Un w k) q), Int32.ofNat (q + 1), r) = some (pm (mean R nm Sc Si Un N w k), r) := fun h => by
        rw [h] at ih'; exact ih'
      have yes : ftB R nm Sc Si Un w k q = true → lpN BMo_meaning_6 (M + z + 1) (Int64.ofNat w, Int32.ofNat k, Int32.ofNat q, Int32.ofNat (q + 1), r) = some (pm (mean R nm Sc Si Un N w k), r) := fun h => by
        rw [h, if_pos rfl] at ih'; exact ih'
      rw [show M + (z + 1) + 1 = (M + z + 1) + 1 by omega, lp_succ]
      unfold BMo_meaning_6
      simp only [hW.1.1, iq, ↓reduceIte, o_nat (show q < 2147483648 by omega), c9, t2, t3, o_p1]
      rw [if_neg (by rw [o_le (by omega) (by omega)]; omega)]
      have go : (R q = 2 ∨ R q = 3) → (if r.1 10 q = Int32.ofNat q then bindv (lg_cmp (r.2.2 8 q) (Int64.ofNat w)) (fun v7 => if v7 = 0 then (if Int32.ofNat k < r.1 14 q then lpN BMo_meaning_6 (M + z + 1) (Int64.ofNat w, Int32.ofNat k, pm (lsB (ftB R nm Sc Si Un w k) q), Int32.ofNat (q + 1), r) else if r.1 15 q ≤ Int32.ofNat k then lpN BMo_meaning_6 (M + z + 1) (Int64.ofNat w, Int32.ofNat k, pm (lsB (ftB R nm Sc Si Un w k) q), Int32.ofNat (q + 1), r) else if pm (lsB (ftB R nm Sc Si Un w k) q) < 0 then lpN BMo_meaning_6 (M + z + 1) (Int64.ofNat w, Int32.ofNat k, Int32.ofNat q, Int32.ofNat (q + 1), r) else if inb (pm (lsB (ftB R nm Sc Si Un w k) q)) 240 = true then (if r.1 14 q < r.1 14 (pm (lsB (ftB R nm Sc Si Un w k) q)).toNatClampNeg then lpN BMo_meaning_6 (M + z + 1) (Int64.ofNat w, Int32.ofNat k, pm (lsB (ftB R nm Sc Si Un w k) q), Int32.ofNat (q + 1), r) else lpN BMo_meaning_6 (M + z + 1) (Int64.ofNat w, Int32.ofNat k, Int32.ofNat q, Int32.ofNat (q + 1), r)) else none) else lpN BMo_meaning_6 (M + z + 1) (Int64.ofNat w, Int32.ofNat k, pm (lsB (ftB R nm Sc Si Un w k) q), Int32.ofNat (q + 1), r)) else lpN BMo_meaning_6 (M + z + 1) (Int64.ofNat w, Int32.ofNat k, pm (lsB (ftB R nm Sc Si Un w k) q), Int32.ofNat (q + 1), r)) = some (pm (mean R nm Sc Si Un N w k), r) := by
        intro hq
        obtain ⟨-, -, s14, s14b, s15, s15b⟩ := c13 hq
        have b10 := hB q (by omega) hq
        have hcmp : (lg_cmp (r.2.2 8 q) (Int64.ofNat w) = 0) = (nm q = w) := by
          rw [hW.wd (show q < N by omega) (by omega)]; exact l_cmp (by omega) (by omega)
        have u14 : (Int32.ofNat k < Int32.ofNat (Si q)) = (k < Si q) := o_lt (by omega) (by omega)
        have u15 : (Int32.ofNat (Un q) ≤ Int32.ofNat k) = (Un q ≤ k) := o_le (by omega) (by omega)
        rw [s14, s15]
        simp only [bindv, hcmp, u14, u15]
        have hft : ∀ P : Prop, ¬ P → (ftB R nm Sc Si Un w k q = true → P) → ftB R nm Sc Si Un w k q = false := fun P hn h => by
          cases hb : ftB R nm Sc Si Un w k q with
          | false => rfl
          | true => exact absurd (h hb) hn
        have hd : ftB R nm Sc Si Un w k q = true → rp R nm Sc q = false ∧ nm q = w ∧ Si q ≤ k ∧ k < Un q := fun h => by
          unfold ftB at h
          rw [Bool.and_eq_true, Bool.and_eq_true] at h
          refine ⟨?_, of_decide_eq_true h.2⟩
          cases hr : rp R nm Sc q with
          | false => rfl
          | true => rw [hr] at h; exact absurd h.1.2 (by decide)
        by_cases hrp : rp R nm Sc q = true
        · rw [b10, if_pos hrp, if_neg (show ¬ (-1 : Int32) = Int32.ofNat q by intro h; have := o_nm1 (a := q) (by omega); rw [h.symm] at this; exact absurd (this.mp rfl) id)]
          exact no (hft (rp R nm Sc q = false) (by rw [hrp]; decide) (fun h => (hd h).1))
        · rw [b10, if_neg hrp, if_pos rfl]
          have hrp' : rp R nm Sc q = false := by
            cases hr : rp R nm Sc q with
            | false => rfl
            | true => exact absurd hr hrp
          by_cases hn : nm q = w
          · rw [if_pos hn]
            by_cases h14 : k < Si q
            · rw [if_pos h14]
              exact no (hft (Si q ≤ k) (by omega) (fun h => (hd h).2.2.1))
            · rw [if_neg h14]
              by_cases h15 : Un q ≤ k
              · rw [if_pos h15]
                exact no (hft (k < Un q) (by omega) (fun h => (hd h).2.2.2))
              · rw [if_neg h15]
                have hfit : ftB R nm Sc Si Un w k q = true := by
                  unfold ftB
                  rw [decide_eq_true hq, hrp', decide_eq_true (show nm q = w ∧ Si q ≤ k ∧ k < Un q from ⟨hn, by omega, by omega⟩)]; rfl
                rcases lsB_ok (P := ftB R nm Sc Si Un w k) q with ⟨g1, -⟩ | ⟨q', g1, g2, g3, g4⟩
                · rw [g1, if_pos (show pm 0 < 0 by decide)]
                  exact yes hfit
                · have hq'2 : R q' = 2 ∨ R q' = 3 := by
                    have h := g3
                    unfold ftB at h
                    rw [Bool.and_eq_true, Bool.and_eq_true] at h
                    exact of_decide_eq_true h.1.1
                  obtain ⟨-, -, v14, v14b, -⟩ := (hW.2.1 q' (by omega)).2.2.2.2 hq'2
                  have hm := hmono q' q g2 (by omega) g3 hfit
                  rw [g1, show pm (q' + 1) = Int32.ofNat q' from rfl, if_neg (show ¬ Int32.ofNat q' < 0 by rw [i_lt, onat (by omega), n0]; omega), if_pos (o_inb (by omega) (by omega)), o_nat (by omega), v14, if_neg (by rw [o_lt (by omega) (by omega)]; omega)]
                  exact yes hfit
          · rw [if_neg hn]
            exact no (hft (nm q = w) hn (fun h => (hd h).2.1))
      by_cases h2' : R q = 2
      · rw [if_pos h2']; exact go (Or.inl h2')
      · rw [if_neg h2']
        by_cases h3' : R q = 3
        · rw [if_pos h3']; exact go (Or.inr h3')
        · rw [if_neg h3']
          refine no ?_
          unfold ftB
          rw [decide_eq_false (show ¬ (R q = 2 ∨ R q = 3) by omega)]; rfl
  have := loop N 0 (99999 - N) rfl (by omega)
  rw [show 99999 - N + N + 1 = 100000 by omega] at this
  exact this
/-- What a name is bound to, and its fault. -/
def wB (cl nm : Nat → Nat) (N : Nat) (R Sc Si Un : Nat → Nat) (k : Nat) : Nat := if R k = 1 ∨ R k = 2 ∨ R k = 3 then (if rp R nm Sc k then 0 else k + 1) else if R k = 4 ∨ R k = 5 then mean R nm Sc Si Un N (nm k) k else if R k = 6 then hd R nm N (nm k) else 0
def wF (cl nm : Nat → Nat) (N : Nat) (R G Sc Si Un np : Nat → Nat) (k : Nat) : Nat := if R k = 1 then (if rp R nm Sc k then 6 else 0) else if R k = 2 ∨ R k = 3 then (if rp R nm Sc k then 2 else 0) else if R k = 4 ∨ R k = 5 then (if mean R nm Sc Si Un N (nm k) k = 0 then 3 else 0) else if R k = 6 then (if hd R nm N (nm k) = 0 then 4 else if Int32.ofNat (np (pt cl N (hd R nm N (nm k) - 1))) = Int32.ofNat (G k) then 0 else 5) else 0
theorem wF_le {cl nm : Nat → Nat} {N : Nat} {R G Sc Si Un np : Nat → Nat} (k : Nat) : wF cl nm N R G Sc Si Un np k = 0 ∨ 2 ≤ wF cl nm N R G Sc Si Un np k ∧ wF cl nm N R G Sc Si Un np k ≤ 6 := by
  unfold wF
  repeat' split
  all_goals omega
def cnt (P : Nat → Bool) : Nat → Nat
  | 0 => 0
  | n + 1 => cnt P n + (if P n then 1 else 0)
theorem cnt_mono {P : Nat → Bool} : ∀ z n, cnt P n ≤ cnt P (n + z)
  | 0, _ => Nat.le_refl _
  | z + 1, n => by
    have := cnt_mono (P := P) z n
    show cnt P n ≤ cnt P (n + z) + (if P (n + z) then 1 else 0)
    omega
theorem cnt2 {P Q : Nat → Bool} (h : ∀ k, P k = true → Q k = true → False) : ∀ n, cnt P n + cnt Q n ≤ n
  | 0 => Nat.le_refl _
  | n + 1 => by
    have := cnt2 h n
    show cnt P n + (if P n then 1 else 0) + (cnt Q n + (if Q n then 1 else 0)) ≤ n + 1
    cases hp : P n with
    | false =>
      cases hq : Q n with
      | false => simp; omega
      | true => simp; omega
    | true =>
      cases hq : Q n with
      | false => simp; omega
      | true => exact (h n hp hq).elim
