/-! insert and remove: two loops side by side -/
theorem lp_succ {α β : Type} {B : (α → Option β) → α → Option β} {n : Nat} {x : α} : lpN B (n + 1) x = B (lpN B n) x := rfl
/-- the texts of desk and model are alike below 240, place by place -/
def LR (d : DS) (r : RS) (n : Int) : Prop := d.2 3 = r.2.1 1 ∧ (d.2 3).toInt = n ∧ ∀ i : Nat, (i : Int) < n → d.1 2 i = r.1 2 i ∧ 32 ≤ (d.1 2 i).toInt ∧ (d.1 2 i).toInt ≤ 126
/-- taking out: place p of the desk is place p - n of the model -/
theorem rm_loop (a n : Int32) (h0 : 0 ≤ a.toInt) (h1 : 0 ≤ n.toInt) : ∀ (m : Nat) (p q : Int32) (d : DS) (r : RS) (N1 N2 : Nat), d.2 3 = r.2.1 1 → (d.2 3).toInt ≤ 240 → p.toInt = q.toInt + n.toInt → a.toInt ≤ q.toInt → p.toInt ≤ (d.2 3).toInt → (d.2 3).toInt - p.toInt ≤ m → m < N1 → m < N2 →
    (∀ i : Nat, (i : Int) < (d.2 3).toInt → d.1 2 i = r.1 2 i ∧ 32 ≤ (d.1 2 i).toInt ∧ (d.1 2 i).toInt ≤ 126) →
    ∃ (d' : DS) (r' : RS), lpN BTe_takeOut_4 N1 (a, n, p, d) = some d' ∧ lpN BMo_remove_45 N2 (a, n, q, r) = some r' ∧ d'.2 = va_up d.2 3 (d.2 3 - n) ∧ r'.2.1 = va_up r.2.1 1 (r.2.1 1 - n) ∧ r'.2.2 = r.2.2 ∧ (∀ j, j ≠ 2 → r'.1 j = r.1 j) ∧ ∀ i : Nat, (i : Int) < (d.2 3).toInt → d'.1 2 i = r'.1 2 i ∧ 32 ≤ (d'.1 2 i).toInt ∧ (d'.1 2 i).toInt ≤ 126 := by
  intro m
  induction m with
  | zero =>
    intro p q d r N1 N2 e1 e2 e3 e4 e5 e6 e7 e8 hT
    obtain ⟨M1, rfl⟩ : ∃ M, N1 = M + 1 := ⟨N1 - 1, by omega⟩
    obtain ⟨M2, rfl⟩ : ∃ M, N2 = M + 1 := ⟨N2 - 1, by omega⟩
    have g1 : d.2 3 ≤ p := by rw [i_le]; omega
    have g2 : (q + n).toInt = q.toInt + n.toInt := i_add (by omega) (by omega)
    have g3 : r.2.1 1 ≤ q + n := by rw [← e1, i_le, g2]; omega
    refine ⟨(d.1, va_up d.2 3 (d.2 3 - n)), (r.1, va_up r.2.1 1 (r.2.1 1 - n), r.2.2), ?_, ?_, rfl, rfl, rfl, fun _ _ => rfl, hT⟩
    · rw [lp_succ]; unfold BTe_takeOut_4; rw [if_pos g1]
    · rw [lp_succ]; unfold BMo_remove_45; rw [if_pos g3]
  | succ m ih =>
    intro p q d r N1 N2 e1 e2 e3 e4 e5 e6 e7 e8 hT
    obtain ⟨M1, rfl⟩ : ∃ M, N1 = M + 1 := ⟨N1 - 1, by omega⟩
    obtain ⟨M2, rfl⟩ : ∃ M, N2 = M + 1 := ⟨N2 - 1, by omega⟩
    have g2 : (q + n).toInt = q.toInt + n.toInt := i_add (by omega) (by omega)
    have gq : q + n = p := by rw [i_eq, g2, e3]
    by_cases g1 : d.2 3 ≤ p
    · have g3 : r.2.1 1 ≤ q + n := by rw [← e1, gq]; exact g1
      refine ⟨(d.1, va_up d.2 3 (d.2 3 - n)), (r.1, va_up r.2.1 1 (r.2.1 1 - n), r.2.2), ?_, ?_, rfl, rfl, rfl, fun _ _ => rfl, hT⟩
      · rw [lp_succ]; unfold BTe_takeOut_4; rw [if_pos g1]
      · rw [lp_succ]; unfold BMo_remove_45; rw [if_pos g3]
    · have g3 : ¬ r.2.1 1 ≤ q + n := by rw [← e1, gq]; exact g1
      have g4 : ¬ (d.2 3).toInt ≤ p.toInt := fun z => g1 (i_le.mpr z)
      have gp : p - n = q := by rw [i_eq, i_sub (by omega) (by omega)]; omega
      have b1 : inb p 240 = true := inb_of (by omega) (by omega)
      have b2 : inb q 240 = true := inb_of (by omega) (by omega)
      have p1 : (p + 1).toInt = p.toInt + 1 := by rw [i_add (by rw [n1]; omega) (by rw [n1]; omega), n1]
      have q1 : (q + 1).toInt = q.toInt + 1 := by rw [i_add (by rw [n1]; omega) (by rw [n1]; omega), n1]
      have np := i_nat (a := p) (by omega)
      have nq := i_nat (a := q) (by omega)
      obtain ⟨c1, c2, c3⟩ := hT p.toNatClampNeg (by omega)
      obtain ⟨d', r', f1, f2, f3, f4, f5, f6, f7⟩ := ih (p + 1) (q + 1) ((va_up d.1 2 (upd (d.1 2) q.toNatClampNeg (vp_nar .char (d.1 2 p.toNatClampNeg)))), d.2) ((va_up r.1 2 (upd (r.1 2) q.toNatClampNeg (r.1 2 p.toNatClampNeg))), r.2.1, r.2.2) M1 M2 e1 e2 (by omega) (by omega) (by show (p + 1).toInt ≤ (d.2 3).toInt; omega) (by show (d.2 3).toInt - (p + 1).toInt ≤ m; omega) (by omega) (by omega) (fun i hi => by
        show upd (d.1 2) q.toNatClampNeg (vp_nar .char (d.1 2 p.toNatClampNeg)) i = upd (r.1 2) q.toNatClampNeg (r.1 2 p.toNatClampNeg) i ∧ 32 ≤ (upd (d.1 2) q.toNatClampNeg (vp_nar .char (d.1 2 p.toNatClampNeg)) i).toInt ∧ (upd (d.1 2) q.toNatClampNeg (vp_nar .char (d.1 2 p.toNatClampNeg)) i).toInt ≤ 126
        rw [nar_char (by omega) (by omega)]
        by_cases hi2 : i = q.toNatClampNeg
        · simp only [upd, hi2, ↓reduceIte]
          exact ⟨c1, c2, c3⟩
        · simp only [upd, hi2, ↓reduceIte]
          exact hT i hi)
      refine ⟨d', r', ?_, ?_, f3, f4, f5, fun j hj => (f6 j hj).trans (up_ne hj), f7⟩
      · rw [lp_succ]; unfold BTe_takeOut_4; rw [if_neg g1, if_pos b1, gp, if_pos b2]; exact f1
      · rw [lp_succ]; unfold BMo_remove_45; simp only [bindv, gq]; rw [if_neg (by rw [← e1]; exact g1), if_pos b1, if_pos b2]; exact f2
