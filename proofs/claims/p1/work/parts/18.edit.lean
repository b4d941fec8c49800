/-! insert and remove: two loops side by side -/
theorem lp_succ {α β : Type} {B : (α → Option β) → α → Option β} {n : Nat} {x : α} : lpN B (n + 1) x = B (lpN B n) x := rfl
/-- the texts of desk and model are alike below 240, place by place -/
def LR (d : DS) (r : RS) (n : Int) : Prop := d.2 3 = r.2.1 1 ∧ (d.2 3).toInt = n ∧ ∀ i : Nat, (i : Int) < n → d.1 2 i = r.1 2 i ∧ 32 ≤ (d.1 2 i).toInt ∧ (d.1 2 i).toInt ≤ 126
/-- taking out: place p of the desk is place p - n of the model -/
theorem rm_loop (a n : Int32) (h0 : 0 ≤ a.toInt) (h1 : 0 ≤ n.toInt) : ∀ (m : Nat) (p q : Int32) (d : DS) (r : RS) (N1 N2 : Nat), d.2 3 = r.2.1 1 → (d.2 3).toInt ≤ 240 → p.toInt = q.toInt + n.toInt → a.toInt ≤ q.toInt → p.toInt ≤ (d.2 3).toInt → (d.2 3).toInt - p.toInt ≤ m → m < N1 → m < N2 →
    (∀ i : Nat, (i : Int) < (d.2 3).toInt → d.1 2 i = r.1 2 i ∧ 32 ≤ (d.1 2 i).toInt ∧ (d.1 2 i).toInt ≤ 126) →
    ∃ (d' : DS) (r' : RS), lpN BTe_takeOut_4 N1 (a, n, p, d) = some d' ∧ lpN BMo_remove_45 N2 (a, n, q, r) = some r' ∧ d'.2 = va_up d.2 3 (d.2 3 - n) ∧ r'.2.1 = va_up r.2.1 1 (r.2.1 1 - n) ∧ r'.2.2 = r.2.2 ∧ (∀ j, j ≠ 2 → r'.1 j = r.1 j) ∧ ∀ i : Nat, (i : Int) < (d.2 3).toInt → d'.1 2 i = r'.1 2 i ∧ 32 ≤ (d'.1 2 i).toInt ∧ (d'.1 2 i).toInt ≤ 126 := by
  intro m
  induction m with
  | zero =>
    intro p q d r N1 N2 e1 e2 e3 e4 e5 e6 e7 e8 hT
    obtain ⟨M1, rfl⟩ : ∃ M, N1 = M + 1 := ⟨N1 - 1, by omega⟩
    obtain ⟨M2, rfl⟩ : ∃ M, N2 = M + 1 := ⟨N2 - 1, by omega⟩
    have g1 : d.2 3 ≤ p := by rw [i_le]; omega
    have g2 : (q + n).toInt = q.toInt + n.toInt := i_add (by omega) (by omega)
    have g3 : r.2.1 1 ≤ q + n := by rw [← e1, i_le, g2]; omega
    refine ⟨(d.1, va_up d.2 3 (d.2 3 - n)), (r.1, va_up r.2.1 1 (r.2.1 1 - n), r.2.2), ?_, ?_, rfl, rfl, rfl, fun _ _ => rfl, hT⟩
    · rw [lp_succ]; unfold BTe_takeOut_4; rw [if_pos g1]
    · rw [lp_succ]; unfold BMo_remove_45; rw [if_pos g3]
  | succ m ih =>
    intro p q d r N1 N2 e1 e2 e3 e4 e5 e6 e7 e8 hT
    obtain ⟨M1, rfl⟩ : ∃ M, N1 = M + 1 := ⟨N1 - 1, by omega⟩
    obtain ⟨M2, rfl⟩ : ∃ M, N2 = M + 1 := ⟨N2 - 1, by omega⟩
    have g2 : (q + n).toInt = q.toInt + n.toInt := i_add (by omega) (by omega)
    have gq : q + n = p := by rw [i_eq, g2, e3]
    by_cases g1 : d.2 3 ≤ p
    · have g3 : r.2.1 1 ≤ q + n := by rw [← e1, gq]; exact g1
      refine ⟨(d.1, va_up d.2 3 (d.2 3 - n)), (r.1, va_up r.2.1 1 (r.2.1 1 - n), r.2.2), ?_, ?_, rfl, rfl, rfl, fun _ _ => rfl, hT⟩
      · rw [lp_succ]; unfold BTe_takeOut_4; rw [if_pos g1]
      · rw [lp_succ]; unfold BMo_remove_45; rw [if_pos g3]
    · have g3 : ¬ r.2.1 1 ≤ q + n := by rw [← e1, gq]; exact g1
      have g4 : ¬ (d.2 3).toInt ≤ p.toInt := fun z => g1 (i_le.mpr z)
      have gp : p - n = q := by rw [i_eq, i_sub (by omega) (by omega)]; omega
      have b1 : inb p 240 = true := inb_of (by omega) (by omega)
      have b2 : inb q 240 = true := inb_of (by omega) (by omega)
      have p1 : (p + 1).toInt = p.toInt + 1 := by rw [i_add (by rw [n1]; omega) (by rw [n1]; omega), n1]
      have q1 : (q + 1).toInt = q.toInt + 1 := by rw [i_add (by rw [n1]; omega) (by rw [n1]; omega), n1]
      have np := i_nat (a := p) (by omega)
      have nq := i_nat (a := q) (by omega)
      obtain ⟨c1, c2, c3⟩ := hT p.toNatClampNeg (by omega)
      obtain ⟨d', r', f1, f2, f3, f4, f5, f6, f7⟩ := ih (p + 1) (q + 1) ((va_up d.1 2 (upd (d.1 2) q.toNatClampNeg (vp_nar .char (d.1 2 p.toNatClampNeg)))), d.2) ((va_up r.1 2 (upd (r.1 2) q.toNatClampNeg (r.1 2 p.toNatClampNeg))), r.2.1, r.2.2) M1 M2 e1 e2 (by omega) (by omega) (by show (p + 1).toInt ≤ (d.2 3).toInt; omega) (by show (d.2 3).toInt - (p + 1).toInt ≤ m; omega) (by omega) (by omega) (fun i hi => by
        show upd (d.1 2) q.toNatClampNeg (vp_nar .char (d.1 2 p.toNatClampNeg)) i = upd (r.1 2) q.toNatClampNeg (r.1 2 p.toNatClampNeg) i ∧ 32 ≤ (upd (d.1 2) q.toNatClampNeg (vp_nar .char (d.1 2 p.toNatClampNeg)) i).toInt ∧ (upd (d.1 2) q.toNatClampNeg (vp_nar .char (d.1 2 p.toNatClampNeg)) i).toInt ≤ 126
        rw [nar_char (by omega) (by omega)]
        by_cases hi2 : i = q.toNatClampNeg
        · simp only [upd, hi2, ↓reduceIte]
          exact ⟨c1, c2, c3⟩
        · simp only [upd, hi2, ↓reduceIte]
          exact hT i hi)
      refine ⟨d', r', ?_, ?_, f3, f4, f5, fun j hj => (f6 j hj).trans (up_ne hj), f7⟩
      · rw [lp_succ]; unfold BTe_takeOut_4; rw [if_neg g1, if_pos b1, gp, if_pos b2]; exact f1
      · rw [lp_succ]; unfold BMo_remove_45; simp only [bindv, gq]; rw [if_neg (by rw [← e1]; exact g1), if_pos b1, if_pos b2]; exact f2
theorem l64 {a : Int32} : a.toInt64.toInt = a.toInt := Int32.toInt_toInt64 a
theorem lgle {x y : Int64} : lg_cmp x y ≤ 0 ↔ x.toInt ≤ y.toInt := by
  unfold lg_cmp
  by_cases h1 : x > y
  · rw [if_pos h1]
    have h2 : y.toInt < x.toInt := Int64.lt_iff_toInt_lt.mp h1
    constructor
    · intro h; exact absurd h (by decide)
    · intro h; omega
  · rw [if_neg h1]
    have h2 : ¬ y.toInt < x.toInt := fun z => h1 (Int64.lt_iff_toInt_lt.mpr z)
    constructor
    · intro _; omega
    · intro _
      by_cases h3 : x = y
      · rw [if_pos h3]; decide
      · rw [if_neg h3]; decide
theorem op_remove (An : DS → Prop) (a c : Int32) : OpV (Rel An) (f_La_remove a c) (f_Mo_remove a c) := by
  intro k d b r ⟨⟨t1, t2, t3, t4⟩, ⟨m1, m2, m3, m4⟩, hK, hF⟩
  unfold f_La_remove f_X_remove f_Mo_remove f_Mo_thrown
  by_cases h1 : 0 ≤ c
  · by_cases h2 : a < 0
    · simp (decide := true) only [h1, h2, ↓reduceIte, Option.bind_some]
      exact ⟨_, _, _, rfl, rfl, rfl, rfl, ⟨t1, t2, t3, t4⟩, ⟨m1, m2, m3, m4⟩, hK, hF⟩
    · have q1 : 0 ≤ c.toInt := by have := i_le.mp h1; rw [n0] at this; exact this
      have q2 : ¬ a.toInt < 0 := fun z => h2 (i_lt.mpr (by rw [n0]; exact z))
      have ca := c.toInt_lt
      have aa := a.toInt_lt
      have e1 : (d.2 3 - a).toInt = (d.2 3).toInt - a.toInt := i_sub (by omega) (by omega)
      have e2 : (a.toInt64 + c.toInt64).toInt = a.toInt + c.toInt := by
        rw [Int64.toInt_add, l64, l64, Int.bmod_def]
        split <;> omega
      by_cases h3 : c ≤ d.2 3 - a
      · have q3 := i_le.mp h3
        rw [e1] at q3
        have h4 : lg_cmp (a.toInt64 + c.toInt64) (r.2.1 1).toInt64 ≤ 0 := by rw [lgle, e2, l64, ← t1]; omega
        have e3 : (a + c).toInt = a.toInt + c.toInt := i_add (by omega) (by omega)
        obtain ⟨d', r', f1, f2, f3, f4, f5, f6, f7⟩ := rm_loop a c (by omega) q1 240 (a + c) a d (r.1, va_up r.2.1 0 0, r.2.2) 100000 100000 t1 t3 e3 (by omega) (by omega) (by omega) (by omega) (by omega) t4
        unfold f_Te_takeOut
        simp (decide := true) only [h1, h2, h3, h4, f1, f2, bindv, ↓reduceIte, Option.bind_some]
        have s1 : (d.2 3 - c).toInt = (d.2 3).toInt - c.toInt := i_sub (by omega) (by omega)
        have u1 : d'.2 3 = d.2 3 - c := by rw [f3]; rfl
        have u2 : r'.2.1 1 = r.2.1 1 - c := by rw [f4]; rfl
        refine ⟨_, _, _, rfl, rfl, rfl, by rw [f4]; rfl, ⟨?_, ?_, ?_, ?_⟩, ⟨?_, ?_, m3, ?_⟩, by rw [f5]; exact hK, Or.inl rfl⟩
        · show d'.2 3 = r'.2.1 1
          rw [u1, u2, t1]
        · show 0 ≤ (d'.2 3).toInt
          rw [u1]; omega
        · show (d'.2 3).toInt ≤ 240
          rw [u1]; omega
        · intro i hi
          have hi : (i : Int) < (d'.2 3).toInt := hi
          rw [u1] at hi
          exact f7 i (by omega)
        · show k.2 0 = r'.2.1 16
          rw [f4]; exact m1
        · show k.2 1 = r'.2.1 17
          rw [f4]; exact m2
        · intro i h5 h6
          show k.1 1 i = r'.1 36 i
          rw [f6 36 (by decide)]; exact m4 i h5 h6
      · have q3 : ¬ c.toInt ≤ (d.2 3).toInt - a.toInt := fun z => h3 (i_le.mpr (by rw [e1]; exact z))
        have h4 : ¬ lg_cmp (a.toInt64 + c.toInt64) (r.2.1 1).toInt64 ≤ 0 := by rw [lgle, e2, l64, ← t1]; omega
        simp (decide := true) only [h1, h2, h3, h4, bindv, ↓reduceIte, Option.bind_some]
        exact ⟨_, _, _, rfl, rfl, rfl, rfl, ⟨t1, t2, t3, t4⟩, ⟨m1, m2, m3, m4⟩, hK, hF⟩
  · simp (decide := true) only [h1, ↓reduceIte, Option.bind_some]
    exact ⟨_, _, _, rfl, rfl, rfl, rfl, ⟨t1, t2, t3, t4⟩, ⟨m1, m2, m3, m4⟩, hK, hF⟩
/-- putting in: the places behind are moved up, one by one -/
theorem ins_loop (a c : Int32) (h0 : 0 ≤ a.toInt) (hc : 32 ≤ c.toInt ∧ c.toInt ≤ 126) : ∀ (m : Nat) (p : Int32) (d : DS) (r : RS) (N1 N2 : Nat), d.2 3 = r.2.1 1 → (d.2 3).toInt < 240 → a.toInt ≤ p.toInt → p.toInt ≤ (d.2 3).toInt → p.toInt - a.toInt ≤ m → m < N1 → m < N2 →
    (∀ i : Nat, (i : Int) ≤ (d.2 3).toInt → (i : Int) ≠ p.toInt → d.1 2 i = r.1 2 i ∧ 32 ≤ (d.1 2 i).toInt ∧ (d.1 2 i).toInt ≤ 126) →
    ∃ (d' : DS) (r' : RS), lpN BTe_putBefore_5 N1 (a, c, p, d) = some d' ∧ lpN BMo_insert_59 N2 (a, c, p, r) = some r' ∧ d'.2 = va_up d.2 3 (d.2 3 + 1) ∧ r'.2.1 = va_up r.2.1 1 (r.2.1 1 + 1) ∧ r'.2.2 = r.2.2 ∧ (∀ j, j ≠ 2 → r'.1 j = r.1 j) ∧ ∀ i : Nat, (i : Int) ≤ (d.2 3).toInt → d'.1 2 i = r'.1 2 i ∧ 32 ≤ (d'.1 2 i).toInt ∧ (d'.1 2 i).toInt ≤ 126 := by
  intro m
  induction m with
  | zero =>
    intro p d r N1 N2 e1 e2 e3 e4 e5 e6 e7 hT
    obtain ⟨M1, rfl⟩ : ∃ M, N1 = M + 1 := ⟨N1 - 1, by omega⟩
    obtain ⟨M2, rfl⟩ : ∃ M, N2 = M + 1 := ⟨N2 - 1, by omega⟩
    have g1 : p ≤ a := by rw [i_le]; omega
    have b1 : inb a 240 = true := inb_of h0 (by omega)
    have na := i_nat h0
    refine ⟨((va_up d.1 2 (upd (d.1 2) a.toNatClampNeg (vp_nar .char c))), va_up d.2 3 (d.2 3 + 1)), ((va_up r.1 2 (upd (r.1 2) a.toNatClampNeg c)), va_up r.2.1 1 (r.2.1 1 + 1), r.2.2), ?_, ?_, rfl, rfl, rfl, fun j hj => up_ne hj, fun i hi => ?_⟩
    · rw [lp_succ]; unfold BTe_putBefore_5; rw [if_pos g1, if_pos b1]
    · rw [lp_succ]; unfold BMo_insert_59; rw [if_pos g1, if_pos b1]
    · show upd (d.1 2) a.toNatClampNeg (vp_nar .char c) i = upd (r.1 2) a.toNatClampNeg c i ∧ 32 ≤ (upd (d.1 2) a.toNatClampNeg (vp_nar .char c) i).toInt ∧ (upd (d.1 2) a.toNatClampNeg (vp_nar .char c) i).toInt ≤ 126
      rw [nar_char (by omega) (by omega)]
      by_cases hi2 : i = a.toNatClampNeg
      · simp only [upd, hi2, ↓reduceIte]
        exact ⟨trivial, hc.1, hc.2⟩
      · simp only [upd, hi2, ↓reduceIte]
        exact hT i hi (by omega)
  | succ m ih =>
    intro p d r N1 N2 e1 e2 e3 e4 e5 e6 e7 hT
    by_cases g1 : p ≤ a
    · have g2 := i_le.mp g1
      obtain ⟨M1, rfl⟩ : ∃ M, N1 = M + 1 := ⟨N1 - 1, by omega⟩
      obtain ⟨M2, rfl⟩ : ∃ M, N2 = M + 1 := ⟨N2 - 1, by omega⟩
      have b1 : inb a 240 = true := inb_of h0 (by omega)
      have na := i_nat h0
      refine ⟨((va_up d.1 2 (upd (d.1 2) a.toNatClampNeg (vp_nar .char c))), va_up d.2 3 (d.2 3 + 1)), ((va_up r.1 2 (upd (r.1 2) a.toNatClampNeg c)), va_up r.2.1 1 (r.2.1 1 + 1), r.2.2), ?_, ?_, rfl, rfl, rfl, fun j hj => up_ne hj, fun i hi => ?_⟩
      · rw [lp_succ]; unfold BTe_putBefore_5; rw [if_pos g1, if_pos b1]
      · rw [lp_succ]; unfold BMo_insert_59; rw [if_pos g1, if_pos b1]
      · show upd (d.1 2) a.toNatClampNeg (vp_nar .char c) i = upd (r.1 2) a.toNatClampNeg c i ∧ 32 ≤ (upd (d.1 2) a.toNatClampNeg (vp_nar .char c) i).toInt ∧ (upd (d.1 2) a.toNatClampNeg (vp_nar .char c) i).toInt ≤ 126
        rw [nar_char (by omega) (by omega)]
        by_cases hi2 : i = a.toNatClampNeg
        · simp only [upd, hi2, ↓reduceIte]
          exact ⟨trivial, hc.1, hc.2⟩
        · simp only [upd, hi2, ↓reduceIte]
          exact hT i hi (by omega)
    · have g2 : ¬ p.toInt ≤ a.toInt := fun z => g1 (i_le.mpr z)
      obtain ⟨M1, rfl⟩ : ∃ M, N1 = M + 1 := ⟨N1 - 1, by omega⟩
      obtain ⟨M2, rfl⟩ : ∃ M, N2 = M + 1 := ⟨N2 - 1, by omega⟩
      have p1 : (p - 1).toInt = p.toInt - 1 := by rw [i_sub (by rw [n1]; omega) (by rw [n1]; omega), n1]
      have b1 : inb (p - 1) 240 = true := inb_of (by omega) (by omega)
      have b2 : inb p 240 = true := inb_of (by omega) (by omega)
      have np := i_nat (a := p) (by omega)
      have nq := i_nat (a := p - 1) (by omega)
      obtain ⟨c1, c2, c3⟩ := hT (p - 1).toNatClampNeg (by omega) (by omega)
      obtain ⟨d', r', f1, f2, f3, f4, f5, f6, f7⟩ := ih (p - 1) ((va_up d.1 2 (upd (d.1 2) p.toNatClampNeg (vp_nar .char (d.1 2 (p - 1).toNatClampNeg)))), d.2) ((va_up r.1 2 (upd (r.1 2) p.toNatClampNeg (r.1 2 (p - 1).toNatClampNeg))), r.2.1, r.2.2) M1 M2 e1 e2 (by omega) (by show (p - 1).toInt ≤ (d.2 3).toInt; omega) (by omega) (by omega) (by omega) (fun i hi hne => by
        show upd (d.1 2) p.toNatClampNeg (vp_nar .char (d.1 2 (p - 1).toNatClampNeg)) i = upd (r.1 2) p.toNatClampNeg (r.1 2 (p - 1).toNatClampNeg) i ∧ 32 ≤ (upd (d.1 2) p.toNatClampNeg (vp_nar .char (d.1 2 (p - 1).toNatClampNeg)) i).toInt ∧ (upd (d.1 2) p.toNatClampNeg (vp_nar .char (d.1 2 (p - 1).toNatClampNeg)) i).toInt ≤ 126
        rw [nar_char (by omega) (by omega)]
        by_cases hi2 : i = p.toNatClampNeg
        · simp only [upd, hi2, ↓reduceIte]
          exact ⟨c1, c2, c3⟩
        · simp only [upd, hi2, ↓reduceIte]
          exact hT i hi (by omega))
      refine ⟨d', r', ?_, ?_, f3, f4, f5, fun j hj => (f6 j hj).trans (up_ne hj), f7⟩
      · rw [lp_succ]; unfold BTe_putBefore_5; rw [if_neg g1, if_pos b1, if_pos b2]; exact f1
      · rw [lp_succ]; unfold BMo_insert_59; rw [if_neg g1, if_pos b1, if_pos b2]; exact f2
theorem op_insert (An : DS → Prop) (a c : Int32) : OpV (Rel An) (f_La_insert a c) (f_Mo_insert a c) := by
  intro k d b r ⟨⟨t1, t2, t3, t4⟩, ⟨m1, m2, m3, m4⟩, hK, hF⟩
  unfold f_La_insert f_X_insert f_Mo_insert f_Mo_thrown f_X_isAllowed f_Mo_isChar
  by_cases h1 : c < 32
  · simp (decide := true) only [h1, ↓reduceIte, Option.bind_some]
    exact ⟨_, _, _, rfl, rfl, rfl, rfl, ⟨t1, t2, t3, t4⟩, ⟨m1, m2, m3, m4⟩, hK, hF⟩
  · by_cases h2 : 126 < c
    · simp (decide := true) only [h1, h2, ↓reduceIte, Option.bind_some]
      exact ⟨_, _, _, rfl, rfl, rfl, rfl, ⟨t1, t2, t3, t4⟩, ⟨m1, m2, m3, m4⟩, hK, hF⟩
    · by_cases h3 : a < 0
      · simp (decide := true) only [h1, h2, h3, ↓reduceIte, Option.bind_some]
        exact ⟨_, _, _, rfl, rfl, rfl, rfl, ⟨t1, t2, t3, t4⟩, ⟨m1, m2, m3, m4⟩, hK, hF⟩
      · by_cases h4 : a ≤ d.2 3
        · have h4' : a ≤ r.2.1 1 := by rw [← t1]; exact h4
          by_cases h5 : d.2 3 < 240
          · have q1 : ¬ c.toInt < 32 := fun z => h1 (i_lt.mpr (by rw [n32]; exact z))
            have q2 : ¬ 126 < c.toInt := fun z => h2 (i_lt.mpr (by rw [n126]; exact z))
            have q3 : ¬ a.toInt < 0 := fun z => h3 (i_lt.mpr (by rw [n0]; exact z))
            have q4 := i_le.mp h4
            have q5 := i_lt.mp h5
            rw [n240] at q5
            have h6 : ¬ r.2.1 1 = 240 := by rw [← t1, i_eq, n240]; omega
            obtain ⟨d', r', f1, f2, f3, f4, f5, f6, f7⟩ := ins_loop a c (by omega) ⟨by omega, by omega⟩ 240 (d.2 3) d (r.1, va_up r.2.1 0 0, r.2.2) 100000 100000 t1 q5 q4 (Int.le_refl _) (by omega) (by omega) (by omega) (fun i hi hne => t4 i (by omega))
            have f2' : lpN BMo_insert_59 100000 (a, c, r.2.1 1, r.1, va_up r.2.1 0 0, r.2.2) = some r' := by rw [← t1]; exact f2
            unfold f_Te_putBefore
            simp (decide := true) only [h1, h2, h3, h4, h4', h5, h6, f1, f2', ↓reduceIte, Option.bind_some]
            have s1 : (d.2 3 + 1).toInt = (d.2 3).toInt + 1 := by rw [i_add (by rw [n1]; omega) (by rw [n1]; omega), n1]
            have u1 : d'.2 3 = d.2 3 + 1 := by rw [f3]; rfl
            have u2 : r'.2.1 1 = r.2.1 1 + 1 := by rw [f4]; rfl
            refine ⟨_, _, _, rfl, rfl, rfl, by rw [f4]; rfl, ⟨?_, ?_, ?_, ?_⟩, ⟨?_, ?_, m3, ?_⟩, by rw [f5]; exact hK, Or.inl rfl⟩
            · show d'.2 3 = r'.2.1 1
              rw [u1, u2, t1]
            · show 0 ≤ (d'.2 3).toInt
              rw [u1]; omega
            · show (d'.2 3).toInt ≤ 240
              rw [u1]; omega
            · intro i hi
              have hi : (i : Int) < (d'.2 3).toInt := hi
              rw [u1] at hi
              exact f7 i (by omega)
            · show k.2 0 = r'.2.1 16
              rw [f4]; exact m1
            · show k.2 1 = r'.2.1 17
              rw [f4]; exact m2
            · intro i h5 h6
              show k.1 1 i = r'.1 36 i
              rw [f6 36 (by decide)]; exact m4 i h5 h6
          · have h6 : r.2.1 1 = 240 := by
              have q5 : ¬ (d.2 3).toInt < 240 := fun z => h5 (i_lt.mpr (by rw [n240]; exact z))
              rw [← t1, i_eq, n240]; omega
            have h7 : a ≤ (240 : Int32) := by rw [← h6]; exact h4'
            simp (decide := true) only [h1, h2, h3, h4, h5, h6, h7, ↓reduceIte, Option.bind_some]
            exact ⟨_, _, _, rfl, rfl, rfl, rfl, ⟨t1, t2, t3, t4⟩, ⟨m1, m2, m3, m4⟩, hK, hF⟩
        · have h4' : ¬ a ≤ r.2.1 1 := by rw [← t1]; exact h4
          simp (decide := true) only [h1, h2, h3, h4, h4', ↓reduceIte, Option.bind_some]
          exact ⟨_, _, _, rfl, rfl, rfl, rfl, ⟨t1, t2, t3, t4⟩, ⟨m1, m2, m3, m4⟩, hK, hF⟩
