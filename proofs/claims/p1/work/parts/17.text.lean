/-! numbers -/
theorem i_add {a b : Int32} (h1 : -2147483648 ≤ a.toInt + b.toInt) (h2 : a.toInt + b.toInt < 2147483648) : (a + b).toInt = a.toInt + b.toInt := by
  rw [Int32.toInt_add, Int.bmod_def]
  split <;> omega
theorem i_sub {a b : Int32} (h1 : -2147483648 ≤ a.toInt - b.toInt) (h2 : a.toInt - b.toInt < 2147483648) : (a - b).toInt = a.toInt - b.toInt := by
  rw [Int32.toInt_sub, Int.bmod_def]
  split <;> omega
theorem i_nat {a : Int32} (h : 0 ≤ a.toInt) : ((a.toNatClampNeg : Nat) : Int) = a.toInt := by
  show ((a.toInt.toNat : Nat) : Int) = a.toInt
  omega
theorem i_lt {a b : Int32} : a < b ↔ a.toInt < b.toInt := Int32.lt_iff_toInt_lt
theorem i_le {a b : Int32} : a ≤ b ↔ a.toInt ≤ b.toInt := Int32.le_iff_toInt_le
theorem i_eq {a b : Int32} : a = b ↔ a.toInt = b.toInt := Int32.toInt_inj.symm
theorem ne10 : ¬ (1 : Int32) = 0 := by decide
theorem n0 : (0 : Int32).toInt = 0 := by decide
theorem n1 : (1 : Int32).toInt = 1 := by decide
theorem n2 : (2 : Int32).toInt = 2 := by decide
theorem n3 : (3 : Int32).toInt = 3 := by decide
theorem n4 : (4 : Int32).toInt = 4 := by decide
theorem n5 : (5 : Int32).toInt = 5 := by decide
theorem n6 : (6 : Int32).toInt = 6 := by decide
theorem n7 : (7 : Int32).toInt = 7 := by decide
theorem n32 : (32 : Int32).toInt = 32 := by decide
theorem n126 : (126 : Int32).toInt = 126 := by decide
theorem n240 : (240 : Int32).toInt = 240 := by decide
theorem nm1 : (-1 : Int32).toInt = -1 := by decide
theorem nm2 : (-2 : Int32).toInt = -2 := by decide
theorem inb_of {i : Int32} {n : Nat} (h1 : 0 ≤ i.toInt) (h2 : i.toInt < n) : inb i n = true := by
  simp only [inb, Bool.and_eq_true, decide_eq_true_eq, i_le, n0]
  have := i_nat h1
  exact ⟨h1, by omega⟩
theorem c16 {a : Int32} (h1 : 0 ≤ a.toInt) (h2 : a.toInt < 65536) : (a.toUInt32 % 65536).toInt32 = a := by
  apply Int32.toInt_inj.mp
  have e1 : a.toUInt32.toNat = a.toInt.toNat := by
    have h5 : (a.toUInt32.toNat : Int) = a.toInt % 4294967296 := by
      show (a.toBitVec.toNat : Int) = a.toBitVec.toInt % 4294967296
      rw [BitVec.toInt_eq_toNat_bmod, Int.bmod_def]
      have := a.toBitVec.isLt
      split <;> omega
    omega
  have e2 : (a.toUInt32 % 65536).toNat = a.toInt.toNat := by
    rw [UInt32.toNat_mod, e1]
    show a.toInt.toNat % 65536 = _
    omega
  show ((a.toUInt32 % 65536).toBitVec).toInt = _
  rw [BitVec.toInt_eq_toNat_bmod]
  show (((a.toUInt32 % 65536).toNat : Int)).bmod (2 ^ 32) = _
  rw [e2, Int.bmod_def]
  split <;> omega
theorem nar_char {a : Int32} (h1 : 0 ≤ a.toInt) (h2 : a.toInt < 65536) : vp_nar .char a = a := by
  show (match narrow .char (.int a) with | .int y => y | _ => a) = a
  have h4 : narrow .char (.int a) = .int (a.toUInt32 % 65536).toInt32 := rfl
  rw [h4, c16 h1 h2]
theorem isc_of {a : Int32} (h1 : 0 ≤ a.toInt) (h2 : a.toInt < 65536) : isc a = true := by
  simp only [isc, decide_eq_true_eq]
  exact (c16 h1 h2).symm
theorem lgc {x : Int64} : lg_cmp x x = 0 := by
  have h : ¬ x > x := Int64.lt_irrefl
  unfold lg_cmp
  rw [if_neg h, if_pos rfl]
/-! what desk and model have in common between calls: the text, what the last run left -/
def TR (d : DS) (r : RS) : Prop := d.2 3 = r.2.1 1 ∧ 0 ≤ (d.2 3).toInt ∧ (d.2 3).toInt ≤ 240 ∧ ∀ i : Nat, (i : Int) < (d.2 3).toInt → d.1 2 i = r.1 2 i ∧ 32 ≤ (d.1 2 i).toInt ∧ (d.1 2 i).toInt ≤ 126
def MR (k : DS) (r : RS) : Prop := k.2 0 = r.2.1 16 ∧ k.2 1 = r.2.1 17 ∧ 0 ≤ (k.2 0).toInt ∧ ∀ i : Nat, i < 32 → (i : Int) < (k.2 0).toInt → k.1 1 i = r.1 36 i
def Rel (An : DS → Prop) (k d b : DS) (r : RS) : Prop := TR d r ∧ MR k r ∧ r.2.2 1 = r0.2.2 1 ∧ (d.2 2 = 0 ∨ d.2 2 = 1 ∧ An d)
theorem up_eq {α : Type} {f : Nat → α} {k : Nat} {v : α} : va_up f k v k = v := if_pos rfl
theorem up_ne {α : Type} {f : Nat → α} {k j : Nat} {v : α} (h : j ≠ k) : va_up f k v j = f j := if_neg h
theorem op_type (An : DS → Prop) (a : Int32) : OpA (Rel An) (f_X_type a) (f_Mo_type a) := by
  intro k d b r ⟨⟨t1, t2, t3, t4⟩, ⟨m1, m2, m3, m4⟩, hK, hF⟩
  unfold f_X_type f_Mo_type f_X_isAllowed f_Mo_isChar
  by_cases h1 : a < 32
  · simp only [h1, ↓reduceIte, Option.bind_some]
    exact ⟨_, _, rfl, rfl, rfl, ⟨t1, t2, t3, t4⟩, ⟨m1, m2, m3, m4⟩, hK, hF⟩
  · by_cases h2 : 126 < a
    · simp only [h1, h2, ↓reduceIte, Option.bind_some]
      exact ⟨_, _, rfl, rfl, rfl, ⟨t1, t2, t3, t4⟩, ⟨m1, m2, m3, m4⟩, hK, hF⟩
    · have e10 : ¬ (1 : Int32) = 0 := by decide
      simp only [h1, h2, ↓reduceIte, Option.bind_some, e10]
      rw [i_lt, n32] at h1
      rw [i_lt, n126] at h2
      by_cases h3 : d.2 3 < 240
      · have h4 : ¬ 240 ≤ d.2 3 := by rw [i_lt, n240] at h3; rw [i_le, n240]; omega
        have h5 : inb (d.2 3) 240 = true := inb_of t2 (by rw [i_lt, n240] at h3; exact h3)
        have h6 : ¬ r.2.1 1 = 240 := by rw [← t1, i_eq, n240]; rw [i_lt, n240] at h3; omega
        have h7 : inb (r.2.1 1) 240 = true := by rw [← t1]; exact h5
        unfold f_Te_add
        simp only [h3, h4, h5, h6, h7, ↓reduceIte, Option.bind_some]
        have h8 : (d.2 3 + 1).toInt = (d.2 3).toInt + 1 := by
          rw [i_lt, n240] at h3
          rw [i_add (by rw [n1]; omega) (by rw [n1]; omega), n1]
        rw [i_lt, n240] at h3
        refine ⟨_, _, rfl, rfl, rfl, ⟨?_, ?_, ?_, ?_⟩, ⟨m1, m2, m3, m4⟩, hK, Or.inl rfl⟩
        · show d.2 3 + 1 = r.2.1 1 + 1
          rw [t1]
        · show 0 ≤ (d.2 3 + 1).toInt
          omega
        · show (d.2 3 + 1).toInt ≤ 240
          omega
        · intro i hi
          have hi : (i : Int) < (d.2 3 + 1).toInt := hi
          show upd (d.1 2) (d.2 3).toNatClampNeg (vp_nar .char a) i = upd (r.1 2) (r.2.1 1).toNatClampNeg a i ∧ 32 ≤ (upd (d.1 2) (d.2 3).toNatClampNeg (vp_nar .char a) i).toInt ∧ (upd (d.1 2) (d.2 3).toNatClampNeg (vp_nar .char a) i).toInt ≤ 126
          rw [nar_char (by omega) (by omega), ← t1]
          have hn := i_nat t2
          by_cases h9 : i = (d.2 3).toNatClampNeg
          · simp only [upd, h9, ↓reduceIte]
            exact ⟨trivial, by omega, by omega⟩
          · simp only [upd, h9, ↓reduceIte]
            exact t4 i (by omega)
      · have h6 : r.2.1 1 = 240 := by rw [← t1, i_eq, n240]; rw [i_lt, n240] at h3; omega
        simp only [h3, h6, ↓reduceIte]
        exact ⟨_, _, rfl, rfl, rfl, ⟨t1, t2, t3, t4⟩, ⟨m1, m2, m3, m4⟩, hK, hF⟩
theorem op_length (An : DS → Prop) : OpA (Rel An) f_X_length f_Mo_length := by
  intro k d b r ⟨⟨t1, t2, t3, t4⟩, ⟨m1, m2, m3, m4⟩, hK, hF⟩
  exact ⟨_, _, rfl, rfl, t1, ⟨t1, t2, t3, t4⟩, ⟨m1, m2, m3, m4⟩, hK, hF⟩
theorem op_letter (An : DS → Prop) (a : Int32) : OpX (Rel An) (f_La_letter a) (f_Mo_letter a) := by
  intro k d b o r ⟨⟨t1, t2, t3, t4⟩, ⟨m1, m2, m3, m4⟩, hK, hF⟩
  unfold f_La_letter f_X_letter f_Mo_letter f_Mo_thrown
  by_cases h1 : a < 0
  · simp (decide := true) only [h1, ↓reduceIte, Option.bind_some]
    exact ⟨_, _, _, rfl, rfl, rfl, rfl, fun h => absurd h ne10, ⟨t1, t2, t3, t4⟩, ⟨m1, m2, m3, m4⟩, hK, hF⟩
  · rw [i_lt, n0] at h1
    have h1' : ¬ a < 0 := by rw [i_lt, n0]; exact h1
    by_cases h2 : a < d.2 3
    · have h2' : a < r.2.1 1 := by rw [← t1]; exact h2
      have h3 := i_lt.mp h2
      have h4 : inb a 240 = true := inb_of (by omega) (by omega)
      have hn := i_nat (a := a) (by omega)
      obtain ⟨g1, g2, g3⟩ := t4 a.toNatClampNeg (by omega)
      have h5 : isc (d.1 2 a.toNatClampNeg) = true := isc_of (by omega) (by omega)
      have h6 : ((r.1 2 a.toNatClampNeg).toUInt32 % 65536).toInt32 = d.1 2 a.toNatClampNeg := by rw [← g1]; exact c16 (by omega) (by omega)
      simp (decide := true) only [h1', h2, h2', h4, h5, h6, bindv, ↓reduceIte, Option.bind_some]
      exact ⟨_, _, _, rfl, rfl, rfl, rfl, fun _ => lgc, ⟨t1, t2, t3, t4⟩, ⟨m1, m2, m3, m4⟩, hK, hF⟩
    · have h2' : ¬ a < r.2.1 1 := by rw [← t1]; exact h2
      simp (decide := true) only [h1', h2, h2', ↓reduceIte, Option.bind_some]
      exact ⟨_, _, _, rfl, rfl, rfl, rfl, fun h => absurd h ne10, ⟨t1, t2, t3, t4⟩, ⟨m1, m2, m3, m4⟩, hK, hF⟩
theorem op_output (An : DS → Prop) (a : Int32) : OpX (Rel An) (f_La_output a) (f_Mo_output a) := by
  intro k d b o r ⟨⟨t1, t2, t3, t4⟩, ⟨m1, m2, m3, m4⟩, hK, hF⟩
  unfold f_La_output f_X_output f_Mo_output f_Mo_thrown f_Mo_fails
  by_cases h1 : a = -1
  · simp (decide := true) only [h1, ↓reduceIte, Option.bind_some]
    refine ⟨_, _, _, rfl, rfl, rfl, rfl, fun _ => ?_, ⟨t1, t2, t3, t4⟩, ⟨m1, m2, m3, m4⟩, hK, hF⟩
    show lg_cmp (k.2 0).toInt64 (r.2.1 16).toInt64 = 0
    rw [m1]; exact lgc
  · by_cases h2 : a = -2
    · simp (decide := true) only [h1, h2, ↓reduceIte, Option.bind_some]
      refine ⟨_, _, _, rfl, rfl, rfl, rfl, fun _ => ?_, ⟨t1, t2, t3, t4⟩, ⟨m1, m2, m3, m4⟩, hK, hF⟩
      show lg_cmp (k.2 1).toInt64 (r.2.1 17).toInt64 = 0
      rw [m2]; exact lgc
    · by_cases h3 : a < 0
      · simp (decide := true) only [h1, h2, h3, ↓reduceIte, Option.bind_some]
        exact ⟨_, _, _, rfl, rfl, rfl, rfl, fun h => absurd h ne10, ⟨t1, t2, t3, t4⟩, ⟨m1, m2, m3, m4⟩, hK, hF⟩
      · by_cases h4 : k.2 0 ≤ a
        · have h4' : r.2.1 16 ≤ a := by rw [← m1]; exact h4
          simp (decide := true) only [h1, h2, h3, h4, h4', ↓reduceIte, Option.bind_some]
          exact ⟨_, _, _, rfl, rfl, rfl, rfl, fun h => absurd h ne10, ⟨t1, t2, t3, t4⟩, ⟨m1, m2, m3, m4⟩, hK, hF⟩
        · have h4' : ¬ r.2.1 16 ≤ a := by rw [← m1]; exact h4
          by_cases h5 : a < 32
          · have q3 : ¬ a.toInt < 0 := fun z => h3 (i_lt.mpr (by rw [n0]; exact z))
            have q5 := i_lt.mp h5
            have q4 : ¬ (k.2 0).toInt ≤ a.toInt := fun z => h4 (i_le.mpr z)
            rw [n32] at q5
            have hn := i_nat (a := a) (by omega)
            have h6 : inb a 32 = true := inb_of (by omega) (by omega)
            simp (decide := true) only [h1, h2, h3, h4, h4', h5, h6, ↓reduceIte, Option.bind_some]
            refine ⟨_, _, _, rfl, rfl, rfl, rfl, fun _ => ?_, ⟨t1, t2, t3, t4⟩, ⟨m1, m2, m3, m4⟩, hK, hF⟩
            show lg_cmp (k.1 1 a.toNatClampNeg).toInt64 (r.1 36 a.toNatClampNeg).toInt64 = 0
            rw [m4 a.toNatClampNeg (by omega) (by omega)]; exact lgc
          · simp (decide := true) only [h1, h2, h3, h4, h4', h5, ↓reduceIte, Option.bind_some]
            exact ⟨_, _, _, rfl, rfl, rfl, rfl, fun h => absurd h ne10, ⟨t1, t2, t3, t4⟩, ⟨m1, m2, m3, m4⟩, hK, hF⟩
