/-! word: the letters of a packed word, by both -/
def it : Nat → Int32 → Int32
  | 0, v => v
  | k + 1, v => it k v >>> (5 &&& 31)
def ch (A : Int64) (k : Nat) : Int32 := 96 + ((A >>> ((5 * Int32.ofNat k).toInt64 &&& 63)) &&& 31).toInt32
def WOk (v : Int32) (A : Int64) (n : Nat) : Prop := n ≤ 6 ∧ (∀ k, k < n → (¬ it k v ≤ 0) ∧ ((96 + (it k v &&& 31)).toUInt32 % 65536).toInt32 = ch A k ∧ 32 ≤ (ch A k).toInt ∧ (ch A k).toInt ≤ 126 ∧ ¬ lg_cmp (A >>> ((5 * Int32.ofNat k).toInt64 &&& 63)) 0 = 0) ∧ it n v ≤ 0 ∧ lg_cmp (A >>> ((5 * Int32.ofNat n).toInt64 &&& 63)) 0 = 0
theorem w_0 : WOk 454 454 2 := by unfold WOk; decide +kernel
theorem w_1 : WOk 20652 20652 3 := by unfold WOk; decide +kernel
theorem w_2 : WOk 201 201 2 := by unfold WOk; decide +kernel
theorem w_3 : WOk 5645591 5645591 5 := by unfold WOk; decide +kernel
theorem w_4 : WOk 21440080 21440080 5 := by unfold WOk; decide +kernel
theorem w_5 : WOk 489345202 489345202 6 := by unfold WOk; decide +kernel
theorem w_6 : WOk 468013 468013 4 := by unfold WOk; decide +kernel
theorem onat {n : Nat} (h : n < 2147483648) : (Int32.ofNat n).toInt = n := Int32.toInt_ofNat_of_lt (by omega)
theorem onat1 {n : Nat} (h : n < 2147483647) : Int32.ofNat n + 1 = Int32.ofNat (n + 1) := by
  rw [i_eq, i_add (by rw [onat (by omega), n1]; omega) (by rw [onat (by omega), n1]; omega), onat (by omega), onat (by omega), n1]
  omega
theorem lettersIn_ok {v : Int32} {A : Int64} {n : Nat} (hW : WOk v A n) : ∀ (m k N : Nat), n - k = m → k ≤ n → m < N → lpN BX_lettersIn_4 N (v, Int32.ofNat k, it k v) = some (Int32.ofNat n) := by
  obtain ⟨hn, hk, hz, -⟩ := hW
  intro m
  induction m with
  | zero =>
    intro k N h1 h2 h3
    obtain ⟨M, rfl⟩ : ∃ M, N = M + 1 := ⟨N - 1, by omega⟩
    have : k = n := by omega
    subst this
    rw [lp_succ]; unfold BX_lettersIn_4
    rw [if_pos hz]
  | succ m ih =>
    intro k N h1 h2 h3
    obtain ⟨M, rfl⟩ : ∃ M, N = M + 1 := ⟨N - 1, by omega⟩
    rw [lp_succ]; unfold BX_lettersIn_4
    rw [if_neg (hk k (by omega)).1]
    have h := ih (k + 1) M (by omega) (by omega) (by omega)
    rw [← onat1 (by omega)] at h
    exact h
theorem letters_ok {v : Int32} {A : Int64} {n : Nat} (hW : WOk v A n) : ∀ (m k N : Nat), n - k = m → k ≤ n → m < N → lpN BMo_letters_2 N (A, Int32.ofNat k) = some (Int32.ofNat n) := by
  obtain ⟨hn, hk, -, hz⟩ := hW
  intro m
  induction m with
  | zero =>
    intro k N h1 h2 h3
    obtain ⟨M, rfl⟩ : ∃ M, N = M + 1 := ⟨N - 1, by omega⟩
    have : k = n := by omega
    subst this
    have h13 : ¬ (13 : Int32) ≤ Int32.ofNat k := by
      rw [i_le, onat (by omega), show (13 : Int32).toInt = 13 from by decide]; omega
    rw [lp_succ]; unfold BMo_letters_2
    simp only [bindv]
    rw [if_neg h13, if_pos hz]
  | succ m ih =>
    intro k N h1 h2 h3
    obtain ⟨M, rfl⟩ : ∃ M, N = M + 1 := ⟨N - 1, by omega⟩
    have h13 : ¬ (13 : Int32) ≤ Int32.ofNat k := by
      rw [i_le, onat (by omega), show (13 : Int32).toInt = 13 from by decide]; omega
    rw [lp_succ]; unfold BMo_letters_2
    simp only [bindv]
    rw [if_neg h13, if_neg (hk k (by omega)).2.2.2.2, onat1 (by omega)]
    exact ih (k + 1) M (by omega) (by omega) (by omega)
theorem te_add {c : Int32} {d : DS} (h1 : 0 ≤ (d.2 3).toInt) (h2 : (d.2 3).toInt < 240) (hc : 0 ≤ c.toInt ∧ c.toInt < 65536) : f_Te_add c d = some ((va_up d.1 2 (upd (d.1 2) (d.2 3).toNatClampNeg c)), va_up d.2 3 (d.2 3 + 1)) := by
  have h4 : ¬ 240 ≤ d.2 3 := by rw [i_le, n240]; omega
  have h5 : inb (d.2 3) 240 = true := inb_of h1 h2
  unfold f_Te_add
  rw [if_neg h4, if_pos h5, nar_char hc.1 hc.2]
theorem word_loop {v : Int32} {A : Int64} {n : Nat} (hW : WOk v A n) (w : Int32) (len : Int) (hl : 0 ≤ len) (hl2 : len + n + 1 ≤ 240) : ∀ (m k : Nat) (d : DS) (r : RS) (N1 N2 : Nat), n - k = m → k ≤ n → m < N1 → m < N2 → (r.2.1 1).toInt = len → (d.2 3).toInt = len + k → (∀ i : Nat, (i : Int) < len + k → d.1 2 i = r.1 2 i ∧ 32 ≤ (d.1 2 i).toInt ∧ (d.1 2 i).toInt ≤ 126) →
    ∃ (d' : DS) (r' : RS), lpN BTe_addName_2 N1 (v, it k v, d) = some d' ∧ lpN BMo_word_62 N2 (w, A, Int32.ofNat n, Int32.ofNat k, r) = some (1, r') ∧ (d'.2 3).toInt = len + n ∧ (r'.2.1 1).toInt = len + n + 1 ∧ (∀ j, j ≠ 1 → r'.2.1 j = r.2.1 j) ∧ r'.2.2 = r.2.2 ∧ (∀ j, j ≠ 2 → r'.1 j = r.1 j) ∧ (∀ i : Nat, (i : Int) < len + n → d'.1 2 i = r'.1 2 i ∧ 32 ≤ (d'.1 2 i).toInt ∧ (d'.1 2 i).toInt ≤ 126) ∧ ∀ i : Nat, (i : Int) = len + n → r'.1 2 i = 32 := by
  have hW0 := hW
  obtain ⟨hn, hk, hz, -⟩ := hW
  intro m
  induction m with
  | zero =>
    intro k d r N1 N2 h1 h2 h3 h4 h5 h6 hT
    obtain ⟨M1, rfl⟩ : ∃ M, N1 = M + 1 := ⟨N1 - 1, by omega⟩
    obtain ⟨M2, rfl⟩ : ∃ M, N2 = M + 1 := ⟨N2 - 1, by omega⟩
    have : k = n := by omega
    subst this
    have g1 : Int32.ofNat k ≤ Int32.ofNat k := by rw [i_le]; exact Int.le_refl _
    have ek := onat (n := k) (by omega)
    have g2 : (r.2.1 1 + Int32.ofNat k).toInt = len + k := by rw [i_add (by omega) (by omega)]; omega
    have b1 : inb (r.2.1 1 + Int32.ofNat k) 240 = true := inb_of (by omega) (by omega)
    have nn := i_nat (a := r.2.1 1 + Int32.ofNat k) (by omega)
    have g3 : (Int32.ofNat k + 1).toInt = k + 1 := by rw [i_add (by rw [n1]; omega) (by rw [n1]; omega), n1]; omega
    refine ⟨d, ((va_up r.1 2 (upd (r.1 2) (r.2.1 1 + Int32.ofNat k).toNatClampNeg 32)), va_up r.2.1 1 (r.2.1 1 + (Int32.ofNat k + 1)), r.2.2), ?_, ?_, h6, ?_, fun j hj => up_ne hj, rfl, fun j hj => up_ne hj, fun i hi => ?_, fun i hi => ?_⟩
    · rw [lp_succ]; unfold BTe_addName_2; rw [if_pos hz]
    · rw [lp_succ]; unfold BMo_word_62; rw [if_pos g1, if_pos b1]
    · show (r.2.1 1 + (Int32.ofNat k + 1)).toInt = _
      rw [i_add (by omega) (by omega)]; omega
    · show d.1 2 i = upd (r.1 2) (r.2.1 1 + Int32.ofNat k).toNatClampNeg 32 i ∧ _
      have hne : ¬ i = (r.2.1 1 + Int32.ofNat k).toNatClampNeg := by omega
      simp only [upd, hne, ↓reduceIte]
      exact hT i hi
    · show upd (r.1 2) (r.2.1 1 + Int32.ofNat k).toNatClampNeg 32 i = 32
      have he : i = (r.2.1 1 + Int32.ofNat k).toNatClampNeg := by omega
      simp only [upd, he, ↓reduceIte]
  | succ m ih =>
    intro k d r N1 N2 h1 h2 h3 h4 h5 h6 hT
    obtain ⟨M1, rfl⟩ : ∃ M, N1 = M + 1 := ⟨N1 - 1, by omega⟩
    obtain ⟨M2, rfl⟩ : ∃ M, N2 = M + 1 := ⟨N2 - 1, by omega⟩
    obtain ⟨c1, c2, c3, c4, -⟩ := hk k (by omega)
    have ek := onat (n := k) (by omega)
    have en := onat (n := n) (by omega)
    have g1 : ¬ Int32.ofNat n ≤ Int32.ofNat k := by rw [i_le]; omega
    have g2 : (r.2.1 1 + Int32.ofNat k).toInt = len + k := by rw [i_add (by omega) (by omega)]; omega
    have b1 : inb (r.2.1 1 + Int32.ofNat k) 240 = true := inb_of (by omega) (by omega)
    have nn := i_nat (a := r.2.1 1 + Int32.ofNat k) (by omega)
    have nd := i_nat (a := d.2 3) (by omega)
    have s1 : (d.2 3 + 1).toInt = (d.2 3).toInt + 1 := by rw [i_add (by rw [n1]; omega) (by rw [n1]; omega), n1]
    obtain ⟨d', r', f1, f2, f3, f4, f5, f6, f7, f8, f9⟩ := ih (k + 1) ((va_up d.1 2 (upd (d.1 2) (d.2 3).toNatClampNeg (ch A k))), va_up d.2 3 (d.2 3 + 1)) ((va_up r.1 2 (upd (r.1 2) (r.2.1 1 + Int32.ofNat k).toNatClampNeg (ch A k))), r.2.1, r.2.2) M1 M2 (by omega) (by omega) (by omega) (by omega) h5 (by show (d.2 3 + 1).toInt = _; omega) (fun i hi => by
      show upd (d.1 2) (d.2 3).toNatClampNeg (ch A k) i = upd (r.1 2) (r.2.1 1 + Int32.ofNat k).toNatClampNeg (ch A k) i ∧ 32 ≤ (upd (d.1 2) (d.2 3).toNatClampNeg (ch A k) i).toInt ∧ (upd (d.1 2) (d.2 3).toNatClampNeg (ch A k) i).toInt ≤ 126
      have e9 : (r.2.1 1 + Int32.ofNat k).toNatClampNeg = (d.2 3).toNatClampNeg := by omega
      rw [e9]
      by_cases hi2 : i = (d.2 3).toNatClampNeg
      · simp only [upd, hi2, ↓reduceIte]
        exact ⟨trivial, c3, c4⟩
      · simp only [upd, hi2, ↓reduceIte]
        exact hT i (by omega))
    refine ⟨d', r', ?_, ?_, f3, f4, f5, f6, fun j hj => (f7 j hj).trans (up_ne hj), f8, f9⟩
    · rw [lp_succ]; unfold BTe_addName_2
      simp only [bindv]
      rw [if_neg c1, c2, te_add (by omega) (by omega) ⟨by omega, by omega⟩]
      exact f1
    · rw [lp_succ]; unfold BMo_word_62
      simp only [bindv]
      rw [if_neg g1, if_pos b1, onat1 (by omega)]
      exact f2
theorem word_core (An : DS → Prop) {v : Int32} {A : Int64} {n : Nat} (hW : WOk v A n) (w : Int32) {k d b : DS} {r : RS} (hR : Rel An k d b r) : ∃ (q : Int32 × DS × DS × DS) (q' : Int32 × RS),
    ((f_X_lettersIn v).bind fun q4 => if ((d.2 3 + q4) + 1) ≤ 240 then (f_Te_addName v d).bind fun q7 => (f_Te_add 32 q7).bind fun q8 => some (1, k, (q8.1, (va_up q8.2 2 0)), b) else some (0, k, d, b)) = some q ∧
    ((f_Mo_letters A).bind fun q5 => if ((r.2.1 1 + q5) + 1) ≤ 240 then lpN (BMo_word_62) 100000 (w, A, q5, 0, (r.1, (va_up r.2.1 0 0), r.2.2)) else some (0, (r.1, (va_up r.2.1 0 0), r.2.2))) = some q' ∧ q.1 = q'.1 ∧ Rel An q.2.1 q.2.2.1 q.2.2.2 q'.2 := by
  obtain ⟨⟨t1, t2, t3, t4⟩, ⟨m1, m2, m3, m4⟩, hK, hF⟩ := hR
  have hn := hW.1
  have l1 : f_X_lettersIn v = some (Int32.ofNat n) := lettersIn_ok hW n 0 100000 (by omega) (by omega) (by omega)
  have l2 : f_Mo_letters A = some (Int32.ofNat n) := letters_ok hW n 0 100000 (by omega) (by omega) (by omega)
  rw [l1, l2]
  simp only [Option.bind_some]
  have en := onat (n := n) (by omega)
  have e1 : (d.2 3 + Int32.ofNat n).toInt = (d.2 3).toInt + n := by rw [i_add (by omega) (by omega), en]
  have e2 : (d.2 3 + Int32.ofNat n + 1).toInt = (d.2 3).toInt + n + 1 := by rw [i_add (by rw [n1]; omega) (by rw [n1]; omega), n1, e1]
  rw [← t1]
  by_cases h1 : d.2 3 + Int32.ofNat n + 1 ≤ 240
  · rw [if_pos h1, if_pos h1]
    have q1 := i_le.mp h1
    rw [e2, n240] at q1
    obtain ⟨d', r', f1, f2, f3, f4, f5, f6, f7, f8, f9⟩ := word_loop hW w (d.2 3).toInt t2 (by omega) n 0 d (r.1, va_up r.2.1 0 0, r.2.2) 100000 100000 (by omega) (by omega) (by omega) (by omega) (by show (r.2.1 1).toInt = _; rw [t1]) (by omega) (fun i hi => t4 i (by omega))
    have f1' : f_Te_addName v d = some d' := f1
    have f2' : lpN BMo_word_62 100000 (w, A, Int32.ofNat n, 0, r.1, va_up r.2.1 0 0, r.2.2) = some (1, r') := f2
    rw [f1', f2']
    simp only [Option.bind_some]
    rw [te_add (c := 32) (by omega) (by omega) ⟨by rw [n32]; omega, by rw [n32]; omega⟩]
    simp only [Option.bind_some]
    have s1 : (d'.2 3 + 1).toInt = (d'.2 3).toInt + 1 := by rw [i_add (by rw [n1]; omega) (by rw [n1]; omega), n1]
    have nd := i_nat (a := d'.2 3) (by omega)
    refine ⟨_, _, rfl, rfl, rfl, ⟨?_, ?_, ?_, ?_⟩, ⟨?_, ?_, m3, ?_⟩, by rw [f6]; exact hK, Or.inl rfl⟩
    · show d'.2 3 + 1 = r'.2.1 1
      rw [i_eq]; omega
    · show 0 ≤ (d'.2 3 + 1).toInt
      omega
    · show (d'.2 3 + 1).toInt ≤ 240
      omega
    · intro i hi
      have hi : (i : Int) < (d'.2 3 + 1).toInt := hi
      show upd (d'.1 2) (d'.2 3).toNatClampNeg 32 i = r'.1 2 i ∧ 32 ≤ (upd (d'.1 2) (d'.2 3).toNatClampNeg 32 i).toInt ∧ (upd (d'.1 2) (d'.2 3).toNatClampNeg 32 i).toInt ≤ 126
      by_cases hi2 : i = (d'.2 3).toNatClampNeg
      · have h9 := f9 i (by omega)
        simp only [upd, hi2, ↓reduceIte]
        rw [hi2] at h9
        exact ⟨h9.symm, by rw [n32]; omega, by rw [n32]; omega⟩
      · simp only [upd, hi2, ↓reduceIte]
        exact f8 i (by omega)
    · show k.2 0 = r'.2.1 16
      rw [f5 16 (by decide)]; exact m1
    · show k.2 1 = r'.2.1 17
      rw [f5 17 (by decide)]; exact m2
    · intro i h5 h6
      show k.1 1 i = r'.1 36 i
      rw [f7 36 (by decide)]; exact m4 i h5 h6
  · rw [if_neg h1, if_neg h1]
    exact ⟨_, _, rfl, rfl, rfl, ⟨t1, t2, t3, t4⟩, ⟨m1, m2, m3, m4⟩, hK, hF⟩
theorem word_one (An : DS → Prop) {v : Int32} {A : Int64} {n : Nat} (hW : WOk v A n) {a : Int32} (h1 : ¬ a < 0) (h2 : ¬ 7 ≤ a) (h3 : inb a 7 = true) (h4 : a ≤ 6) (hv : tabW a.toNatClampNeg = v) {k d b : DS} {r : RS} (hm : (a = 6 ∧ A = 468013) ∨ (¬ a = 6 ∧ inb a 6 = true ∧ r.2.2 1 a.toNatClampNeg = A)) (hR : Rel An k d b r) : ∃ (q : Int32 × DS × DS × DS) (q' : Int32 × RS), f_X_word a k d b = some q ∧ f_Mo_word a r = some q' ∧ q.1 = q'.1 ∧ Rel An q.2.1 q.2.2.1 q.2.2.2 q'.2 := by
  obtain ⟨q, q', e1, e2, e3, e4⟩ := word_core An hW a hR
  refine ⟨q, q', ?_, ?_, e3, e4⟩
  · unfold f_X_word
    rw [if_neg h1, if_neg h2, if_pos h3, hv]
    simp only [h3, ↓reduceIte]
    exact e1
  · unfold f_Mo_word
    rw [if_neg h1, if_pos h4]
    rcases hm with ⟨h5, rfl⟩ | ⟨h5, h6, h7⟩
    · rw [if_pos h5]; exact e2
    · rw [if_neg h5, if_pos h6, h7]; exact e2
theorem op_word (An : DS → Prop) (a : Int32) : OpA (Rel An) (f_X_word a) (f_Mo_word a) := by
  intro k d b r hR
  by_cases h1 : a < 0
  · obtain ⟨⟨t1, t2, t3, t4⟩, ⟨m1, m2, m3, m4⟩, hK, hF⟩ := hR
    unfold f_X_word f_Mo_word
    rw [if_pos h1, if_pos h1]
    exact ⟨_, _, rfl, rfl, rfl, ⟨t1, t2, t3, t4⟩, ⟨m1, m2, m3, m4⟩, hK, hF⟩
  · by_cases h2 : 7 ≤ a
    · obtain ⟨⟨t1, t2, t3, t4⟩, ⟨m1, m2, m3, m4⟩, hK, hF⟩ := hR
      have q2 := i_le.mp h2
      rw [n7] at q2
      have h4 : ¬ a ≤ 6 := by rw [i_le, n6]; omega
      unfold f_X_word f_Mo_word
      rw [if_neg h1, if_neg h1, if_pos h2, if_neg h4]
      exact ⟨_, _, rfl, rfl, rfl, ⟨t1, t2, t3, t4⟩, ⟨m1, m2, m3, m4⟩, hK, hF⟩
    · have q1 : ¬ a.toInt < 0 := fun z => h1 (i_lt.mpr (by rw [n0]; exact z))
      have q2 : ¬ 7 ≤ a.toInt := fun z => h2 (i_le.mpr (by rw [n7]; exact z))
      have hK := hR.2.2.1
      have h7 : a = 0 ∨ a = 1 ∨ a = 2 ∨ a = 3 ∨ a = 4 ∨ a = 5 ∨ a = 6 := by
        simp only [i_eq, n0, n1, n2, n3, n4, n5, n6]; omega
      rcases h7 with rfl | rfl | rfl | rfl | rfl | rfl | rfl
      · exact word_one An w_0 h1 h2 (by decide) (by decide) (by decide) (Or.inr ⟨by decide, by decide, by rw [hK]; decide⟩) hR
      · exact word_one An w_1 h1 h2 (by decide) (by decide) (by decide) (Or.inr ⟨by decide, by decide, by rw [hK]; decide⟩) hR
      · exact word_one An w_2 h1 h2 (by decide) (by decide) (by decide) (Or.inr ⟨by decide, by decide, by rw [hK]; decide⟩) hR
      · exact word_one An w_3 h1 h2 (by decide) (by decide) (by decide) (Or.inr ⟨by decide, by decide, by rw [hK]; decide⟩) hR
      · exact word_one An w_4 h1 h2 (by decide) (by decide) (by decide) (Or.inr ⟨by decide, by decide, by rw [hK]; decide⟩) hR
      · exact word_one An w_5 h1 h2 (by decide) (by decide) (by decide) (Or.inr ⟨by decide, by decide, by rw [hK]; decide⟩) hR
      · exact word_one An w_6 h1 h2 (by decide) (by decide) (by decide) (Or.inl ⟨rfl, rfl⟩) hR
