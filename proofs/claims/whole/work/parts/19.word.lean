/-! word: the letters of a packed word, by both -/
def it : Nat → Int32 → Int32
  | 0, v => v
  | k + 1, v => it k v >>> (5 &&& 31)
def ch (A : Int64) (k : Nat) : Int32 := 96 + ((A >>> ((5 * Int32.ofNat k).toInt64 &&& 63)) &&& 31).toInt32
def WOk (v : Int32) (A : Int64) (n : Nat) : Prop := n ≤ 6 ∧ (∀ k, k < n → (¬ it k v ≤ 0) ∧ ((96 + (it k v &&& 31)).toUInt32 % 65536).toInt32 = ch A k ∧ 32 ≤ (ch A k).toInt ∧ (ch A k).toInt ≤ 126 ∧ ¬ lg_cmp (A >>> ((5 * Int32.ofNat k).toInt64 &&& 63)) 0 = 0) ∧ it n v ≤ 0 ∧ lg_cmp (A >>> ((5 * Int32.ofNat n).toInt64 &&& 63)) 0 = 0
theorem w_0 : WOk 454 454 2 := by unfold WOk; decide +kernel
theorem w_1 : WOk 20652 20652 3 := by unfold WOk; decide +kernel
theorem w_2 : WOk 201 201 2 := by unfold WOk; decide +kernel
theorem w_3 : WOk 5645591 5645591 5 := by unfold WOk; decide +kernel
theorem w_4 : WOk 21440080 21440080 5 := by unfold WOk; decide +kernel
theorem w_5 : WOk 489345202 489345202 6 := by unfold WOk; decide +kernel
theorem w_6 : WOk 468013 468013 4 := by unfold WOk; decide +kernel
theorem onat {n : Nat} (h : n < 2147483648) : (Int32.ofNat n).toInt = n := Int32.toInt_ofNat_of_lt (by omega)
theorem onat1 {n : Nat} (h : n < 2147483647) : Int32.ofNat n + 1 = Int32.ofNat (n + 1) := by
  rw [i_eq, i_add (by rw [onat (by omega), n1]; omega) (by rw [onat (by omega), n1]; omega), onat (by omega), onat (by omega), n1]
  omega
theorem lettersIn_ok {v : Int32} {A : Int64} {n : Nat} (hW : WOk v A n) : ∀ (m k N : Nat), n - k = m → k ≤ n → m < N → lpN BX_lettersIn_4 N (v, Int32.ofNat k, it k v) = some (Int32.ofNat n) := by
  obtain ⟨hn, hk, hz, -⟩ := hW
  intro m
  induction m with
  | zero =>
    intro k N h1 h2 h3
    obtain ⟨M, rfl⟩ : ∃ M, N = M + 1 := ⟨N - 1, by omega⟩
    have : k = n := by omega
    subst this
    rw [lp_succ]; unfold BX_lettersIn_4
    rw [if_pos hz]
  | succ m ih =>
    intro k N h1 h2 h3
    obtain ⟨M, rfl⟩ : ∃ M, N = M + 1 := ⟨N - 1, by omega⟩
    rw [lp_succ]; unfold BX_lettersIn_4
    rw [if_neg (hk k (by omega)).1]
    have h := ih (k + 1) M (by omega) (by omega) (by omega)
    rw [← onat1 (by omega)] at h
    exact h
theorem letters_ok {v : Int32} {A : Int64} {n : Nat} (hW : WOk v A n) : ∀ (m k N : Nat), n - k = m → k ≤ n → m < N → lpN BMo_letters_2 N (A, Int32.ofNat k) = some (Int32.ofNat n) := by
  obtain ⟨hn, hk, -, hz⟩ := hW
  intro m
  induction m with
  | zero =>
    intro k N h1 h2 h3
    obtain ⟨M, rfl⟩ : ∃ M, N = M + 1 := ⟨N - 1, by omega⟩
    have : k = n := by omega
    subst this
    have h13 : ¬ (13 : Int32) ≤ Int32.ofNat k := by
      rw [i_le, onat (by omega), show (13 : Int32).toInt = 13 from by decide]; omega
    rw [lp_succ]; unfold BMo_letters_2
    simp only [bindv]
    rw [if_neg h13, if_pos hz]
  | succ m ih =>
    intro k N h1 h2 h3
    obtain ⟨M, rfl⟩ : ∃ M, N = M + 1 := ⟨N - 1, by omega⟩
    have h13 : ¬ (13 : Int32) ≤ Int32.ofNat k := by
      rw [i_le, onat (by omega), show (13 : Int32).toInt = 13 from by decide]; omega
    rw [lp_succ]; unfold BMo_letters_2
    simp only [bindv]
    rw [if_neg h13, if_neg (hk k (by omega)).2.2.2.2, onat1 (by omega)]
    exact ih (k + 1) M (by omega) (by omega) (by omega)
theorem te_add {c : Int32} {d : DS} (h1 : 0 ≤ (d.2 3).toInt) (h2 : (d.2 3).toInt < 240) (hc : 0 ≤ c.toInt ∧ c.toInt < 65536) : f_Te_add c d = some ((va_up d.1 2 (upd (d.1 2) (d.2 3).toNatClampNeg c)), va_up d.2 3 (d.2 3 + 1)) := by
  have h4 : ¬ 240 ≤ d.2 3 := by rw [i_le, n240]; omega
  have h5 : inb (d.2 3) 240 = true := inb_of h1 h2
  unfold f_Te_add
  rw [if_neg h4, if_pos h5, nar_char hc.1 hc.2]
theorem word_loop {v : Int32} {A : Int64} {n : Nat} (hW : WOk v A n) (w : Int32) (len : Int) (hl : 0 ≤ len) (hl2 : len + n + 1 ≤ 240) : ∀ (m k : Nat) (d : DS) (r : RS) (N1 N2 : Nat), n - k = m → k ≤ n → m < N1 → m < N2 → (r.2.1 1).toInt = len → (d.2 3).toInt = len + k → (∀ i : Nat, (i : Int) < len + k → d.1 2 i = r.1 2 i ∧ 32 ≤ (d.1 2 i).toInt ∧ (d.1 2 i).toInt ≤ 126) →
    ∃ (d' : DS) (r' : RS), lpN BTe_addName_2 N1 (v, it k v, d) = some d' ∧ lpN BMo_word_62 N2 (w, A, Int32.ofNat n, Int32.ofNat k, r) = some (1, r') ∧ (d'.2 3).toInt = len + n ∧ (r'.2.1 1).toInt = len + n + 1 ∧ (∀ j, j ≠ 1 → r'.2.1 j = r.2.1 j) ∧ r'.2.2 = r.2.2 ∧ (∀ j, j ≠ 2 → r'.1 j = r.1 j) ∧ (∀ i : Nat, (i : Int) < len + n → d'.1 2 i = r'.1 2 i ∧ 32 ≤ (d'.1 2 i).toInt ∧ (d'.1 2 i).toInt ≤ 126) ∧ ∀ i : Nat, (i : Int) = len + n → r'.1 2 i = 32 := by
  have hW0 := hW
  obtain ⟨hn, hk, hz, -⟩ := hW
  intro m
  induction m with
  | zero =>
    intro k d r N1 N2 h1 h2 h3 h4 h5 h6 hT
    obtain ⟨M1, rfl⟩ : ∃ M, N1 = M + 1 := ⟨N1 - 1, by omega⟩
    obtain ⟨M2, rfl⟩ : ∃ M, N2 = M + 1 := ⟨N2 - 1, by omega⟩
    have : k = n := by omega
    subst this
    have g1 : Int32.ofNat k ≤ Int32.ofNat k := by rw [i_le]; exact Int.le_refl _
    have ek := onat (n := k) (by omega)
    have g2 : (r.2.1 1 + Int32.ofNat k).toInt = len + k := by rw [i_add (by omega) (by omega)]; omega
    have b1 : inb (r.2.1 1 + Int32.ofNat k) 240 = true := inb_of (by omega) (by omega)
    have nn := i_nat (a := r.2.1 1 + Int32.ofNat k) (by omega)
    have g3 : (Int32.ofNat k + 1).toInt = k + 1 := by rw [i_add (by rw [n1]; omega) (by rw [n1]; omega), n1]; omega
    refine ⟨d, ((va_up r.1 2 (upd (r.1 2) (r.2.1 1 + Int32.ofNat k).toNatClampNeg 32)), va_up r.2.1 1 (r.2.1 1 + (Int32.ofNat k + 1)), r.2.2), ?_, ?_, h6, ?_, fun j hj => up_ne hj, rfl, fun j hj => up_ne hj, fun i hi => ?_, fun i hi => ?_⟩
    · rw [lp_succ]; unfold BTe_addName_2; rw [if_pos hz]
    · rw [lp_succ]; unfold BMo_word_62; rw [if_pos g1, if_pos b1]
    · show (r.2.1 1 + (Int32.ofNat k + 1)).toInt = _
      rw [i_add (by omega) (by omega)]; omega
    · show d.1 2 i = upd (r.1 2) (r.2.1 1 + Int32.ofNat k).toNatClampNeg 32 i ∧ _
      have hne : ¬ i = (r.2.1 1 + Int32.ofNat k).toNatClampNeg := by omega
      simp only [upd, hne, ↓reduceIte]
      exact hT i hi
    · show upd (r.1 2) (r.2.1 1 + Int32.ofNat k).toNatClampNeg 32 i = 32
      have he : i = (r.2.1 1 + Int32.ofNat k).toNatClampNeg := by omega
      simp only [upd, he, ↓reduceIte]
  | succ m ih =>
    intro k d r N1 N2 h1 h2 h3 h4 h5 h6 hT
    obtain ⟨M1, rfl⟩ : ∃ M, N1 = M + 1 := ⟨N1 - 1, by omega⟩
    obtain ⟨M2, rfl⟩ : ∃ M, N2 = M + 1 := ⟨N2 - 1, by omega⟩
    obtain ⟨c1, c2, c3, c4, -⟩ := hk k (by omega)
    have ek := onat (n := k) (by omega)
    have en := onat (n := n) (by omega)
    have g1 : ¬ Int32.ofNat n ≤ Int32.ofNat k := by rw [i_le]; omega
    have g2 : (r.2.1 1 + Int32.ofNat k).toInt = len + k := by rw [i_add (by omega) (by omega)]; omega
    have b1 : inb (r.2.1 1 + Int32.ofNat k) 240 = true := inb_of (by omega) (by omega)
    have nn := i_nat (a := r.2.1 1 + Int32.ofNat k) (by omega)
    have nd := i_nat (a := d.2 3) (by omega)
    have s1 : (d.2 3 + 1).toInt = (d.2 3).toInt + 1 := by rw [i_add (by rw [n1]; omega) (by rw [n1]; omega), n1]
    obtain ⟨d', r', f1, f2, f3, f4, f5, f6, f7, f8, f9⟩ := ih (k + 1) ((va_up d.1 2 (upd (d.1 2) (d.2 3).toNatClampNeg (ch A k))), va_up d.2 3 (d.2 3 + 1)) ((va_up r.1 2 (upd (r.1 2) (r.2.1 1 + Int32.ofNat k).toNatClampNeg (ch A k))), r.2.1, r.2.2) M1 M2 (by omega) (by omega) (by omega) (by omega) h5 (by show (d.2 3 + 1).toInt = _; omega) (fun i hi => by
      show upd (d.1 2) (d.2 3).toNatClampNeg (ch A k) i = upd (r.1 2) (r.2.1 1 + Int32.ofNat k).toNatClampNeg (ch A k) i ∧ 32 ≤ (upd (d.1 2) (d.2 3).toNatClampNeg (ch A k) i).toInt ∧ (upd (d.1 2) (d.2 3).toNatClampNeg (ch A k) i).toInt ≤ 126
      have e9 : (r.2.1 1 + Int32.ofNat k).toNatClampNeg = (d.2 3).toNatClampNeg := by omega
      rw [e9]
      by_cases hi2 : i = (d.2 3).toNatClampNeg
      · simp only [upd, hi2, ↓reduceIte]
        exact ⟨trivial, c3, c4⟩
      · simp only [upd, hi2, ↓reduceIte]
        exact hT i (by omega))
    refine ⟨d', r', ?_, ?_, f3, f4, f5, f6, fun j hj => (f7 j hj).trans (up_ne hj), f8, f9⟩
    · rw [lp_succ]; unfold BTe_addName_2
      simp only [bindv]
      rw [if_neg c1, c2, te_add (by omega) (by omega) ⟨by omega, by omega⟩]
      exact f1
    · rw [lp_succ]; unfold BMo_word_62
      simp only [bindv]
      rw [if_neg g1, if_pos b1, onat1 (by omega)]
      exact f2
