/-! names: when a number is a name, by both -/
theorem shr64 (a s : Int64) (k : Nat) (hs : (s.toBitVec.smod 64).toNat = k) : (a >>> s).toInt = a.toInt >>> k := by
  show (a.toBitVec.sshiftRight' (s.toBitVec.smod 64)).toInt = _
  rw [BitVec.sshiftRight', hs, BitVec.toInt_sshiftRight]
  rfl
theorem and64 (a : Int64) : (a &&& 31).toInt = a.toInt % 32 := by
  have h1 : (a &&& 31).toBitVec.toNat = a.toBitVec.toNat % 32 := by
    show (a.toBitVec &&& (31 : Int64).toBitVec).toNat = _
    rw [BitVec.toNat_and, show (31 : Int64).toBitVec.toNat = 2 ^ 5 - 1 from by decide, Nat.and_two_pow_sub_one_eq_mod]
  show (a &&& 31).toBitVec.toInt = a.toBitVec.toInt % 32
  rw [BitVec.toInt_eq_toNat_bmod, h1, BitVec.toInt_eq_toNat_bmod, Int.bmod_def, Int.bmod_def]
  have := a.toBitVec.isLt
  split <;> split <;> omega
theorem and32 (a : Int32) : (a &&& 31).toInt = a.toInt % 32 := by
  have h1 : (a &&& 31).toBitVec.toNat = a.toBitVec.toNat % 32 := by
    show (a.toBitVec &&& (31 : Int32).toBitVec).toNat = _
    rw [BitVec.toNat_and, show (31 : Int32).toBitVec.toNat = 2 ^ 5 - 1 from by decide, Nat.and_two_pow_sub_one_eq_mod]
  show (a &&& 31).toBitVec.toInt = a.toBitVec.toInt % 32
  rw [BitVec.toInt_eq_toNat_bmod, h1, BitVec.toInt_eq_toNat_bmod, Int.bmod_def, Int.bmod_def]
  have := a.toBitVec.isLt
  split <;> split <;> omega
theorem shr32 (a : Int32) : (a >>> (5 &&& 31)).toInt = a.toInt / 32 := by
  rw [pk_shr a (5 &&& 31) 5 (by decide), Int.shiftRight_eq_div_pow]
  rfl
theorem s5 (k : Nat) (h : k ≤ 13) : (((5 * Int32.ofNat k).toInt64 &&& 63).toBitVec.smod 64).toNat = if k = 13 then 1 else 5 * k := by
  have : k = 0 ∨ k = 1 ∨ k = 2 ∨ k = 3 ∨ k = 4 ∨ k = 5 ∨ k = 6 ∨ k = 7 ∨ k = 8 ∨ k = 9 ∨ k = 10 ∨ k = 11 ∨ k = 12 ∨ k = 13 := by omega
  rcases this with rfl | rfl | rfl | rfl | rfl | rfl | rfl | rfl | rfl | rfl | rfl | rfl | rfl | rfl <;> decide
theorem p32 (k : Nat) : ((2 : Int) ^ (5 * k)) = 32 ^ k := by
  rw [Int.pow_mul]; rfl
theorem at5 (a : Int64) (k : Nat) (h : k < 13) : (a >>> ((5 * Int32.ofNat k).toInt64 &&& 63)).toInt = a.toInt / 32 ^ k := by
  rw [shr64 a _ (5 * k) (by rw [s5 k (by omega), if_neg (by omega)]), Int.shiftRight_eq_div_pow]
  have h2 : (((2 ^ (5 * k) : Nat)) : Int) = 32 ^ k := by
    rw [Nat.pow_mul]
    norm_cast
  rw [h2]
theorem lg0 {x : Int64} : lg_cmp x 0 = 0 ↔ x.toInt = 0 := by
  have z : (0 : Int64).toInt = 0 := by decide
  unfold lg_cmp
  by_cases h1 : x > 0
  · rw [if_pos h1]
    have h2 : (0 : Int64).toInt < x.toInt := Int64.lt_iff_toInt_lt.mp h1
    constructor
    · intro h; exact absurd h (by decide)
    · intro h; omega
  · rw [if_neg h1]
    by_cases h3 : x = 0
    · rw [if_pos h3]
      exact ⟨fun _ => by rw [h3]; exact z, fun _ => rfl⟩
    · rw [if_neg h3]
      constructor
      · intro h; exact absurd h (by decide)
      · intro h; exact absurd (Int64.toInt_inj.mp (h.trans z.symm)) h3
theorem lglt {x y : Int64} : lg_cmp x y < 0 ↔ x.toInt < y.toInt := by
  unfold lg_cmp
  by_cases h1 : x > y
  · rw [if_pos h1]
    have h2 : y.toInt < x.toInt := Int64.lt_iff_toInt_lt.mp h1
    constructor
    · intro h; exact absurd h (by decide)
    · intro h; omega
  · rw [if_neg h1]
    have h2 : ¬ y.toInt < x.toInt := fun z => h1 (Int64.lt_iff_toInt_lt.mpr z)
    by_cases h3 : x = y
    · rw [if_pos h3]
      constructor
      · intro h; exact absurd h (by decide)
      · intro h; rw [h3] at h; omega
    · rw [if_neg h3]
      constructor
      · intro _
        have h4 : x.toInt ≠ y.toInt := fun e => h3 (Int64.toInt_inj.mp e)
        omega
      · intro _; decide
theorem lett (w : Int64) : ∀ (m k N : Nat), 13 - k = m → k ≤ 13 → m < N → ∃ n : Nat, k ≤ n ∧ n ≤ 13 ∧ lpN BMo_letters_2 N (w, Int32.ofNat k) = some (Int32.ofNat n) ∧ (∀ j, k ≤ j → j < n → w.toInt / 32 ^ j ≠ 0) ∧ (n < 13 → w.toInt / 32 ^ n = 0) := by
  have e13 : (13 : Int32).toInt = 13 := by decide
  intro m
  induction m with
  | zero =>
    intro k N h1 h2 h3
    obtain ⟨M, rfl⟩ : ∃ M, N = M + 1 := ⟨N - 1, by omega⟩
    have hk : k = 13 := by omega
    subst hk
    refine ⟨13, by omega, by omega, ?_, fun j h4 h5 => by omega, fun h => by omega⟩
    rw [lp_succ]; unfold BMo_letters_2
    rw [if_pos (by rw [i_le, onat (by omega), e13]; omega)]
  | succ m ih =>
    intro k N h1 h2 h3
    obtain ⟨M, rfl⟩ : ∃ M, N = M + 1 := ⟨N - 1, by omega⟩
    have h13 : ¬ (13 : Int32) ≤ Int32.ofNat k := by rw [i_le, onat (by omega), e13]; omega
    by_cases hz : w.toInt / 32 ^ k = 0
    · refine ⟨k, by omega, by omega, ?_, fun j h4 h5 => by omega, fun _ => hz⟩
      rw [lp_succ]; unfold BMo_letters_2
      simp only [bindv]
      rw [if_neg h13, if_pos (lg0.mpr (by rw [at5 w k (by omega)]; exact hz))]
    · obtain ⟨n, g1, g2, g3, g4, g5⟩ := ih (k + 1) M (by omega) (by omega) (by omega)
      refine ⟨n, by omega, g2, ?_, fun j h4 h5 => ?_, g5⟩
      · rw [lp_succ]; unfold BMo_letters_2
        simp only [bindv]
        rw [if_neg h13, if_neg (fun z => hz (by rw [← at5 w k (by omega)]; exact lg0.mp z)), onat1 (by omega)]
        exact g3
      · by_cases hj : j = k
        · rw [hj]; exact hz
        · exact g4 j (by omega) h5
theorem word_bad (w : Int64) (n k : Int32) (N : Nat) : lpN BMo_isWord_31 (N + 1) (w, n, 0, k) = some 0 := by
  have hb : isb 0 = true := by decide
  rw [lp_succ]; unfold BMo_isWord_31
  by_cases h : n ≤ k
  · rw [if_pos h, if_pos hb]
  · rw [if_neg h, if_pos rfl, if_pos hb]
theorem name_loop (w : Int64) (n : Nat) (hn : n ≤ 6) (h0 : 0 < w.toInt) (hz : w.toInt / 32 ^ n = 0) (hk : ∀ j, j < n → w.toInt / 32 ^ j ≠ 0) : ∀ (m k : Nat) (v : Int32) (N1 N2 : Nat), n - k = m → k ≤ n → m < N1 → m + 1 < N2 → v.toInt = w.toInt / 32 ^ k →
    (lpN BX_isName_19 N1 (w, v) = some 0 ∧ lpN BMo_isWord_31 N2 (w, Int32.ofNat n, 1, Int32.ofNat k) = some 0) ∨ (lpN BX_isName_19 N1 (w, v) = ((f_X_keyword w.toInt32).bind fun q4 => if q4 = (-1) then some 1 else some 0) ∧ lpN BMo_isWord_31 N2 (w, Int32.ofNat n, 1, Int32.ofNat k) = some 1) := by
  have hb : isb 1 = true := by decide
  have e1' : (1 : Int64).toInt = 1 := by decide
  have e26 : (26 : Int64).toInt = 26 := by decide
  have f26 : (26 : Int32).toInt = 26 := by decide
  intro m
  induction m with
  | zero =>
    intro k v N1 N2 h1 h2 h3 h4 hv
    obtain ⟨M1, rfl⟩ : ∃ M, N1 = M + 1 := ⟨N1 - 1, by omega⟩
    obtain ⟨M2, rfl⟩ : ∃ M, N2 = M + 1 := ⟨N2 - 1, by omega⟩
    have : k = n := by omega
    subst this
    right
    constructor
    · rw [lp_succ]; unfold BX_isName_19
      rw [if_pos (by rw [i_le, n0, hv, hz]; omega)]
    · rw [lp_succ]; unfold BMo_isWord_31
      rw [if_pos (by rw [i_le]; exact Int.le_refl _), if_pos hb]
  | succ m ih =>
    intro k v N1 N2 h1 h2 h3 h4 hv
    obtain ⟨M1, rfl⟩ : ∃ M, N1 = M + 1 := ⟨N1 - 1, by omega⟩
    obtain ⟨M2, rfl⟩ : ∃ M, N2 = M + 1 + 1 := ⟨N2 - 2, by omega⟩
    have hne := hk k (by omega)
    have hpos : 0 ≤ w.toInt / 32 ^ k := Int.ediv_nonneg (by omega) (Int.pow_nonneg (by omega))
    have g1 : ¬ v ≤ 0 := by rw [i_le, n0]; omega
    have g2 : ¬ Int32.ofNat n ≤ Int32.ofNat k := by rw [i_le, onat (by omega), onat (by omega)]; omega
    have l1 : (v &&& 31).toInt = w.toInt / 32 ^ k % 32 := by rw [and32, hv]
    have l2 : ((w >>> ((5 * Int32.ofNat k).toInt64 &&& 63)) &&& 31).toInt = w.toInt / 32 ^ k % 32 := by rw [and64, at5 w k (by omega)]
    have hv2 : (v >>> (5 &&& 31)).toInt = w.toInt / 32 ^ (k + 1) := by
      rw [shr32, hv, Int.pow_succ, Int.ediv_ediv_of_nonneg (Int.pow_nonneg (by omega))]
    have u1 : ¬ (1 : Int32) = 0 := by decide
    by_cases c1 : w.toInt / 32 ^ k % 32 < 1
    · left
      constructor
      · rw [lp_succ]; unfold BX_isName_19
        rw [if_neg g1, if_pos (by rw [i_lt, l1, n1]; exact c1)]
      · rw [lp_succ]; unfold BMo_isWord_31
        simp only [bindv]
        rw [if_neg g2, if_neg u1, if_pos (by rw [lglt, l2, e1']; exact c1)]
        exact word_bad _ _ _ _
    · by_cases c2 : w.toInt / 32 ^ k % 32 ≤ 26
      · have r1 : lpN BX_isName_19 (M1 + 1) (w, v) = lpN BX_isName_19 M1 (w, v >>> (5 &&& 31)) := by
          rw [lp_succ]
          conv => lhs; unfold BX_isName_19
          rw [if_neg g1, if_neg (by rw [i_lt, l1, n1]; exact c1), if_pos (by rw [i_le, l1, f26]; exact c2)]
          rfl
        have r2 : lpN BMo_isWord_31 (M2 + 1 + 1) (w, Int32.ofNat n, 1, Int32.ofNat k) = lpN BMo_isWord_31 (M2 + 1) (w, Int32.ofNat n, 1, Int32.ofNat (k + 1)) := by
          rw [lp_succ]
          conv => lhs; unfold BMo_isWord_31
          simp only [bindv]
          rw [if_neg g2, if_neg u1, if_neg (by rw [lglt, l2, e1']; exact c1), if_neg (by
            intro h
            have h5 : ¬ lg_cmp ((w >>> ((5 * Int32.ofNat k).toInt64 &&& 63)) &&& 31) 26 ≤ 0 := by
              rw [i_lt, n0] at h
              rw [i_le, n0]; omega
            exact h5 (lgle.mpr (by rw [l2, e26]; exact c2))), onat1 (by omega)]
          rfl
        rw [r1, r2]
        exact ih (k + 1) _ M1 (M2 + 1) (by omega) (by omega) (by omega) (by omega) hv2
      · left
        constructor
        · rw [lp_succ]; unfold BX_isName_19
          rw [if_neg g1, if_neg (by rw [i_lt, l1, n1]; exact c1), if_neg (by rw [i_le, l1, f26]; exact c2)]
        · rw [lp_succ]; unfold BMo_isWord_31
          simp only [bindv]
          rw [if_neg g2, if_neg u1, if_neg (by rw [lglt, l2, e1']; exact c1), if_pos (by
            have h5 : ¬ lg_cmp ((w >>> ((5 * Int32.ofNat k).toInt64 &&& 63)) &&& 31) 26 ≤ 0 := fun z => c2 (by have := lgle.mp z; rw [l2, e26] at this; exact this)
            rw [i_le, n0] at h5
            rw [i_lt, n0]; omega)]
          exact word_bad _ _ _ _
theorem kw_at (j : Nat) (h : j < 6) : (r0.2.2 1 j).toInt = (tabW j).toInt := by
  have : j = 0 ∨ j = 1 ∨ j = 2 ∨ j = 3 ∨ j = 4 ∨ j = 5 := by omega
  rcases this with rfl | rfl | rfl | rfl | rfl | rfl <;> decide
theorem lge {x y : Int64} : lg_cmp x y = 0 ↔ x = y := by
  unfold lg_cmp
  by_cases h1 : x > y
  · rw [if_pos h1]
    constructor
    · intro h; exact absurd h (by decide)
    · intro h; rw [h] at h1; exact absurd h1 Int64.lt_irrefl
  · rw [if_neg h1]
    by_cases h3 : x = y
    · rw [if_pos h3]; exact ⟨fun _ => h3, fun _ => rfl⟩
    · rw [if_neg h3]
      exact ⟨fun h => absurd h (by decide), fun h => absurd h h3⟩
/-- which keyword: both find the same -/
theorem kw_loop (w : Int64) (v : Int32) (hv : v.toInt = w.toInt) (r : RS) (hr : r.2.2 1 = r0.2.2 1) : ∀ (m k : Nat) (N1 N2 : Nat), 6 - k = m → k ≤ 6 → m < N1 → m < N2 → ∃ c : Int32, lpN BX_keyword_2 N1 (v, Int32.ofNat k) = some c ∧ lpN BMo_keyword_2 N2 (w, Int32.ofNat k, r) = some (c, r) ∧ (c = -1 ∨ 0 ≤ c.toInt) := by
  intro m
  induction m with
  | zero =>
    intro k N1 N2 h1 h2 h3 h4
    obtain ⟨M1, rfl⟩ : ∃ M, N1 = M + 1 := ⟨N1 - 1, by omega⟩
    obtain ⟨M2, rfl⟩ : ∃ M, N2 = M + 1 := ⟨N2 - 1, by omega⟩
    have g : (6 : Int32) ≤ Int32.ofNat k := by rw [i_le, n6, onat (by omega)]; omega
    refine ⟨-1, ?_, ?_, Or.inl rfl⟩
    · rw [lp_succ]; unfold BX_keyword_2; rw [if_pos g]
    · rw [lp_succ]; unfold BMo_keyword_2; rw [if_pos g]
  | succ m ih =>
    intro k N1 N2 h1 h2 h3 h4
    obtain ⟨M1, rfl⟩ : ∃ M, N1 = M + 1 := ⟨N1 - 1, by omega⟩
    obtain ⟨M2, rfl⟩ : ∃ M, N2 = M + 1 := ⟨N2 - 1, by omega⟩
    have ek := onat (n := k) (by omega)
    have g : ¬ (6 : Int32) ≤ Int32.ofNat k := by rw [i_le, n6, ek]; omega
    have b1 : inb (Int32.ofNat k) 7 = true := inb_of (by omega) (by omega)
    have b2 : inb (Int32.ofNat k) 6 = true := inb_of (by omega) (by omega)
    have nk : (Int32.ofNat k).toNatClampNeg = k := by have := i_nat (a := Int32.ofNat k) (by omega); omega
    have hkw := kw_at k (by omega)
    by_cases c1 : tabW k = v
    · have c2 : lg_cmp (r.2.2 1 (Int32.ofNat k).toNatClampNeg) w = 0 := by
        rw [lge, nk, hr]
        apply Int64.toInt_inj.mp
        rw [hkw, c1, hv]
      refine ⟨Int32.ofNat k, ?_, ?_, Or.inr (by omega)⟩
      · rw [lp_succ]; unfold BX_keyword_2; rw [if_neg g, if_pos b1, nk, if_pos c1]
      · rw [lp_succ]; unfold BMo_keyword_2; simp only [bindv]; rw [if_neg g, if_pos b2, if_pos c2]
    · have c2 : ¬ lg_cmp (r.2.2 1 (Int32.ofNat k).toNatClampNeg) w = 0 := by
        rw [lge, nk, hr]
        intro h
        apply c1
        apply Int32.toInt_inj.mp
        rw [← hkw, h, hv]
      obtain ⟨c, f1, f2, f3⟩ := ih (k + 1) M1 M2 (by omega) (by omega) (by omega) (by omega)
      refine ⟨c, ?_, ?_, f3⟩
      · rw [lp_succ]; unfold BX_keyword_2; rw [if_neg g, if_pos b1, nk, if_neg c1, onat1 (by omega)]; exact f1
      · rw [lp_succ]; unfold BMo_keyword_2; simp only [bindv]; rw [if_neg g, if_pos b2, if_neg c2, onat1 (by omega)]; exact f2
/-- a name: both say the same; a keyword is none -/
theorem name_ok (w : Int64) (r : RS) (hr : r.2.2 1 = r0.2.2 1) : (f_X_isName w = some 0 ∧ f_Mo_isWord w = some 0) ∨ (f_X_isName w = some 0 ∧ f_Mo_isWord w = some 1 ∧ ∃ c, f_Mo_keyword w r = some (c, r) ∧ ¬ c < 0) ∨ (f_X_isName w = some 1 ∧ f_Mo_isWord w = some 1 ∧ ∃ c, f_Mo_keyword w r = some (c, r) ∧ c < 0 ∧ 0 < w.toInt ∧ w.toInt < 1073741824) := by
  have z0 : (0 : Int64).toInt = 0 := by decide
  have z30 : (1073741824 : Int64).toInt = 1073741824 := by decide
  obtain ⟨n, g1, g2, g3, g4, g5⟩ := lett w 13 0 100000 (by omega) (by omega) (by omega)
  have hl : f_Mo_letters w = some (Int32.ofNat n) := g3
  have en := onat (n := n) (by omega)
  unfold f_X_isName f_Mo_isWord
  rw [hl]
  simp only [Option.bind_some]
  by_cases h1 : w.toInt ≤ 0
  · left
    rw [if_pos (lgle.mpr (by rw [z0]; exact h1))]
    refine ⟨rfl, ?_⟩
    by_cases c1 : Int32.ofNat n < 1
    · rw [if_pos c1]; exact word_bad _ _ _ _
    · rw [if_neg c1]
      by_cases c2 : 6 < Int32.ofNat n
      · rw [if_pos c2]; exact word_bad _ _ _ _
      · rw [if_neg c2, if_pos (lgle.mpr (by rw [z0]; exact h1))]; exact word_bad _ _ _ _
  · have hp : 0 < w.toInt := by omega
    have l1 : ¬ lg_cmp w 0 ≤ 0 := fun z => h1 (by have := lgle.mp z; rw [z0] at this; exact this)
    rw [if_neg l1]
    by_cases h2 : w.toInt < 1073741824
    · rw [if_pos (lglt.mpr (by rw [z30]; exact h2))]
      have n6' : n ≤ 6 := by
        by_cases h : n ≤ 6
        · exact h
        · have := g4 6 (by omega) (by omega)
          have h3 : w.toInt / 32 ^ 6 = 0 := Int.ediv_eq_zero_of_lt (by omega) (by omega)
          exact absurd h3 this
      have n1' : 1 ≤ n := by
        by_cases h : 1 ≤ n
        · exact h
        · have hn0 : n = 0 := by omega
          have := g5 (by omega)
          rw [hn0] at this
          simp at this
          omega
      have v1 : w.toInt32.toInt = w.toInt := by
        rw [Int64.toInt_toInt32, Int.bmod_def]
        split <;> omega
      rw [if_neg (by rw [i_lt, en, n1]; omega), if_neg (by rw [i_lt, en, n6]; omega), if_neg l1]
      obtain ⟨c, k1, k2, k3⟩ := kw_loop w w.toInt32 v1 r hr 6 0 100000 100000 (by omega) (by omega) (by omega) (by omega)
      have k1' : f_X_keyword w.toInt32 = some c := k1
      have k2' : f_Mo_keyword w r = some (c, r) := k2
      rcases name_loop w n n6' hp (g5 (by omega)) (fun j hj => g4 j (by omega) hj) n 0 w.toInt32 100000 100000 (by omega) (by omega) (by omega) (by omega) (by rw [v1]; simp) with ⟨a1, a2⟩ | ⟨a1, a2⟩
      · left; exact ⟨a1, a2⟩
      · right
        rw [k1'] at a1
        simp only [Option.bind_some] at a1
        rcases k3 with rfl | k3
        · right
          rw [if_pos rfl] at a1
          exact ⟨a1, a2, -1, k2', by decide, hp, h2⟩
        · left
          have hc : ¬ c = -1 := by rw [i_eq, nm1]; omega
          rw [if_neg hc] at a1
          exact ⟨a1, a2, c, k2', by rw [i_lt, n0]; omega⟩
    · left
      rw [if_neg (fun z => h2 (by have := lglt.mp z; rw [z30] at this; exact this))]
      refine ⟨rfl, ?_⟩
      have n7' : 7 ≤ n := by
        by_cases h : 7 ≤ n
        · exact h
        · exfalso
          have h5 := g5 (by omega)
          have h6 : w.toInt < 32 ^ n := by
            have := Int.lt_ediv_add_one_mul_self w.toInt (show (0 : Int) < 32 ^ n from Int.pow_pos (by omega))
            rw [h5] at this
            simpa using this
          have h7 : (32 : Int) ^ n ≤ 32 ^ 6 := by
            have hh : (32 : Nat) ^ n ≤ 32 ^ 6 := Nat.pow_le_pow_right (by omega) (by omega)
            exact_mod_cast hh
          omega
      rw [if_neg (by rw [i_lt, en, n1]; omega), if_pos (by rw [i_lt, en, n6]; omega)]
      exact word_bad _ _ _ _
