/-! rename: the name, the sizes, reading again -/
theorem nameW {a : Int64} (h : f_X_isName a = some 1) (h1 : 0 < a.toInt) (h2 : a.toInt < 1073741824) : ∃ w : Nat, a.toInt = (w : Int) ∧ 0 < w ∧ w < 1073741824 ∧ a.toInt32 = Int32.ofNat w ∧ a = Int64.ofNat w ∧ okW 6 w ∧ ¬ kwN w < 6 := by
  obtain ⟨w, hw⟩ : ∃ w : Nat, a.toInt = (w : Int) := ⟨a.toInt.toNat, by omega⟩
  have v1 : a.toInt32 = Int32.ofNat w := by
    rw [i_eq, Int64.toInt_toInt32, Int.bmod_def, onat (by omega)]
    split <;> omega
  have v2 : a = Int64.ofNat w := by
    apply Int64.toInt_inj.mp
    rw [hw, Int64.toInt_ofNat_of_lt (by omega)]
  have z0 : (0 : Int64).toInt = 0 := by decide
  have z30 : (1073741824 : Int64).toInt = 1073741824 := by decide
  unfold f_X_isName at h
  rw [if_neg (show ¬ lg_cmp a 0 ≤ 0 from fun z => by have := lgle.mp z; omega), if_pos (show lg_cmp a 1073741824 < 0 from lglt.mpr (by omega)), v1] at h
  have loop : ∀ (f v M : Nat), v < 1073741824 → v < 32 ^ f → lpN BX_isName_19 (M + f + 1) (a, Int32.ofNat v) = some 1 → okW f v ∧ ¬ kwN w < 6 := by
    intro f
    have hend : ∀ (v M : Nat), v = 0 → lpN BX_isName_19 (M + 1) (a, Int32.ofNat v) = some 1 → ¬ kwN w < 6 := by
      intro v M h0 hh
      subst h0
      rw [lp_succ] at hh
      unfold BX_isName_19 at hh
      dsimp only at hh
      rw [if_pos (show Int32.ofNat 0 ≤ 0 by decide), v1, kwX (by omega), Option.bind_some] at hh
      intro hk
      rw [if_pos hk, if_neg (show ¬ Int32.ofNat (kwN w) = -1 by rw [o_nm1 (by omega)]; exact id)] at hh
      exact absurd (Option.some.inj hh) (by decide)
    induction f with
    | zero =>
      intro v M g1 g2 g3
      have h0 : v = 0 := by omega
      exact ⟨h0, hend v (M + 0) h0 g3⟩
    | succ f ih =>
      intro v M g1 g2 g3
      by_cases h0 : v = 0
      · exact ⟨Or.inl h0, hend v (M + (f + 1)) h0 g3⟩
      · rw [show M + (f + 1) + 1 = (M + f + 1) + 1 by omega, lp_succ] at g3
        unfold BX_isName_19 at g3
        dsimp only at g3
        rw [if_neg (show ¬ Int32.ofNat v ≤ 0 by rw [i_le, onat (by omega), n0]; omega), w_and g1, w_shr g1] at g3
        by_cases c1 : v % 32 < 1
        · rw [if_pos (show Int32.ofNat (v % 32) < 1 by rw [i_lt, onat (by omega), n1]; omega)] at g3
          exact absurd (Option.some.inj g3) (by decide)
        · rw [if_neg (show ¬ Int32.ofNat (v % 32) < 1 by rw [i_lt, onat (by omega), n1]; omega)] at g3
          have f26 : (26 : Int32).toInt = 26 := by decide
          by_cases c2 : v % 32 ≤ 26
          · rw [if_pos (show Int32.ofNat (v % 32) ≤ 26 by rw [i_le, onat (by omega), f26]; omega)] at g3
            have h4 : v / 32 < 32 ^ f := by
              rw [Nat.pow_succ] at g2
              exact Nat.div_lt_of_lt_mul (by omega)
            obtain ⟨i1, i2⟩ := ih (v / 32) M (by omega) h4 g3
            exact ⟨Or.inr ⟨by omega, c2, i1⟩, i2⟩
          · rw [if_neg (show ¬ Int32.ofNat (v % 32) ≤ 26 by rw [i_le, onat (by omega), f26]; omega)] at g3
            exact absurd (Option.some.inj g3) (by decide)
  obtain ⟨g1, g2⟩ := loop 6 w 99993 (by omega) (by omega) h
  exact ⟨w, hw, by omega, by omega, v1, v2, g1, g2⟩
theorem ltL_n : ∀ (f w : Nat), w < 32 ^ f → (∀ j, j < (ltL f w).length → w / 32 ^ j ≠ 0) ∧ w / 32 ^ (ltL f w).length = 0
  | 0, w, h => ⟨fun j hj => absurd hj (Nat.not_lt_zero _), by
    have : w = 0 := by omega
    subst this; rfl⟩
  | f + 1, w, h => by
    unfold ltL
    split
    · rename_i h0
      subst h0
      exact ⟨fun j hj => absurd hj (Nat.not_lt_zero _), rfl⟩
    · rename_i h0
      have h4 : w / 32 < 32 ^ f := by
        rw [Nat.pow_succ] at h
        exact Nat.div_lt_of_lt_mul (by omega)
      obtain ⟨i1, i2⟩ := ltL_n f (w / 32) h4
      rw [List.length_cons]
      refine ⟨fun j hj => ?_, ?_⟩
      · cases j with
        | zero => rw [Nat.pow_zero, Nat.div_one]; exact h0
        | succ j =>
          have := i1 j (by omega)
          rwa [Nat.div_div_eq_div_mul, Nat.mul_comm, ← Nat.pow_succ] at this
      · rwa [Nat.div_div_eq_div_mul, Nat.mul_comm, ← Nat.pow_succ] at i2
theorem lettersM {a : Int64} {w : Nat} (hw : a.toInt = (w : Int)) (h : w < 1073741824) : f_Mo_letters a = some (Int32.ofNat (ltL 6 w).length) := by
  obtain ⟨n, g1, g2, g3, g4, g5⟩ := lett a 13 0 100000 (by omega) (by omega) (by omega)
  obtain ⟨l1, l2⟩ := ltL_n 6 w (by omega)
  have h6 := ltL_len (f := 6) (w := w)
  have hc : ∀ j : Nat, a.toInt / 32 ^ j = ((w / 32 ^ j : Nat) : Int) := fun j => by
    rw [hw]; push_cast; rfl
  have : n = (ltL 6 w).length := by
    rcases Nat.lt_trichotomy n (ltL 6 w).length with x | x | x
    · have := g5 (by omega)
      rw [hc] at this
      exact absurd (by omega) (l1 n x)
    · exact x
    · have := g4 (ltL 6 w).length (Nat.zero_le _) x
      rw [hc, l2] at this
      exact absurd rfl this
  rw [← this]
  exact g3
theorem i_mul {a b : Int32} (h1 : -1000000 < a.toInt * b.toInt) (h2 : a.toInt * b.toInt < 1000000) : (a * b).toInt = a.toInt * b.toInt := by
  rw [Int32.toInt_mul, Int.bmod_def]
  split <;> omega
theorem pm_D {t D : Nat} (ht : t ≤ 1000) (hD : D ≤ 1000) : (pm t = Int32.ofNat D) ↔ t = D + 1 := by
  cases t with
  | zero =>
    have : ¬ pm 0 = Int32.ofNat D := by
      show ¬ (-1 : Int32) = Int32.ofNat D
      intro h
      have := congrArg Int32.toInt h
      rw [onat (by omega), nm1] at this
      omega
    exact ⟨fun h => absurd h this, fun h => by omega⟩
  | succ t =>
    show Int32.ofNat t = Int32.ofNat D ↔ _
    rw [o_eq (by omega) (by omega)]
    omega
theorem pm_inj {t u : Nat} (ht : t ≤ 1000) (hu : u ≤ 1000) : (pm t = pm u) = (t = u) := by
  cases u with
  | zero => exact (pm_m1 (by omega))
  | succ u => exact propext ((pm_D ht (by omega)).trans Iff.rfl)
theorem tr_of {T : Nat → Nat} {n : Nat} {d : DS} {r : RS} (h1 : TxD T n d) (h2 : TxM T n r) : TR d r := by
  have hn := h1.2.1
  refine ⟨h1.1.trans h2.1.symm, ?_, ?_, fun i hi => ?_⟩
  · rw [h1.1, onat (by omega)]; omega
  · rw [h1.1, onat (by omega)]; omega
  · rw [h1.1, onat (by omega)] at hi
    obtain ⟨a1, a2, a3⟩ := h1.2.2 i (by omega)
    refine ⟨a1.trans (h2.2.2.1 i (by omega)).1.symm, ?_, ?_⟩
    · rw [a1, onat (by omega)]; omega
    · rw [a1, onat (by omega)]; omega
theorem mr_of {k : DS} {r r' : RS} (h : MR k r) (h1 : r'.2.1 16 = r.2.1 16) (h2 : r'.2.1 17 = r.2.1 17) (h3 : r'.1 36 = r.1 36) : MR k r' := by
  obtain ⟨m1, m2, m3, m4⟩ := h
  unfold MR
  rw [h1, h2, h3]
  exact ⟨m1, m2, m3, m4⟩
/-- Both read a new text. -/
theorem again {L : List Nat} {b : DS} {r : RS} (hL : TL b L) (h2 : b.2 2 = 0) (hX : TxM (tL L) L.length r) : ∃ (cs : Nat → Cds) (l : List Nat) (t : DS) (r' : RS), f_Dr_refresh b = some t ∧ f_Mo_analyse r = some r' ∧ Red (tL L) L.length cs l t ∧ RedM (tL L) L.length cs l r' ∧ t.2 2 = 1 ∧ FrA r r' := by
  obtain ⟨t, cs, l, g1, g2, g3, -⟩ := refreshD hL.tx h2
  obtain ⟨r', l', a1, a2, a3⟩ := analyseM cs hX
  have hll : l' = l := srt_eq a2.2.2.2.2.2.1 g2.2.2.2.2.2.1 (fun x => (a2.2.2.2.2.2.2.2.1 x).trans (g2.2.2.2.2.2.2.2.1 x).symm)
  subst hll
  exact ⟨cs, l', t, r', g1, a1, g2, a2, g3, a3⟩
theorem MW.cg2 {cl nm sk : Nat → Nat} {N : Nat} {R G Sc Si Un np : Nat → Nat} {ok : Nat → Bool} {r r' : RS} (h : MW cl nm sk N R G Sc Si Un np ok r) (hA : ∀ i, i ≠ 3 → i ≠ 4 → i ≠ 11 → r'.1 i = r.1 i) (hI : ∀ i, i ≠ 2 → r'.2.1 i = r.2.1 i) (hl : r'.2.2 = r.2.2) : MW cl nm sk N R G Sc Si Un np ok r' := by
  obtain ⟨h1, h2, h3, h4⟩ := h
  refine ⟨h1.cg (hI 3 (by decide)) hl (hA 5 (by decide) (by decide) (by decide)) (hA 6 (by decide) (by decide) (by decide)) (hA 2 (by decide) (by decide) (by decide)), ?_, (hI 4 (by decide)).trans h3, ?_⟩
  · rw [hA 9 (by decide) (by decide) (by decide), hA 12 (by decide) (by decide) (by decide), hA 13 (by decide) (by decide) (by decide), hA 14 (by decide) (by decide) (by decide), hA 15 (by decide) (by decide) (by decide)]
    exact h2
  · rw [hA 17 (by decide) (by decide) (by decide), hA 19 (by decide) (by decide) (by decide)]
    exact h4
/-- With no fault every part was read. -/
theorem all_ok {T : Nat → Nat} {n : Nat} {cs : Nat → Cds} {d : DS} (h : Red T n cs [] d) : (∀ q, q < (ps (CL T n) (NN T n)).length → okP (CL T n) (NM T n) (NN T n) cs q = true) ∧ ∀ q, q < NN T n → zF T n cs q = 0 := by
  have hm := h.2.2.2.2.2.2.2.1
  have hd := h.2.2.2.2.2.2.2.2.1
  refine ⟨fun q hq => ?_, fun q hq => ?_⟩
  · cases ho : okP (CL T n) (NM T n) (NN T n) cs q with
    | true => rfl
    | false =>
      obtain ⟨b, b1, -⟩ := (hd q hq).2 ho
      exact absurd ((hm (1 + 8 * b)).mpr (Or.inl ⟨q, b, hq, b1, rfl⟩)) List.not_mem_nil
  · by_cases hz : zF T n cs q = 0
    · exact hz
    · exact absurd ((hm _).mpr (Or.inr ⟨q, ⟨hq, hz⟩, rfl⟩)) List.not_mem_nil
theorem nfn_all {ok : Nat → Bool} {P : Nat} (h : ∀ q, q < P → ok q = true) : ∀ p, p ≤ P → nfn ok p = p
  | 0, _ => rfl
  | p + 1, hp => by
    show nfn ok p + (if ok p then 1 else 0) = p + 1
    rw [nfn_all h p (by omega), h p (by omega)]; rfl
theorem ps_cg {cl cl' : Nat → Nat} : ∀ (N : Nat), (∀ k, k < N → cl' k = cl k) → ps cl' N = ps cl N
  | 0, _ => rfl
  | k + 1, h => by
    show (if k = 0 ∨ cl' k = 400 ∧ (ps cl' k).length < 4 then ps cl' k ++ [k] else ps cl' k) = (if k = 0 ∨ cl k = 400 ∧ (ps cl k).length < 4 then ps cl k ++ [k] else ps cl k)
    rw [ps_cg k (fun q hq => h q (by omega)), h k (by omega)]
