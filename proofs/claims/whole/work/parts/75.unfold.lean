/-! inline: the model spells the same text -/
theorem u18 {T : Nat → Nat} {n N D s : Nat} {sk ek : Nat → Nat} {sel : Nat → Bool} {L : List Nat} {r : RS} {at_ : Nat} {K : Int32 × Int32 × Int32 × Int32 × Int32 × Int32 × RS → Option RS} (hX : TxM T n r) (hN : N ≤ 240) (h3 : r.2.1 3 = Int32.ofNat N) (h67 : ∀ q, q < N → r.1 6 q = Int32.ofNat (sk q) ∧ sk q < 240 ∧ r.1 7 q = Int32.ofNat (ek q) ∧ ek q ≤ 240 ∧ ((r.1 9 q = 5 ∧ r.1 10 q = Int32.ofNat D) ↔ sel q = true)) (hat : at_ < n) (hl : L.length ≤ 240) (hD : 0 < D) (hDN : D + 2 < N) (hs : s < N) : ∀ (z k M : Nat), N - k = z → k ≤ N → ∃ (k2 : Nat) (k18 : Int32 × Int32 × Int32 × Int32 × Int32 × Int32 × RS → Option RS), k ≤ k2 ∧ k2 ≤ N ∧ (∀ q, k ≤ q → q < k2 → ek q ≤ at_) ∧ (k2 < N → at_ < ek k2) ∧ lpN (BMo_unfold_18 K) (M + z + 1) (Int32.ofNat D, Int32.ofNat (D + 2), Int32.ofNat s, Int32.ofNat L.length, Int32.ofNat k, Int32.ofNat at_, r) = (if k2 = D - 1 ∧ sk k2 = at_ then K (Int32.ofNat D, Int32.ofNat (D + 2), Int32.ofNat s, Int32.ofNat L.length, Int32.ofNat k2, Int32.ofNat (ek s), r) else if k2 < N ∧ sk k2 = at_ ∧ sel k2 = true then (if inb (Int32.ofNat L.length) 240 then lpN (BMo_unfold_139 K k18) 100000 (Int32.ofNat D, Int32.ofNat (D + 2), Int32.ofNat s, Int32.ofNat (L.length + 1), Int32.ofNat k2, Int32.ofNat at_, Int32.ofNat (sk (D + 2)), (va_up r.1 4 (upd (r.1 4) L.length 40), r.2.1, r.2.2)) else none) else if inb (Int32.ofNat L.length) 240 then K (Int32.ofNat D, Int32.ofNat (D + 2), Int32.ofNat s, Int32.ofNat (L.length + 1), Int32.ofNat k2, Int32.ofNat (at_ + 1), (va_up r.1 4 (upd (r.1 4) L.length (Int32.ofNat (T at_))), r.2.1, r.2.2)) else none) := by
  intro z
  have hn := hX.2.1
  obtain ⟨c0, c1, c2⟩ := hX.2.2.1 at_ hat
  have ia : inb (Int32.ofNat at_) 240 = true := o_inb (by omega) (by omega)
  have iS : inb (Int32.ofNat s) 240 = true := o_inb (by omega) (by omega)
  have iE : inb (Int32.ofNat (D + 2)) 240 = true := o_inb (by omega) (by omega)
  have d1 : Int32.ofNat D - 1 = Int32.ofNat (D - 1) := by
    rw [i_eq, i_sub (by rw [onat (by omega), n1]; omega) (by rw [onat (by omega), n1]; omega), onat (by omega), onat (by omega), n1]
    omega
  have e7s := (h67 s hs).2.2.1
  have e6E := (h67 (D + 2) hDN).1
  induction z with
  | zero =>
    intro k M h1 h2
    have : k = N := by omega
    subst this
    refine ⟨k, K, Nat.le_refl _, Nat.le_refl _, fun q q1 q2 => by omega, fun h => absurd h (Nat.lt_irrefl _), ?_⟩
    have hk1 : (Int32.ofNat k = Int32.ofNat (D - 1)) = False := (o_eq (by omega) (by omega)).trans (eq_false (by omega))
    have hkk : (Int32.ofNat k ≤ Int32.ofNat k) = True := eq_true (by rw [i_le]; omega)
    rw [Nat.add_zero, lp_succ, if_neg (show ¬ (k = D - 1 ∧ sk k = at_) from fun h => by omega), if_neg (show ¬ (k < k ∧ sk k = at_ ∧ sel k = true) from fun h => absurd h.1 (Nat.lt_irrefl _))]
    unfold BMo_unfold_18
    simp only [h3, hkk, d1, hk1, ia, ↓reduceIte, o_nat (show at_ < 2147483648 by omega), o_nat (show L.length < 2147483648 by omega), c0, bindv, o_p1]
  | succ z ih =>
    intro k M h1 h2
    obtain ⟨e6, e6b, e7, e7b, e10⟩ := h67 k (by omega)
    have ik : inb (Int32.ofNat k) 240 = true := o_inb (by omega) (by omega)
    have hle : (Int32.ofNat N ≤ Int32.ofNat k) = False := (o_le (by omega) (by omega)).trans (eq_false (by omega))
    have hlt : (Int32.ofNat at_ < Int32.ofNat (ek k)) = (at_ < ek k) := o_lt (by omega) (by omega)
    have heq : (Int32.ofNat at_ = Int32.ofNat (sk k)) = (sk k = at_) := (o_eq (by omega) (by omega)).trans (propext ⟨fun h => h.symm, fun h => h.symm⟩)
    have hkd : (Int32.ofNat k = Int32.ofNat (D - 1)) = (k = D - 1) := o_eq (by omega) (by omega)
    rw [show M + (z + 1) + 1 = (M + z + 1) + 1 by omega, lp_succ]
    by_cases c3 : at_ < ek k
    · refine ⟨k, lpN (BMo_unfold_18 K) (M + z + 1), Nat.le_refl _, by omega, fun q q1 q2 => by omega, fun _ => c3, ?_⟩
      by_cases c4 : sk k = at_
      · by_cases c6 : k = D - 1
        · rw [if_pos ⟨c6, c4⟩]
          unfold BMo_unfold_18
          simp only [h3, hle, d1, ik, iS, ↓reduceIte, o_nat (show k < 2147483648 by omega), o_nat (show s < 2147483648 by omega), e6, e7, e7s, hlt.trans (eq_true c3), heq.trans (eq_true c4), hkd.trans (eq_true c6), bindv]
        · rw [if_neg (show ¬ (k = D - 1 ∧ sk k = at_) from fun h => c6 h.1)]
          by_cases c5 : sel k = true
          · obtain ⟨t1, t2⟩ := e10.mpr c5
            rw [if_pos ⟨by omega, c4, c5⟩]
            unfold BMo_unfold_18
            simp only [h3, hle, d1, ik, iE, ↓reduceIte, o_nat (show k < 2147483648 by omega), o_nat (show D + 2 < 2147483648 by omega), o_nat (show L.length < 2147483648 by omega), e6, e6E, e7, t1, t2, hlt.trans (eq_true c3), heq.trans (eq_true c4), hkd.trans (eq_false c6), bindv, o_p1]
          · rw [if_neg (show ¬ (k < N ∧ sk k = at_ ∧ sel k = true) from fun h => c5 h.2.2)]
            have hno : ¬ (r.1 9 k = 5 ∧ r.1 10 k = Int32.ofNat D) := fun h => c5 (e10.mp h)
            by_cases h9 : r.1 9 k = 5
            · have h10 : (r.1 10 k = Int32.ofNat D) = False := eq_false (fun h => hno ⟨h9, h⟩)
              unfold BMo_unfold_18
              simp only [h3, hle, d1, ik, ia, ↓reduceIte, o_nat (show k < 2147483648 by omega), o_nat (show at_ < 2147483648 by omega), o_nat (show L.length < 2147483648 by omega), e6, e7, h9, h10, c0, hlt.trans (eq_true c3), heq.trans (eq_true c4), hkd.trans (eq_false c6), bindv, o_p1]
            · unfold BMo_unfold_18
              simp only [h3, hle, d1, ik, ia, ↓reduceIte, o_nat (show k < 2147483648 by omega), o_nat (show at_ < 2147483648 by omega), o_nat (show L.length < 2147483648 by omega), e6, e7, eq_false h9, c0, hlt.trans (eq_true c3), heq.trans (eq_true c4), hkd.trans (eq_false c6), bindv, o_p1]
      · rw [if_neg (show ¬ (k = D - 1 ∧ sk k = at_) from fun h => c4 h.2), if_neg (show ¬ (k < N ∧ sk k = at_ ∧ sel k = true) from fun h => c4 h.2.1)]
        by_cases c6 : k = D - 1
        · unfold BMo_unfold_18
          simp only [h3, hle, d1, ik, ia, ↓reduceIte, o_nat (show k < 2147483648 by omega), o_nat (show at_ < 2147483648 by omega), o_nat (show L.length < 2147483648 by omega), e6, e7, c0, hlt.trans (eq_true c3), heq.trans (eq_false c4), hkd.trans (eq_true c6), bindv, o_p1]
        · unfold BMo_unfold_18
          simp only [h3, hle, d1, ik, ia, ↓reduceIte, o_nat (show k < 2147483648 by omega), o_nat (show at_ < 2147483648 by omega), o_nat (show L.length < 2147483648 by omega), e6, e7, c0, hlt.trans (eq_true c3), heq.trans (eq_false c4), hkd.trans (eq_false c6), bindv, o_p1]
    · obtain ⟨k2, k18, g1, g2, g3, g4, g5⟩ := ih (k + 1) M (by omega) (by omega)
      refine ⟨k2, k18, by omega, g2, fun q q1 q2 => ?_, g4, ?_⟩
      · by_cases hqk : q = k
        · subst hqk; omega
        · exact g3 q (by omega) q2
      · rw [← g5]
        have hun : ∀ K2 : Int32 × Int32 × Int32 × Int32 × Int32 × Int32 × RS → Option RS, BMo_unfold_18 K K2 (Int32.ofNat D, Int32.ofNat (D + 2), Int32.ofNat s, Int32.ofNat L.length, Int32.ofNat k, Int32.ofNat at_, r) = K2 (Int32.ofNat D, Int32.ofNat (D + 2), Int32.ofNat s, Int32.ofNat L.length, Int32.ofNat (k + 1), Int32.ofNat at_, r) := by
          intro K2
          unfold BMo_unfold_18
          simp only [h3, hle, ik, ↓reduceIte, o_nat (show k < 2147483648 by omega), e7, hlt.trans (eq_false c3), bindv, o_p1]
        rw [hun]
theorem u139 {T : Nat → Nat} {n D s k2 e0 e1 : Nat} {ek : Nat → Nat} {at_ : Int32} {L : List Nat} {K k18 : Int32 × Int32 × Int32 × Int32 × Int32 × Int32 × RS → Option RS} (hs : 0 < s) (hs2 : s < 240) (hk : k2 < 240) (he1 : e1 ≤ n) (hn : n ≤ 240) (hl : L.length + (wrL T e0 e1).length ≤ 240) : ∀ (z a : Nat) (r : RS) (M : Nat), e1 - a = z → e0 ≤ a → a ≤ e1 → TxM T n r → r.1 7 (s - 1) = Int32.ofNat e1 → r.1 7 k2 = Int32.ofNat (ek k2) → NL r (L ++ [40] ++ piece T e0 (a - e0)) → ∃ r' : RS, lpN (BMo_unfold_139 K k18) (M + z + 1) (Int32.ofNat D, Int32.ofNat (D + 2), Int32.ofNat s, Int32.ofNat (L.length + 1 + (a - e0)), Int32.ofNat k2, at_, Int32.ofNat a, r) = K (Int32.ofNat D, Int32.ofNat (D + 2), Int32.ofNat s, Int32.ofNat (L ++ wrL T e0 e1).length, Int32.ofNat k2, Int32.ofNat (ek k2), r') ∧ NL r' (L ++ wrL T e0 e1) ∧ Fr4 r r' := by
  intro z
  rw [wr_len] at hl
  have s1 : Int32.ofNat s - 1 = Int32.ofNat (s - 1) := by
    rw [i_eq, i_sub (by rw [onat (by omega), n1]; omega) (by rw [onat (by omega), n1]; omega), onat (by omega), onat (by omega), n1]
    omega
  have is : inb (Int32.ofNat (s - 1)) 240 = true := o_inb (by omega) (by omega)
  have ik : inb (Int32.ofNat k2) 240 = true := o_inb (by omega) (by omega)
  have hlen : ∀ m, (L ++ [40] ++ piece T e0 m).length = L.length + 1 + m := fun m => by
    rw [List.length_append, List.length_append, piece_len]; rfl
  induction z with
  | zero =>
    intro a r M h1 h2 h3 hX h7 h7k hL
    have : a = e1 := by omega
    subst this
    obtain ⟨n1', n2'⟩ := hL.add (c := 41)
    rw [hlen] at n1' n2'
    refine ⟨_, ?_, ?_, n2'⟩
    · rw [Nat.add_zero, lp_succ]
      unfold BMo_unfold_139
      simp only [s1, is, ik, ↓reduceIte, o_nat (show s - 1 < 2147483648 by omega), o_nat (show k2 < 2147483648 by omega), o_nat (show L.length + 1 + (a - e0) < 2147483648 by omega), o_inb (show L.length + 1 + (a - e0) < 240 by omega) (show L.length + 1 + (a - e0) < 2147483648 by omega), h7, h7k, show (Int32.ofNat a ≤ Int32.ofNat a) = True from eq_true (by rw [i_le]; omega), bindv, o_p1]
      have : (L ++ wrL T e0 a).length = L.length + 1 + (a - e0) + 1 := by
        rw [List.length_append, wr_len]; omega
      rw [this]
      rfl
    · have : L ++ [40] ++ piece T e0 (a - e0) ++ [41] = L ++ wrL T e0 a := by simp only [List.append_assoc]
      rw [← this]; exact n1'
  | succ z ih =>
    intro a r M h1 h2 h3 hX h7 h7k hL
    obtain ⟨c0, -⟩ := hX.2.2.1 a (by omega)
    obtain ⟨n1', n2'⟩ := hL.add (c := T a)
    rw [hlen] at n1' n2'
    have hp : L ++ [40] ++ piece T e0 (a - e0) ++ [T a] = L ++ [40] ++ piece T e0 (a + 1 - e0) := by
      rw [show a + 1 - e0 = (a - e0) + 1 by omega, List.append_assoc (L ++ [40])]
      show _ = L ++ [40] ++ (piece T e0 (a - e0) ++ [T (e0 + (a - e0))])
      rw [show e0 + (a - e0) = a by omega]
    rw [hp] at n1'
    obtain ⟨r', g1, g2, g3⟩ := ih (a + 1) _ M (by omega) (by omega) (by omega) (show TxM T n (va_up r.1 4 (upd (r.1 4) (L.length + 1 + (a - e0)) (Int32.ofNat (T a))), r.2.1, r.2.2) from hX) h7 h7k n1'
    refine ⟨r', ?_, g2, n2'.tr g3⟩
    rw [show M + (z + 1) + 1 = (M + z + 1) + 1 by omega, lp_succ]
    unfold BMo_unfold_139
    simp only [s1, is, ↓reduceIte, o_nat (show s - 1 < 2147483648 by omega), o_nat (show a < 2147483648 by omega), o_inb (show a < 240 by omega) (show a < 2147483648 by omega), o_nat (show L.length + 1 + (a - e0) < 2147483648 by omega), o_inb (show L.length + 1 + (a - e0) < 240 by omega) (show L.length + 1 + (a - e0) < 2147483648 by omega), h7, (o_le (show e1 < 2147483648 by omega) (show a < 2147483648 by omega)).trans (eq_false (show ¬ e1 ≤ a by omega)), c0, bindv, o_p1]
    rw [show L.length + 1 + (a - e0) + 1 = L.length + 1 + (a + 1 - e0) by omega]
    exact g1
