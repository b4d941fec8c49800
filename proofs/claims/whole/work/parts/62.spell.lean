/-! the model spells the same text -/
theorem sp_ch {name : Int64} {w q : Nat} (hw : name.toInt = (w : Int)) (hq : q < 13) : (96 : Int32) + ((name >>> ((5 * Int32.ofNat q).toInt64 &&& 63)) &&& 31).toInt32 = Int32.ofNat (lt1 w q) := by
  have h1 : ((name >>> ((5 * Int32.ofNat q).toInt64 &&& 63)) &&& 31).toInt = ((w / 32 ^ q % 32 : Nat) : Int) := by
    rw [and64, at5 _ _ hq, hw]
    push_cast
    rfl
  have h2 : ((name >>> ((5 * Int32.ofNat q).toInt64 &&& 63)) &&& 31).toInt32 = Int32.ofNat (w / 32 ^ q % 32) := by
    rw [i_eq, Int64.toInt_toInt32, h1, onat (by omega), Int.bmod_def]
    split <;> omega
  rw [h2]
  exact o_add (a := 96)
theorem s80 {name : Int64} {w N k D : Nat} {ek : Nat → Nat} {at_ : Int32} {L : List Nat} {k9 k18 : Int32 × Int64 × Int32 × Int32 × Int32 × Int32 × RS → Option RS} (hw : name.toInt = (w : Int)) (hk : k < 240) (hl : L.length + (ltL 6 w).length ≤ 240) : ∀ (z q : Nat) (r : RS) (M : Nat), (ltL 6 w).length - q = z → q ≤ (ltL 6 w).length → r.1 7 k = Int32.ofNat (ek k) → NL r (L ++ (ltL 6 w).take q) → ∃ r' : RS, lpN (BMo_spell_80 k9 k18) (M + z + 1) (Int32.ofNat D, name, Int32.ofNat (ltL 6 w).length, Int32.ofNat L.length, Int32.ofNat k, at_, Int32.ofNat q, r) = k9 (Int32.ofNat D, name, Int32.ofNat (ltL 6 w).length, Int32.ofNat (L.length + (ltL 6 w).length), Int32.ofNat k, Int32.ofNat (ek k), r') ∧ NL r' (L ++ ltL 6 w) ∧ Fr4 r r' := by
  intro z
  have h6 := ltL_len (f := 6) (w := w)
  induction z with
  | zero =>
    intro q r M h1 h2 h7 hL
    have : q = (ltL 6 w).length := by omega
    subst this
    rw [List.take_length] at hL
    refine ⟨r, ?_, hL, Fr4.rf⟩
    rw [Nat.add_zero, lp_succ]
    unfold BMo_spell_80
    dsimp only
    rw [if_pos (by rw [i_le]; omega), if_pos (o_inb hk (by omega)), o_nat (by omega), h7, o_add]
    rfl
  | succ z ih =>
    intro q r M h1 h2 h7 hL
    have hq : q < (ltL 6 w).length := by omega
    have hlen : (L ++ (ltL 6 w).take q).length = L.length + q := by rw [List.length_append, List.length_take, Nat.min_eq_left h2]
    obtain ⟨n1, n2⟩ := hL.add (c := lt1 w q)
    have e1 : L ++ (ltL 6 w).take q ++ [lt1 w q] = L ++ (ltL 6 w).take (q + 1) := by
      rw [List.append_assoc, take_ex hq, ltL_get 6 w q hq]
    rw [hlen, e1] at n1
    rw [hlen] at n2
    obtain ⟨r', k1, k2, k3⟩ := ih (q + 1) (va_up r.1 4 (upd (r.1 4) (L.length + q) (Int32.ofNat (lt1 w q))), r.2.1, r.2.2) M (by omega) (by omega) h7 n1
    refine ⟨r', ?_, k2, n2.tr k3⟩
    rw [show M + (z + 1) + 1 = (M + z + 1) + 1 by omega, lp_succ]
    unfold BMo_spell_80
    dsimp only
    rw [if_neg (by rw [o_le (by omega) (by omega)]; omega)]
    simp only [bindv, o_add, o_inb (show L.length + q < 240 by omega) (show L.length + q < 2147483648 by omega), o_nat (show L.length + q < 2147483648 by omega), ↓reduceIte, o_p1, sp_ch hw (show q < 13 by omega)]
    exact k1
theorem s18 {T : Nat → Nat} {n N D : Nat} {sk ek : Nat → Nat} {sel : Nat → Bool} {name wn : Int64 × Int32} {L : List Nat} {r : RS} {at_ : Nat} {K : Int32 × Int64 × Int32 × Int32 × Int32 × Int32 × RS → Option RS} (hX : TxM T n r) (hN : N ≤ 240) (h3 : r.2.1 3 = Int32.ofNat N) (h67 : ∀ q, q < N → r.1 6 q = Int32.ofNat (sk q) ∧ sk q < 240 ∧ r.1 7 q = Int32.ofNat (ek q) ∧ ek q ≤ 240 ∧ (r.1 10 q = Int32.ofNat D ↔ sel q = true)) (hat : at_ < n) (hl : L.length ≤ 240) : ∀ (z k M : Nat), N - k = z → k ≤ N → ∃ (k2 : Nat) (k18 : Int32 × Int64 × Int32 × Int32 × Int32 × Int32 × RS → Option RS), k ≤ k2 ∧ k2 ≤ N ∧ (∀ q, k ≤ q → q < k2 → ek q ≤ at_) ∧ (k2 < N → at_ < ek k2) ∧ lpN (BMo_spell_18 K) (M + z + 1) (Int32.ofNat D, name.1, wn.2, Int32.ofNat L.length, Int32.ofNat k, Int32.ofNat at_, r) = if k2 < N ∧ sk k2 = at_ ∧ sel k2 = true then lpN (BMo_spell_80 K k18) 100000 (Int32.ofNat D, name.1, wn.2, Int32.ofNat L.length, Int32.ofNat k2, Int32.ofNat at_, 0, r) else if inb (Int32.ofNat L.length) 240 = true then K (Int32.ofNat D, name.1, wn.2, Int32.ofNat (L.length + 1), Int32.ofNat k2, Int32.ofNat (at_ + 1), (va_up r.1 4 (upd (r.1 4) L.length (Int32.ofNat (T at_))), r.2.1, r.2.2)) else none := by
  intro z
  have hn := hX.2.1
  obtain ⟨c0, c1, c2⟩ := hX.2.2.1 at_ hat
  have ia : inb (Int32.ofNat at_) 240 = true := o_inb (by omega) (by omega)
  induction z with
  | zero =>
    intro k M h1 h2
    have : k = N := by omega
    subst this
    refine ⟨k, K, Nat.le_refl _, Nat.le_refl _, fun q q1 q2 => by omega, fun h => absurd h (Nat.lt_irrefl _), ?_⟩
    rw [Nat.add_zero, lp_succ, if_neg (fun h => absurd h.1 (Nat.lt_irrefl _))]
    unfold BMo_spell_18
    dsimp only
    rw [h3, if_pos (show Int32.ofNat k ≤ Int32.ofNat k by rw [i_le]; omega), if_pos (show Int32.ofNat k ≤ Int32.ofNat k by rw [i_le]; omega)]
    simp only [ia, ↓reduceIte, o_nat (show at_ < 2147483648 by omega), o_nat (show L.length < 2147483648 by omega), c0, bindv, o_p1]
  | succ z ih =>
    intro k M h1 h2
    obtain ⟨e6, e6b, e7, e7b, e10⟩ := h67 k (by omega)
    have ik : inb (Int32.ofNat k) 240 = true := o_inb (by omega) (by omega)
    have hle : ¬ Int32.ofNat N ≤ Int32.ofNat k := by rw [o_le (by omega) (by omega)]; omega
    have hlt : (Int32.ofNat at_ < Int32.ofNat (ek k)) = (at_ < ek k) := o_lt (by omega) (by omega)
    have heq : (Int32.ofNat (sk k) = Int32.ofNat at_) = (sk k = at_) := o_eq (by omega) (by omega)
    rw [show M + (z + 1) + 1 = (M + z + 1) + 1 by omega, lp_succ]
    by_cases c3 : at_ < ek k
    · refine ⟨k, lpN (BMo_spell_18 K) (M + z + 1), Nat.le_refl _, by omega, fun q q1 q2 => by omega, fun _ => c3, ?_⟩
      unfold BMo_spell_18
      simp only [h3, hle, ik, ia, ↓reduceIte, o_nat (show k < 2147483648 by omega), o_nat (show at_ < 2147483648 by omega), o_nat (show L.length < 2147483648 by omega), e6, e7, hlt, heq, c3, c0, bindv, o_p1]
      by_cases c4 : sk k = at_
      · rw [if_pos c4]
        by_cases c5 : sel k = true
        · rw [if_pos (e10.mpr c5), if_pos ⟨by omega, c4, c5⟩]
        · rw [if_neg (fun h => c5 (e10.mp h)), if_neg (show ¬ (k < N ∧ sk k = at_ ∧ sel k = true) from fun h => c5 h.2.2)]
      · rw [if_neg c4, if_neg (show ¬ (k < N ∧ sk k = at_ ∧ sel k = true) from fun h => c4 h.2.1)]
    · obtain ⟨k2, k18, g1, g2, g3, g4, g5⟩ := ih (k + 1) M (by omega) (by omega)
      refine ⟨k2, k18, by omega, g2, fun q q1 q2 => ?_, g4, ?_⟩
      · by_cases hqk : q = k
        · subst hqk; omega
        · exact g3 q (by omega) q2
      · rw [← g5]
        have hun : ∀ K2 : Int32 × Int64 × Int32 × Int32 × Int32 × Int32 × RS → Option RS, BMo_spell_18 K K2 (Int32.ofNat D, name.1, wn.2, Int32.ofNat L.length, Int32.ofNat k, Int32.ofNat at_, r) = K2 (Int32.ofNat D, name.1, wn.2, Int32.ofNat L.length, Int32.ofNat (k + 1), Int32.ofNat at_, r) := by
          intro K2
          unfold BMo_spell_18
          simp only [h3, hle, ik, ↓reduceIte, o_nat (show k < 2147483648 by omega), e7, hlt, c3, bindv, o_p1]
        rw [hun]
theorem rn_skip {T : Nat → Nat} {n N : Nat} {sk ek : Nat → Nat} {sel : Nat → Bool} {W : List Nat} {at_ : Nat} (hS : TS sk ek N) : ∀ (z k : Nat), k + z ≤ N → (∀ q, k ≤ q → q < N → sel q = true → at_ ≤ sk q) → (∀ q, k ≤ q → q < k + z → ek q ≤ at_) → rnL T n sk ek sel W (N - k) k at_ = rnL T n sk ek sel W (N - (k + z)) (k + z) at_
  | 0, _, _, _, _ => rfl
  | z + 1, k, h1, h2, h3 => by
    have hk := h3 k (Nat.le_refl _) (by omega)
    have hsk := (hS.1 k (by omega)).1
    have hsel : sel k = false := by
      cases hs : sel k with
      | false => rfl
      | true =>
        have := h2 k (Nat.le_refl _) (by omega) hs
        omega
    have h4 := rn_skip hS z (k + 1) (by omega) (fun q q1 q2 => h2 q (by omega) q2) (fun q q1 q2 => h3 q (by omega) (by omega)) (T := T) (n := n) (W := W)
    rw [show k + (z + 1) = k + 1 + z by omega, ← h4, show N - k = (N - (k + 1)) + 1 by omega]
    show (if sel k then _ else _) = _
    rw [hsel]; rfl
theorem rn_no {T : Nat → Nat} {n : Nat} {sk ek : Nat → Nat} {sel : Nat → Bool} {W : List Nat} : ∀ (z k place : Nat), (∀ q, k ≤ q → q < k + z → sel q = false) → rnL T n sk ek sel W z k place = piece T place (n - place)
  | 0, _, _, _ => rfl
  | z + 1, k, place, h => by
    show (if sel k then _ else _) = _
    rw [h k (Nat.le_refl _) (by omega)]
    exact rn_no z (k + 1) place (fun q q1 q2 => h q (by omega) (by omega))
theorem s9 {T : Nat → Nat} {n N D w : Nat} {sk ek : Nat → Nat} {sel : Nat → Bool} {name : Int64} (hw : name.toInt = (w : Int)) (hN : N ≤ 240) (hS : TS sk ek N) (hen : ∀ q, q < N → ek q ≤ n) : ∀ (f at_ k k1 : Nat) (L : List Nat) (r : RS) (M : Nat), n - at_ ≤ f → at_ ≤ n → k ≤ k1 → k1 ≤ N → (∀ q, k ≤ q → q < k1 → ek q ≤ at_) → (∀ q, k1 ≤ q → q < N → sel q = true → at_ ≤ sk q) → TxM T n r → r.2.1 3 = Int32.ofNat N → (∀ q, q < N → r.1 6 q = Int32.ofNat (sk q) ∧ sk q < 240 ∧ r.1 7 q = Int32.ofNat (ek q) ∧ ek q ≤ 240 ∧ (r.1 10 q = Int32.ofNat D ↔ sel q = true)) → NL r L → L.length + (rnL T n sk ek sel (ltL 6 w) (N - k1) k1 at_).length ≤ 240 → ∃ r' : RS, lpN BMo_spell_9 (M + f + 1) (Int32.ofNat D, name, Int32.ofNat (ltL 6 w).length, Int32.ofNat L.length, Int32.ofNat k, Int32.ofNat at_, r) = f_Mo_becomeFresh (Int32.ofNat (L ++ rnL T n sk ek sel (ltL 6 w) (N - k1) k1 at_).length) r' ∧ NL r' (L ++ rnL T n sk ek sel (ltL 6 w) (N - k1) k1 at_) ∧ Fr4 r r' := by
  intro f
  have hend : ∀ (k k1 : Nat) (L : List Nat) (r : RS) (M : Nat), k1 ≤ N → (∀ q, k1 ≤ q → q < N → sel q = true → n ≤ sk q) → TxM T n r → NL r L → ∃ r' : RS, lpN BMo_spell_9 (M + 1) (Int32.ofNat D, name, Int32.ofNat (ltL 6 w).length, Int32.ofNat L.length, Int32.ofNat k, Int32.ofNat n, r) = f_Mo_becomeFresh (Int32.ofNat (L ++ rnL T n sk ek sel (ltL 6 w) (N - k1) k1 n).length) r' ∧ NL r' (L ++ rnL T n sk ek sel (ltL 6 w) (N - k1) k1 n) ∧ Fr4 r r' := by
    intro k k1 L r M hk1 h5 hX hL
    have hR : rnL T n sk ek sel (ltL 6 w) (N - k1) k1 n = [] := by
      rw [rn_no (N - k1) k1 n (fun q q1 q2 => by
        cases hs : sel q with
        | false => rfl
        | true =>
          have h6 := h5 q q1 (by omega) hs
          have h7 := (hS.1 q (by omega)).1
          have h8 := hen q (by omega)
          omega), Nat.sub_self]
      rfl
    rw [hR, List.append_nil]
    refine ⟨r, ?_, hL, Fr4.rf⟩
    rw [lp_succ]
    unfold BMo_spell_9
    dsimp only
    rw [hX.1, if_pos (by rw [i_le]; omega)]
    cases f_Mo_becomeFresh (Int32.ofNat L.length) r <;> rfl
  induction f with
  | zero =>
    intro at_ k k1 L r M h1 h2 hk hk1 h4 h5 hX h3 h67 hL hl
    have : at_ = n := by omega
    subst this
    exact hend k k1 L r M hk1 h5 hX hL
  | succ f ih =>
    intro at_ k k1 L r M h1 h2 hk hk1 h4 h5 hX h3 h67 hL hl
    by_cases hat : at_ < n
    · obtain ⟨k2, k18, g1, g2, g3, g4, g5⟩ := s18 (name := (name, 0)) (wn := (0, Int32.ofNat (ltL 6 w).length)) (L := L) (K := lpN BMo_spell_9 (M + f + 1)) hX hN h3 h67 hat (by omega) (N - k) k (99999 - (N - k)) rfl (by omega)
      rw [show 99999 - (N - k) + (N - k) + 1 = 100000 by omega] at g5
      have hk12 : k1 ≤ k2 := by
        by_cases h : k1 ≤ k2
        · exact h
        · have := h4 k2 g1 (by omega)
          have := g4 (by omega)
          omega
      have hsk := rn_skip (T := T) (n := n) (sel := sel) (W := ltL 6 w) (at_ := at_) hS (k2 - k1) k1 (by omega) h5 (fun q q1 q2 => g3 q (by omega) (by omega))
      rw [show k1 + (k2 - k1) = k2 by omega] at hsk
      rw [hsk] at hl ⊢
      have h5' : ∀ q, k2 ≤ q → q < N → sel q = true → at_ ≤ sk q := fun q q1 => h5 q (by omega)
      have hhead : lpN BMo_spell_9 (M + (f + 1) + 1) (Int32.ofNat D, name, Int32.ofNat (ltL 6 w).length, Int32.ofNat L.length, Int32.ofNat k, Int32.ofNat at_, r) = lpN (BMo_spell_18 (lpN BMo_spell_9 (M + f + 1))) 100000 (Int32.ofNat D, name, Int32.ofNat (ltL 6 w).length, Int32.ofNat L.length, Int32.ofNat k, Int32.ofNat at_, r) := by
        rw [show M + (f + 1) + 1 = (M + f + 1) + 1 by omega, lp_succ]
        have hn := hX.2.1
        have hun : ∀ K, BMo_spell_9 K (Int32.ofNat D, name, Int32.ofNat (ltL 6 w).length, Int32.ofNat L.length, Int32.ofNat k, Int32.ofNat at_, r) = lpN (BMo_spell_18 K) 100000 (Int32.ofNat D, name, Int32.ofNat (ltL 6 w).length, Int32.ofNat L.length, Int32.ofNat k, Int32.ofNat at_, r) := by
          intro K
          unfold BMo_spell_9
          dsimp only
          rw [hX.1, if_neg (by rw [o_le (by omega) (by omega)]; omega)]
        exact hun _
      rw [hhead]
      have g5' : lpN (BMo_spell_18 (lpN BMo_spell_9 (M + f + 1))) 100000 (Int32.ofNat D, name, Int32.ofNat (ltL 6 w).length, Int32.ofNat L.length, Int32.ofNat k, Int32.ofNat at_, r) = _ := g5
      rw [g5']
      dsimp only
      by_cases hit : k2 < N ∧ sk k2 = at_ ∧ sel k2 = true
      · rw [if_pos hit]
        have hR : rnL T n sk ek sel (ltL 6 w) (N - k2) k2 at_ = ltL 6 w ++ rnL T n sk ek sel (ltL 6 w) (N - (k2 + 1)) (k2 + 1) (ek k2) := by
          rw [show N - k2 = (N - (k2 + 1)) + 1 by omega]
          show (if sel k2 then piece T at_ (sk k2 - at_) ++ ltL 6 w ++ rnL T n sk ek sel (ltL 6 w) (N - (k2 + 1)) (k2 + 1) (ek k2) else _) = _
          rw [hit.2.2, if_pos rfl, hit.2.1, Nat.sub_self]
          rfl
        rw [hR, List.length_append] at hl
        obtain ⟨r1, a1, a2, a3⟩ := s80 (D := D) (N := N) (ek := ek) (at_ := Int32.ofNat at_) (k9 := lpN BMo_spell_9 (M + f + 1)) (k18 := k18) hw (show k2 < 240 by omega) (show L.length + (ltL 6 w).length ≤ 240 by omega) (ltL 6 w).length 0 r (99999 - (ltL 6 w).length) rfl (Nat.zero_le _) (h67 k2 hit.1).2.2.1 (by rw [List.take_zero, List.append_nil]; exact hL)
        have h6 := ltL_len (f := 6) (w := w)
        rw [show 99999 - (ltL 6 w).length + (ltL 6 w).length + 1 = 100000 by omega] at a1
        have a1' : lpN (BMo_spell_80 (lpN BMo_spell_9 (M + f + 1)) k18) 100000 (Int32.ofNat D, name, Int32.ofNat (ltL 6 w).length, Int32.ofNat L.length, Int32.ofNat k2, Int32.ofNat at_, 0, r) = _ := a1
        have hX1 : TxM T n r1 := by
          obtain ⟨x1, x2, x3, x4⟩ := hX
          refine ⟨by rw [a3.2]; exact x1, x2, fun i hi => by rw [a3.1 2 (by decide)]; exact x3 i hi, by rw [a3.2]; exact x4⟩
        have hat2 := g4 hit.1
        obtain ⟨r', s1, s2, s3⟩ := ih (ek k2) k2 (k2 + 1) (L ++ ltL 6 w) r1 M (by omega) (hen k2 hit.1) (by omega) (by omega) (fun q q1 q2 => by rw [show q = k2 by omega]; exact Nat.le_refl _) (fun q q1 q2 _ => (hS.lt (show k2 < q by omega) q2).1) hX1 (by rw [a3.2]; exact h3) (by rw [a3.1 6 (by decide), a3.1 7 (by decide), a3.1 10 (by decide)]; exact h67) a2 (by rw [List.length_append]; omega)
        refine ⟨r', ?_, ?_, a3.tr s3⟩
        · rw [a1', hR, ← List.append_assoc]
          rw [List.length_append (as := L) (bs := ltL 6 w)] at s1
          exact s1
        · rw [hR, ← List.append_assoc]; exact s2
      · rw [if_neg hit]
        have h5n : ∀ q, k2 ≤ q → q < N → sel q = true → at_ < sk q := fun q q1 q2 q3 => by
          have h6 := h5' q q1 q2 q3
          by_cases hq : q = k2
          · subst hq
            have : sk q ≠ at_ := fun h => hit ⟨q2, h, q3⟩
            omega
          · have := (hS.lt (show k2 < q by omega) q2).1
            have := g4 (by omega)
            omega
        have hR := rn_step (T := T) (n := n) (sk := sk) (ek := ek) (sel := sel) (W := ltL 6 w) (N - k2) k2 at_ hat (fun q q1 q2 => h5n q q1 (by omega))
        rw [hR, List.length_cons] at hl
        rw [if_pos (o_inb (by omega) (by omega))]
        obtain ⟨n1, n2⟩ := hL.add (c := T at_)
        obtain ⟨r', s1, s2, s3⟩ := ih (at_ + 1) k2 k2 (L ++ [T at_]) (va_up r.1 4 (upd (r.1 4) L.length (Int32.ofNat (T at_))), r.2.1, r.2.2) M (by omega) (by omega) (Nat.le_refl _) g2 (fun q q1 q2 => by omega) (fun q q1 q2 q3 => h5n q q1 q2 q3) hX h3 h67 n1 (by rw [lenn]; omega)
        refine ⟨r', ?_, ?_, n2.tr s3⟩
        · rw [hR, show L ++ T at_ :: rnL T n sk ek sel (ltL 6 w) (N - k2) k2 (at_ + 1) = L ++ [T at_] ++ rnL T n sk ek sel (ltL 6 w) (N - k2) k2 (at_ + 1) by rw [List.append_assoc]; rfl]
          rw [lenn] at s1
          exact s1
        · rw [hR, show L ++ T at_ :: rnL T n sk ek sel (ltL 6 w) (N - k2) k2 (at_ + 1) = L ++ [T at_] ++ rnL T n sk ek sel (ltL 6 w) (N - k2) k2 (at_ + 1) by rw [List.append_assoc]; rfl]
          exact s2
    · have : at_ = n := by omega
      subst this
      have := hend k k1 L r (M + (f + 1)) hk1 h5 hX hL
      exact this
