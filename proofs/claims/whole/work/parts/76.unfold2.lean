/-! inline: the model's text, whole -/
def U67 (N D : Nat) (sk ek : Nat → Nat) (sel : Nat → Bool) (r : RS) : Prop := ∀ q, q < N → r.1 6 q = Int32.ofNat (sk q) ∧ sk q < 240 ∧ r.1 7 q = Int32.ofNat (ek q) ∧ ek q ≤ 240 ∧ ((r.1 9 q = 5 ∧ r.1 10 q = Int32.ofNat D) ↔ sel q = true)
theorem U67.fr {N D : Nat} {sk ek : Nat → Nat} {sel : Nat → Bool} {r r' : RS} (h : U67 N D sk ek sel r) (hf : Fr4 r r') : U67 N D sk ek sel r' := by
  intro q hq
  rw [hf.1 6 (by decide), hf.1 7 (by decide), hf.1 9 (by decide), hf.1 10 (by decide)]
  exact h q hq
theorem TxM.f4 {T : Nat → Nat} {n : Nat} {r r' : RS} (h : TxM T n r) (hf : Fr4 r r') : TxM T n r' := by
  obtain ⟨x1, x2, x3, x4⟩ := h
  exact ⟨by rw [hf.2]; exact x1, x2, fun i hi => by rw [hf.1 2 (by decide)]; exact x3 i hi, by rw [hf.2]; exact x4⟩
section
variable {T : Nat → Nat} {n N D s : Nat} {sk ek : Nat → Nat} {sel : Nat → Bool}
theorem unf_un {k at_ : Nat} {ln : Int32} {r : RS} {M f : Nat} (hX : TxM T n r) (hat : at_ < n) : lpN BMo_unfold_9 (M + (f + 1) + 1) (Int32.ofNat D, Int32.ofNat (D + 2), Int32.ofNat s, ln, Int32.ofNat k, Int32.ofNat at_, r) = lpN (BMo_unfold_18 (lpN BMo_unfold_9 (M + f + 1))) 100000 (Int32.ofNat D, Int32.ofNat (D + 2), Int32.ofNat s, ln, Int32.ofNat k, Int32.ofNat at_, r) := by
  rw [show M + (f + 1) + 1 = (M + f + 1) + 1 by omega, lp_succ]
  have hn := hX.2.1
  have hun : ∀ K, BMo_unfold_9 K (Int32.ofNat D, Int32.ofNat (D + 2), Int32.ofNat s, ln, Int32.ofNat k, Int32.ofNat at_, r) = lpN (BMo_unfold_18 K) 100000 (Int32.ofNat D, Int32.ofNat (D + 2), Int32.ofNat s, ln, Int32.ofNat k, Int32.ofNat at_, r) := by
    intro K
    unfold BMo_unfold_9
    dsimp only
    rw [hX.1, if_neg (by rw [o_le (by omega) (by omega)]; omega)]
  exact hun _
theorem u9 (hN : N ≤ 240) (hS : TS sk ek N) (hen : ∀ q, q < N → ek q ≤ n) (hD : 0 < D) (hDs : D + 3 ≤ s) (hs : s < N) : ∀ (f at_ k k1 : Nat) (L : List Nat) (r : RS) (M : Nat), n - at_ ≤ f → at_ ≤ n → k ≤ k1 → k1 ≤ N → D ≤ k1 → (∀ q, k ≤ q → q < k1 → ek q ≤ at_) → (∀ q, k1 ≤ q → q < N → sel q = true → at_ ≤ sk q) → TxM T n r → r.2.1 3 = Int32.ofNat N → U67 N D sk ek sel r → NL r L → L.length + (rnL T n sk ek sel (wrL T (sk (D + 2)) (ek (s - 1))) (N - k1) k1 at_).length ≤ 240 → ∃ r' : RS, lpN BMo_unfold_9 (M + f + 1) (Int32.ofNat D, Int32.ofNat (D + 2), Int32.ofNat s, Int32.ofNat L.length, Int32.ofNat k, Int32.ofNat at_, r) = f_Mo_becomeFresh (Int32.ofNat (L ++ rnL T n sk ek sel (wrL T (sk (D + 2)) (ek (s - 1))) (N - k1) k1 at_).length) r' ∧ NL r' (L ++ rnL T n sk ek sel (wrL T (sk (D + 2)) (ek (s - 1))) (N - k1) k1 at_) ∧ Fr4 r r' := by
  intro f
  have hee : sk (D + 2) ≤ ek (s - 1) := by
    have h1 := (hS.1 (s - 1) (by omega)).1
    by_cases h : D + 2 = s - 1
    · rw [h]; omega
    · have h2 := hS.lt (show D + 2 < s - 1 by omega) (show s - 1 < N by omega)
      have := h2.2
      omega
  have hend : ∀ (k k1 : Nat) (L : List Nat) (r : RS) (M : Nat), k1 ≤ N → (∀ q, k1 ≤ q → q < N → sel q = true → n ≤ sk q) → TxM T n r → NL r L → ∃ r' : RS, lpN BMo_unfold_9 (M + 1) (Int32.ofNat D, Int32.ofNat (D + 2), Int32.ofNat s, Int32.ofNat L.length, Int32.ofNat k, Int32.ofNat n, r) = f_Mo_becomeFresh (Int32.ofNat (L ++ rnL T n sk ek sel (wrL T (sk (D + 2)) (ek (s - 1))) (N - k1) k1 n).length) r' ∧ NL r' (L ++ rnL T n sk ek sel (wrL T (sk (D + 2)) (ek (s - 1))) (N - k1) k1 n) ∧ Fr4 r r' := by
    intro k k1 L r M hk1 h5 hX hL
    have hR : rnL T n sk ek sel (wrL T (sk (D + 2)) (ek (s - 1))) (N - k1) k1 n = [] := by
      rw [rn_no (N - k1) k1 n (fun q q1 q2 => by
        cases hs : sel q with
        | false => rfl
        | true =>
          have h6 := h5 q q1 (by omega) hs
          have h7 := (hS.1 q (by omega)).1
          have h8 := hen q (by omega)
          omega), Nat.sub_self]
      rfl
    rw [hR, List.append_nil]
    refine ⟨r, ?_, hL, Fr4.rf⟩
    rw [lp_succ]
    unfold BMo_unfold_9
    dsimp only
    rw [hX.1, if_pos (by rw [i_le]; omega)]
    cases f_Mo_becomeFresh (Int32.ofNat L.length) r <;> rfl
  induction f with
  | zero =>
    intro at_ k k1 L r M h1 h2 hk hk1 hDk h4 h5 hX h3 h67 hL hl
    have : at_ = n := by omega
    subst this
    exact hend k k1 L r M hk1 h5 hX hL
  | succ f ih =>
    intro at_ k k1 L r M h1 h2 hk hk1 hDk h4 h5 hX h3 h67 hL hl
    by_cases hat : at_ < n
    · obtain ⟨k2, k18, g1, g2, g3, g4, g5⟩ := u18 (L := L) (K := lpN BMo_unfold_9 (M + f + 1)) hX hN h3 h67 hat (by omega) hD (show D + 2 < N by omega) hs (N - k) k (99999 - (N - k)) rfl (by omega)
      rw [show 99999 - (N - k) + (N - k) + 1 = 100000 by omega] at g5
      have hk12 : k1 ≤ k2 := by
        by_cases h : k1 ≤ k2
        · exact h
        · have := h4 k2 g1 (by omega)
          have := g4 (by omega)
          omega
      have hsk := rn_skip (T := T) (n := n) (sel := sel) (W := wrL T (sk (D + 2)) (ek (s - 1))) (at_ := at_) hS (k2 - k1) k1 (by omega) h5 (fun q q1 q2 => g3 q (by omega) (by omega))
      rw [show k1 + (k2 - k1) = k2 by omega] at hsk
      rw [hsk] at hl ⊢
      have h5' : ∀ q, k2 ≤ q → q < N → sel q = true → at_ ≤ sk q := fun q q1 => h5 q (by omega)
      rw [unf_un hX hat, g5, if_neg (show ¬ (k2 = D - 1 ∧ sk k2 = at_) from fun h => by omega)]
      by_cases hit : k2 < N ∧ sk k2 = at_ ∧ sel k2 = true
      · rw [if_pos hit]
        have hR : rnL T n sk ek sel (wrL T (sk (D + 2)) (ek (s - 1))) (N - k2) k2 at_ = wrL T (sk (D + 2)) (ek (s - 1)) ++ rnL T n sk ek sel (wrL T (sk (D + 2)) (ek (s - 1))) (N - (k2 + 1)) (k2 + 1) (ek k2) := by
          rw [show N - k2 = (N - (k2 + 1)) + 1 by omega]
          show (if sel k2 then piece T at_ (sk k2 - at_) ++ wrL T (sk (D + 2)) (ek (s - 1)) ++ rnL T n sk ek sel (wrL T (sk (D + 2)) (ek (s - 1))) (N - (k2 + 1)) (k2 + 1) (ek k2) else _) = _
          rw [hit.2.2, if_pos rfl, hit.2.1, Nat.sub_self]
          rfl
        rw [hR, List.length_append] at hl
        have hwl := wr_len (T := T) (e0 := sk (D + 2)) (e1 := ek (s - 1))
        rw [if_pos (o_inb (by omega) (by omega))]
        obtain ⟨a0, a0'⟩ := hL.add (c := 40)
        have a0 : NL (va_up r.1 4 (upd (r.1 4) L.length 40), r.2.1, r.2.2) (L ++ [40]) := a0
        have a0' : Fr4 r (va_up r.1 4 (upd (r.1 4) L.length 40), r.2.1, r.2.2) := a0'
        have h7s := (h67 (s - 1) (by omega)).2.2.1
        obtain ⟨r1, a1, a2, a3⟩ := u139 (T := T) (n := n) (D := D) (s := s) (k2 := k2) (ek := ek) (at_ := Int32.ofNat at_) (L := L) (K := lpN BMo_unfold_9 (M + f + 1)) (k18 := k18) (by omega) (by omega) (by omega) (hen (s - 1) (by omega)) hX.2.1 (by omega) (ek (s - 1) - sk (D + 2)) (sk (D + 2)) (va_up r.1 4 (upd (r.1 4) L.length 40), r.2.1, r.2.2) (99999 - (ek (s - 1) - sk (D + 2))) rfl (Nat.le_refl _) hee hX h7s (h67 k2 hit.1).2.2.1 (by rw [Nat.sub_self]; show NL _ (L ++ [40] ++ []); rw [List.append_nil]; exact a0)
        have hb := hen (s - 1) (by omega)
        have hn := hX.2.1
        rw [show 99999 - (ek (s - 1) - sk (D + 2)) + (ek (s - 1) - sk (D + 2)) + 1 = 100000 by omega, Nat.sub_self, Nat.add_zero] at a1
        rw [a1]
        have a3' := a0'.tr a3
        have hat2 := g4 hit.1
        obtain ⟨r', s1, s2, s3⟩ := ih (ek k2) k2 (k2 + 1) (L ++ wrL T (sk (D + 2)) (ek (s - 1))) r1 M (by omega) (hen k2 hit.1) (by omega) (by omega) (by omega) (fun q q1 q2 => by rw [show q = k2 by omega]; exact Nat.le_refl _) (fun q q1 q2 _ => (hS.lt (show k2 < q by omega) q2).1) (hX.f4 a3') (by rw [a3'.2]; exact h3) (h67.fr a3') a2 (by rw [List.length_append]; omega)
        refine ⟨r', ?_, ?_, a3'.tr s3⟩
        · rw [hR, ← List.append_assoc L (wrL T (sk (D + 2)) (ek (s - 1)))]
          exact s1
        · rw [hR, ← List.append_assoc L (wrL T (sk (D + 2)) (ek (s - 1)))]; exact s2
      · rw [if_neg hit]
        have h5n : ∀ q, k2 ≤ q → q < N → sel q = true → at_ < sk q := fun q q1 q2 q3 => by
          have h6 := h5' q q1 q2 q3
          by_cases hq : q = k2
          · subst hq
            have : sk q ≠ at_ := fun h => hit ⟨q2, h, q3⟩
            omega
          · have := (hS.lt (show k2 < q by omega) q2).1
            have := g4 (by omega)
            omega
        have hR := rn_step (T := T) (n := n) (sk := sk) (ek := ek) (sel := sel) (W := wrL T (sk (D + 2)) (ek (s - 1))) (N - k2) k2 at_ hat (fun q q1 q2 => h5n q q1 (by omega))
        rw [hR, List.length_cons] at hl
        rw [if_pos (o_inb (by omega) (by omega))]
        obtain ⟨n1, n2⟩ := hL.add (c := T at_)
        obtain ⟨r', s1, s2, s3⟩ := ih (at_ + 1) k2 k2 (L ++ [T at_]) (va_up r.1 4 (upd (r.1 4) L.length (Int32.ofNat (T at_))), r.2.1, r.2.2) M (by omega) (by omega) (Nat.le_refl _) g2 (by omega) (fun q q1 q2 => by omega) (fun q q1 q2 q3 => h5n q q1 q2 q3) hX h3 h67 n1 (by rw [lenn]; omega)
        refine ⟨r', ?_, ?_, n2.tr s3⟩
        · rw [hR, show L ++ T at_ :: rnL T n sk ek sel (wrL T (sk (D + 2)) (ek (s - 1))) (N - k2) k2 (at_ + 1) = L ++ [T at_] ++ rnL T n sk ek sel (wrL T (sk (D + 2)) (ek (s - 1))) (N - k2) k2 (at_ + 1) by rw [List.append_assoc]; rfl]
          rw [lenn] at s1
          exact s1
        · rw [hR, show L ++ T at_ :: rnL T n sk ek sel (wrL T (sk (D + 2)) (ek (s - 1))) (N - k2) k2 (at_ + 1) = L ++ [T at_] ++ rnL T n sk ek sel (wrL T (sk (D + 2)) (ek (s - 1))) (N - k2) k2 (at_ + 1) by rw [List.append_assoc]; rfl]
          exact s2
    · have : at_ = n := by omega
      subst this
      have := hend k k1 L r (M + (f + 1)) hk1 h5 hX hL
      exact this
/-- The let left out, its uses replaced. -/
abbrev inL (T : Nat → Nat) (n N D s : Nat) (sk ek : Nat → Nat) (sel : Nat → Bool) : List Nat := piece T 0 (sk (D - 1)) ++ rnL T n sk ek sel (wrL T (sk (D + 2)) (ek (s - 1))) (N - (s + 1)) (s + 1) (ek s)
theorem unfM (hN : N ≤ 240) (hS : TS sk ek N) (hen : ∀ q, q < N → ek q ≤ n) (hD : 0 < D) (hDs : D + 3 ≤ s) (hs : s < N) (hsel : ∀ q, q < N → sel q = true → s < q) {r : RS} (hX : TxM T n r) (h3 : r.2.1 3 = Int32.ofNat N) (h67 : U67 N D sk ek sel r) (hl : (inL T n N D s sk ek sel).length ≤ 240) : ∃ r' : RS, f_Mo_unfold (Int32.ofNat D) (Int32.ofNat (D + 2)) (Int32.ofNat s) r = f_Mo_becomeFresh (Int32.ofNat (inL T n N D s sk ek sel).length) r' ∧ NL r' (inL T n N D s sk ek sel) ∧ Fr4 r r' := by
  have hn := hX.2.1
  have hsn := hen s hs
  have hd1 := hS.1 (D - 1) (by omega)
  have hdn := hen (D - 1) (by omega)
  rw [List.length_append, piece_len] at hl
  have ph1 : ∀ (z at_ k : Nat) (r1 : RS) (M : Nat), sk (D - 1) - at_ = z → at_ ≤ sk (D - 1) → k ≤ D - 1 → TxM T n r1 → r1.2.1 3 = Int32.ofNat N → U67 N D sk ek sel r1 → NL r1 (piece T 0 at_) → Fr4 r r1 → ∃ r' : RS, lpN BMo_unfold_9 (M + (n + 1) + z + 1) (Int32.ofNat D, Int32.ofNat (D + 2), Int32.ofNat s, Int32.ofNat at_, Int32.ofNat k, Int32.ofNat at_, r1) = f_Mo_becomeFresh (Int32.ofNat (inL T n N D s sk ek sel).length) r' ∧ NL r' (inL T n N D s sk ek sel) ∧ Fr4 r r' := by
    intro z
    induction z with
    | zero =>
      intro at_ k r1 M y1 y2 y3 hX1 h31 h671 hL hF
      have hat : at_ = sk (D - 1) := by omega
      obtain ⟨k2, k18, g1, g2, g3, g4, g5⟩ := u18 (L := piece T 0 at_) (K := lpN BMo_unfold_9 (M + n + 1)) hX1 hN h31 h671 (show at_ < n by omega) (by rw [piece_len]; omega) hD (show D + 2 < N by omega) hs (N - k) k (99999 - (N - k)) rfl (by omega)
      rw [show 99999 - (N - k) + (N - k) + 1 = 100000 by omega, piece_len] at g5
      have hk2 : k2 = D - 1 := by
        rcases Nat.lt_trichotomy k2 (D - 1) with w | w | w
        · have := g4 (by omega)
          have := (hS.lt (show k2 < D - 1 from w) (by omega)).1
          omega
        · exact w
        · have := g3 (D - 1) y3 w
          omega
      rw [Nat.add_zero, unf_un hX1 (by omega), g5, if_pos ⟨hk2, by rw [hk2]; exact hat.symm⟩, hk2]
      have hpl : (piece T 0 (sk (D - 1))).length = sk (D - 1) := piece_len ..
      rw [hat] at hL ⊢
      obtain ⟨r', s1, s2, s3⟩ := u9 (T := T) (sel := sel) hN hS hen hD hDs hs n (ek s) (D - 1) (s + 1) (piece T 0 (sk (D - 1))) r1 M (by omega) hsn (by omega) (by omega) (by omega) (fun q q1 q2 => by
        by_cases hq : q = s
        · rw [hq]; exact Nat.le_refl _
        · have h6 := hS.lt (show q < s by omega) hs
          have := (hS.1 s hs).1
          omega) (fun q q1 q2 _ => (hS.lt (show s < q by omega) q2).1) hX1 h31 h671 hL (by rw [hpl]; exact hl)
      rw [hpl] at s1
      exact ⟨r', s1, s2, hF.tr s3⟩
    | succ z ih =>
      intro at_ k r1 M y1 y2 y3 hX1 h31 h671 hL hF
      obtain ⟨k2, k18, g1, g2, g3, g4, g5⟩ := u18 (L := piece T 0 at_) (K := lpN BMo_unfold_9 (M + (n + 1) + z + 1)) hX1 hN h31 h671 (show at_ < n by omega) (by rw [piece_len]; omega) hD (show D + 2 < N by omega) hs (N - k) k (99999 - (N - k)) rfl (by omega)
      rw [show 99999 - (N - k) + (N - k) + 1 = 100000 by omega, piece_len] at g5
      have hk2 : k2 ≤ D - 1 := by
        by_cases h : k2 ≤ D - 1
        · exact h
        · have := g3 (D - 1) y3 (by omega)
          omega
      rw [show M + (n + 1) + (z + 1) + 1 = (M + (n + 1) + (z + 1)) + 1 from rfl, show M + (n + 1) + (z + 1) = (M + (n + 1)) + (z + 1) from rfl, unf_un hX1 (by omega), g5, if_neg (show ¬ (k2 = D - 1 ∧ sk k2 = at_) from fun h => by rw [h.1] at h; omega), if_neg (show ¬ (k2 < N ∧ sk k2 = at_ ∧ sel k2 = true) from fun h => by have := hsel k2 h.1 h.2.2; omega), if_pos (o_inb (by omega) (by omega))]
      obtain ⟨n1, n2⟩ := hL.add (c := T at_)
      rw [piece_len] at n1 n2
      have hp : piece T 0 at_ ++ [T at_] = piece T 0 (at_ + 1) := by
        show _ = piece T 0 at_ ++ [T (0 + at_)]
        rw [Nat.zero_add]
      rw [hp] at n1
      exact ih (at_ + 1) k2 _ M (by omega) (by omega) hk2 (hX1.f4 n2) h31 (h671.fr n2) n1 (hF.tr n2)
  have hsk : sk (D - 1) ≤ 240 := by omega
  have := ph1 (sk (D - 1)) 0 0 r (99998 - n - sk (D - 1)) rfl (Nat.zero_le _) (Nat.zero_le _) hX h3 h67 (fun i hi => absurd hi (Nat.not_lt_zero _)) Fr4.rf
  rw [show 99998 - n - sk (D - 1) + (n + 1) + sk (D - 1) + 1 = 100000 by omega] at this
  exact this
end
