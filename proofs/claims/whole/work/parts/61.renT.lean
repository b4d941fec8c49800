/-! the text with a name changed everywhere -/
def rnL (T : Nat → Nat) (n : Nat) (sk ek : Nat → Nat) (sel : Nat → Bool) (W : List Nat) : Nat → Nat → Nat → List Nat
  | 0, _, place => piece T place (n - place)
  | z + 1, k, place => if sel k then piece T place (sk k - place) ++ W ++ rnL T n sk ek sel W z (k + 1) (ek k) else rnL T n sk ek sel W z (k + 1) place
theorem piece_cons (T : Nat → Nat) (a : Nat) : ∀ m, piece T a (m + 1) = T a :: piece T (a + 1) m
  | 0 => rfl
  | m + 1 => by
    show piece T a (m + 1) ++ [T (a + (m + 1))] = T a :: (piece T (a + 1) m ++ [T (a + 1 + m)])
    rw [piece_cons T a m, show a + (m + 1) = a + 1 + m by omega]; rfl
theorem rn_step {T : Nat → Nat} {n : Nat} {sk ek : Nat → Nat} {sel : Nat → Bool} {W : List Nat} : ∀ (z k at_ : Nat), at_ < n → (∀ q, k ≤ q → q < k + z → sel q = true → at_ < sk q) → rnL T n sk ek sel W z k at_ = T at_ :: rnL T n sk ek sel W z k (at_ + 1)
  | 0, k, at_, h1, _ => by
    show piece T at_ (n - at_) = T at_ :: piece T (at_ + 1) (n - (at_ + 1))
    rw [show n - at_ = (n - (at_ + 1)) + 1 by omega]
    exact piece_cons T at_ _
  | z + 1, k, at_, h1, h2 => by
    show (if sel k then piece T at_ (sk k - at_) ++ W ++ rnL T n sk ek sel W z (k + 1) (ek k) else rnL T n sk ek sel W z (k + 1) at_) = T at_ :: (if sel k then piece T (at_ + 1) (sk k - (at_ + 1)) ++ W ++ rnL T n sk ek sel W z (k + 1) (ek k) else rnL T n sk ek sel W z (k + 1) (at_ + 1))
    cases hs : sel k with
    | true =>
      have := h2 k (Nat.le_refl _) (by omega) hs
      rw [if_pos rfl, if_pos rfl, show sk k - at_ = (sk k - (at_ + 1)) + 1 by omega, piece_cons]; rfl
    | false =>
      simp only [Bool.false_eq_true, ↓reduceIte]
      exact rn_step z (k + 1) at_ h1 (fun q q1 q2 => h2 q (by omega) (by omega))
theorem rn_len {T : Nat → Nat} {n : Nat} {sk ek : Nat → Nat} {sel : Nat → Bool} {W : List Nat} : ∀ (z k place : Nat), n - place ≤ (rnL T n sk ek sel W z k place).length + 240 ∨ True
  | _, _, _ => Or.inr trivial
theorem crD {T : Nat → Nat} {n N w D : Nat} {sk ek : Nat → Nat} {sel : Nat → Bool} {d b : DS} (hX : TxD T n d) (hS : TS sk ek N) (hN : N ≤ 240) (hen : ∀ q, q < N → ek q ≤ n) (h4 : d.2 4 = Int32.ofNat N) (h67 : ∀ q, q < N → d.1 6 q = Int32.ofNat (sk q) ∧ d.1 7 q = Int32.ofNat (ek q) ∧ (d.1 14 q = Int32.ofNat D ↔ sel q = true)) (hw : w < 1073741824) (ho : okW 6 w) : ∀ (z k place : Nat) (b1 : DS) (L1 : List Nat) (M : Nat), N - k = z → k ≤ N → place ≤ n → (∀ q, k ≤ q → q < N → place ≤ sk q) → TL b1 L1 → FrX b b1 → L1.length + (rnL T n sk ek sel (ltL 6 w) z k place).length ≤ 240 → ∃ b', lpN BDr_copyRenamed_19 (M + z + 1) (Int32.ofNat D, Int32.ofNat w, Int32.ofNat place, Int32.ofNat k, b1, d) = some (b', d) ∧ TL b' (L1 ++ rnL T n sk ek sel (ltL 6 w) z k place) ∧ FrX b b' := by
  intro z
  have hn := hX.2.1
  induction z with
  | zero =>
    intro k place b1 L1 M h1 h2 h3 h5 hL hf hlen
    have : k = N := by omega
    subst this
    have hlen' : L1.length + (piece T place (n - place)).length ≤ 240 := hlen
    rw [piece_len] at hlen'
    obtain ⟨b', g1, g2, g3⟩ := addPieceD hX hL h3 (Nat.le_refl n) hlen'
    refine ⟨b', ?_, g2, hf.tr g3⟩
    rw [Nat.add_zero, lp_succ]
    unfold BDr_copyRenamed_19
    dsimp only
    rw [h4, if_pos (by rw [i_le]; omega), hX.1, g1, Option.bind_some]
  | succ z ih =>
    intro k place b1 L1 M h1 h2 h3 h5 hL hf hlen
    obtain ⟨e6, e7, e14⟩ := h67 k (by omega)
    have hsk := hS.1 k (by omega)
    have hke := hen k (by omega)
    have hdef : rnL T n sk ek sel (ltL 6 w) (z + 1) k place = if sel k then piece T place (sk k - place) ++ ltL 6 w ++ rnL T n sk ek sel (ltL 6 w) z (k + 1) (ek k) else rnL T n sk ek sel (ltL 6 w) z (k + 1) place := rfl
    have hle : ¬ Int32.ofNat N ≤ Int32.ofNat k := by rw [o_le (by omega) (by omega)]; omega
    rw [show M + (z + 1) + 1 = (M + z + 1) + 1 by omega, lp_succ]
    unfold BDr_copyRenamed_19
    simp only [h4, hle, ↓reduceIte, o_inb (show k < 240 by omega) (show k < 2147483648 by omega), o_nat (show k < 2147483648 by omega), e6, e7, o_p1]
    cases hs : sel k with
    | true =>
      rw [hs, if_pos rfl] at hdef
      rw [hdef, List.length_append, List.length_append, piece_len] at hlen
      rw [if_pos (e14.mpr hs)]
      obtain ⟨b2, g1, g2, g3⟩ := addPieceD hX hL (h5 k (Nat.le_refl _) (by omega)) (show sk k ≤ n by omega) (by omega)
      obtain ⟨b3, k1, k2, k3⟩ := addNameD g2 hw ho (by rw [List.length_append, piece_len]; omega)
      rw [g1, Option.bind_some, k1, Option.bind_some]
      dsimp only
      rw [e7]
      obtain ⟨b', r1, r2, r3⟩ := ih (k + 1) (ek k) b3 (L1 ++ piece T place (sk k - place) ++ ltL 6 w) M (by omega) (by omega) hke (fun q q1 q2 => (hS.lt (show k < q by omega) q2).1) k2 ((hf.tr g3).tr k3) (by rw [List.length_append, List.length_append, piece_len]; omega)
      refine ⟨b', r1, ?_, r3⟩
      rw [hdef]
      simp only [List.append_assoc] at r2 ⊢
      exact r2
    | false =>
      rw [hs] at hdef
      simp only [Bool.false_eq_true, ↓reduceIte] at hdef
      rw [hdef] at hlen
      rw [if_neg (fun h => by rw [e14.mp h] at hs; exact absurd hs (by decide)), hdef]
      exact ih (k + 1) place b1 L1 M (by omega) (by omega) h3 (fun q q1 q2 => h5 q (by omega) q2) hL hf hlen
/-- The model's new text, as far as it is written. -/
def NL (r : RS) (L : List Nat) : Prop := ∀ i, i < L.length → r.1 4 i = Int32.ofNat (L.getD i 0)
def Fr4 (r r' : RS) : Prop := (∀ i, i ≠ 4 → r'.1 i = r.1 i) ∧ r'.2 = r.2
theorem Fr4.rf {r : RS} : Fr4 r r := ⟨fun _ _ => rfl, rfl⟩
theorem Fr4.tr {r r' r2 : RS} (h : Fr4 r r') (h2 : Fr4 r' r2) : Fr4 r r2 := ⟨fun i a => (h2.1 i a).trans (h.1 i a), h2.2.trans h.2⟩
theorem NL.add {r : RS} {L : List Nat} {c : Nat} (h : NL r L) : NL (va_up r.1 4 (upd (r.1 4) L.length (Int32.ofNat c)), r.2.1, r.2.2) (L ++ [c]) ∧ Fr4 r (va_up r.1 4 (upd (r.1 4) L.length (Int32.ofNat c)), r.2.1, r.2.2) := by
  refine ⟨fun i hi => ?_, fun i hi => up_ne hi, rfl⟩
  rw [lenn] at hi
  show upd (r.1 4) L.length (Int32.ofNat c) i = _
  by_cases hi2 : i < L.length
  · rw [ud_ne (by omega), gn_old hi2]; exact h i hi2
  · have : i = L.length := by omega
    subst this
    rw [ud_eq, gn_new]
/-- A word's letters one by one. -/
def lt1 (w j : Nat) : Nat := 96 + w / 32 ^ j % 32
theorem ltL_len {f w : Nat} : (ltL f w).length ≤ f := by
  induction f generalizing w with
  | zero => exact Nat.le_refl _
  | succ f ih =>
    unfold ltL
    split
    · exact Nat.zero_le _
    · rw [List.length_cons]
      have := ih (w := w / 32)
      omega
theorem ltL_get : ∀ (f w j : Nat), j < (ltL f w).length → (ltL f w).getD j 0 = lt1 w j
  | 0, _, _, h => absurd h (Nat.not_lt_zero _)
  | f + 1, w, j, h => by
    unfold ltL at h ⊢
    split at h
    · exact absurd h (Nat.not_lt_zero _)
    · rename_i h0
      rw [if_neg h0]
      cases j with
      | zero =>
        show 96 + w % 32 = 96 + w / 32 ^ 0 % 32
        rw [Nat.pow_zero, Nat.div_one]
      | succ j =>
        rw [List.length_cons] at h
        show (ltL f (w / 32)).getD j 0 = _
        rw [ltL_get f (w / 32) j (by omega)]
        unfold lt1
        rw [Nat.div_div_eq_div_mul, Nat.pow_succ, Nat.mul_comm 32]
theorem take_ex {l : List Nat} {j : Nat} (h : j < l.length) : l.take (j + 1) = l.take j ++ [l.getD j 0] := by
  rw [List.take_succ, List.getD_eq_getElem?_getD, List.getElem?_eq_getElem h]; rfl
