/-! inline: the text, by the desk; counts -/
abbrev wrL (T : Nat → Nat) (e0 e1 : Nat) : List Nat := [40] ++ piece T e0 (e1 - e0) ++ [41]
theorem wr_len {T : Nat → Nat} {e0 e1 : Nat} : (wrL T e0 e1).length = e1 - e0 + 2 := by
  rw [List.length_append, List.length_append, piece_len]
  show 1 + (e1 - e0) + 1 = _
  omega
theorem ciD {T : Nat → Nat} {n N D e0 e1 s0 : Nat} {sk ek : Nat → Nat} {sel : Nat → Bool} {d b : DS} {sm : Int32} (hX : TxD T n d) (hS : TS sk ek N) (hN : N ≤ 240) (hen : ∀ q, q < N → ek q ≤ n) (h4 : d.2 4 = Int32.ofNat N) (h67 : ∀ q, s0 ≤ q → q < N → d.1 6 q = Int32.ofNat (sk q) ∧ d.1 7 q = Int32.ofNat (ek q) ∧ (d.1 14 q = Int32.ofNat D ↔ sel q = true)) (he : e0 ≤ e1) (he1 : e1 ≤ n) : ∀ (z k place : Nat) (b1 : DS) (L1 : List Nat) (M : Nat), N - k = z → k ≤ N → s0 ≤ k → place ≤ n → (∀ q, k ≤ q → q < N → sel q = true → place ≤ sk q) → TL b1 L1 → FrX b b1 → L1.length + (rnL T n sk ek sel (wrL T e0 e1) z k place).length ≤ 240 → ∃ b', lpN BDr_copyInlined_90 (M + z + 1) (Int32.ofNat D, sm, Int32.ofNat e0, Int32.ofNat e1, Int32.ofNat place, Int32.ofNat k, b1, d) = some (b', d) ∧ TL b' (L1 ++ rnL T n sk ek sel (wrL T e0 e1) z k place) ∧ FrX b b' := by
  intro z
  have hn := hX.2.1
  induction z with
  | zero =>
    intro k place b1 L1 M h1 h2 hs0 h3 h5 hL hf hlen
    have : k = N := by omega
    subst this
    have hlen' : L1.length + (piece T place (n - place)).length ≤ 240 := hlen
    rw [piece_len] at hlen'
    obtain ⟨b', g1, g2, g3⟩ := addPieceD hX hL h3 (Nat.le_refl n) hlen'
    refine ⟨b', ?_, g2, hf.tr g3⟩
    rw [Nat.add_zero, lp_succ]
    unfold BDr_copyInlined_90
    dsimp only
    rw [h4, if_pos (by rw [i_le]; omega), hX.1, g1, Option.bind_some]
  | succ z ih =>
    intro k place b1 L1 M h1 h2 hs0 h3 h5 hL hf hlen
    obtain ⟨e6, e7, e14⟩ := h67 k hs0 (by omega)
    have hsk := hS.1 k (by omega)
    have hke := hen k (by omega)
    have hdef : rnL T n sk ek sel (wrL T e0 e1) (z + 1) k place = if sel k then piece T place (sk k - place) ++ wrL T e0 e1 ++ rnL T n sk ek sel (wrL T e0 e1) z (k + 1) (ek k) else rnL T n sk ek sel (wrL T e0 e1) z (k + 1) place := rfl
    have hle : ¬ Int32.ofNat N ≤ Int32.ofNat k := by rw [o_le (by omega) (by omega)]; omega
    rw [show M + (z + 1) + 1 = (M + z + 1) + 1 by omega, lp_succ]
    unfold BDr_copyInlined_90
    simp only [h4, hle, ↓reduceIte, o_inb (show k < 240 by omega) (show k < 2147483648 by omega), o_nat (show k < 2147483648 by omega), e6, e7, o_p1, bindv]
    cases hs : sel k with
    | true =>
      rw [hs, if_pos rfl] at hdef
      rw [hdef, List.length_append, List.length_append, piece_len, wr_len] at hlen
      rw [if_pos (e14.mpr hs)]
      have hp := h5 k (Nat.le_refl _) (by omega) hs
      obtain ⟨b2, g1, g2, g3⟩ := addPieceD hX hL hp (show sk k ≤ n by omega) (by omega)
      obtain ⟨b3, k1, k2, k3⟩ := g2.add (c := 40) (by rw [List.length_append, piece_len]; omega) (by omega)
      obtain ⟨b4, m1, m2, m3⟩ := addPieceD hX k2 he he1 (by rw [List.length_append, List.length_append, piece_len]; show L1.length + (sk k - place) + 1 + (e1 - e0) ≤ 240; omega)
      obtain ⟨b5, n1, n2, n3⟩ := m2.add (c := 41) (by rw [List.length_append, List.length_append, List.length_append, piece_len, piece_len]; show L1.length + (sk k - place) + 1 + (e1 - e0) < 240; omega) (by omega)
      have k1' : f_Te_add 40 b2 = some b3 := k1
      have n1' : f_Te_add 41 b4 = some b5 := n1
      rw [g1, Option.bind_some]
      dsimp only
      rw [k1', Option.bind_some, m1, Option.bind_some]
      dsimp only
      rw [n1', Option.bind_some, e7]
      have hl5 : L1 ++ piece T place (sk k - place) ++ [40] ++ piece T e0 (e1 - e0) ++ [41] = L1 ++ piece T place (sk k - place) ++ wrL T e0 e1 := by
        simp only [List.append_assoc]
      rw [hl5] at n2
      obtain ⟨b', r1, r2, r3⟩ := ih (k + 1) (ek k) b5 (L1 ++ piece T place (sk k - place) ++ wrL T e0 e1) M (by omega) (by omega) (by omega) hke (fun q q1 q2 _ => (hS.lt (show k < q by omega) q2).1) n2 ((((hf.tr g3).tr k3).tr m3).tr n3) (by rw [List.length_append, List.length_append, piece_len, wr_len]; omega)
      refine ⟨b', r1, ?_, r3⟩
      rw [hdef]
      simp only [List.append_assoc] at r2 ⊢
      exact r2
    | false =>
      rw [hs] at hdef
      simp only [Bool.false_eq_true, ↓reduceIte] at hdef
      rw [hdef] at hlen
      rw [if_neg (fun h => by rw [e14.mp h] at hs; exact absurd hs (by decide)), hdef]
      exact ih (k + 1) place b1 L1 M (by omega) (by omega) (by omega) h3 (fun q q1 q2 => h5 q (by omega) q2) hL hf hlen
/-- One more than without D. -/
theorem cnt_D {sa sel : Nat → Bool} {D : Nat} (h : ∀ q, sa q = true ↔ sel q = true ∨ q = D) (hD : sel D = false) : ∀ k, cnt sa k = cnt sel k + (if D < k then 1 else 0)
  | 0 => rfl
  | k + 1 => by
    show cnt sa k + (if sa k then 1 else 0) = cnt sel k + (if sel k then 1 else 0) + (if D < k + 1 then 1 else 0)
    rw [cnt_D h hD k]
    by_cases hk : k = D
    · subst hk
      rw [hD, (h k).mpr (Or.inr rfl), if_neg (Nat.lt_irrefl k), if_pos (Nat.lt_succ_self k)]
      simp
    · have hs : sa k = sel k := by
        cases hs : sel k with
        | true => exact (h k).mpr (Or.inl hs)
        | false =>
          cases ha : sa k with
          | false => rfl
          | true =>
            rcases (h k).mp ha with w | w
            · rw [hs] at w; exact absurd w (by decide)
            · exact absurd w hk
      rw [hs]
      by_cases hlt : D < k
      · rw [if_pos hlt, if_pos (show D < k + 1 by omega)]; omega
      · rw [if_neg hlt, if_neg (show ¬ D < k + 1 by omega)]; omega
theorem cnt_0 {sel : Nat → Bool} : ∀ k, (∀ q, q < k → sel q = false) → cnt sel k = 0
  | 0, _ => rfl
  | k + 1, h => by
    show cnt sel k + (if sel k then 1 else 0) = 0
    rw [cnt_0 k (fun q hq => h q (by omega)), h k (by omega)]; rfl
theorem szI {N D wl dl n : Nat} {z0 : Int} {sk ek : Nat → Nat} {sel : Nat → Bool} {r : RS} {a1 a2 a3 : Int32} (hN : N ≤ 240) (hz0 : -1000 ≤ z0 ∧ z0 ≤ 1000) (hw : wl ≤ 240) (hdl : dl ≤ 6) (h3 : r.2.1 3 = Int32.ofNat N) (h67 : ∀ q, q < N → r.1 6 q = Int32.ofNat (sk q) ∧ sk q ≤ 240 ∧ r.1 7 q = Int32.ofNat (ek q) ∧ ek q ≤ 240 ∧ ((r.1 9 q = 5 ∧ r.1 10 q = Int32.ofNat D) ↔ sel q = true)) (hlen : ∀ q, q < N → sel q = true → sk q ≤ ek q ∧ ek q - sk q = dl) : ∀ (z k : Nat) (v : Int32) (M : Nat), N - k = z → k ≤ N → v.toInt = z0 + cnt sel k * (((wl : Int) + 2) - dl) → ∃ v' : Int32, lpN BMo_inline_126 (M + z + 1) (a1, Int32.ofNat D, a2, a3, Int32.ofNat (cnt sel k), v, Int32.ofNat wl, Int32.ofNat k, r) = BMo_inline_126 (fun _ => none) (a1, Int32.ofNat D, a2, a3, Int32.ofNat (cnt sel N), v', Int32.ofNat wl, Int32.ofNat N, r) ∧ v'.toInt = z0 + cnt sel N * (((wl : Int) + 2) - dl) := by
  intro z
  induction z with
  | zero =>
    intro k v M y1 y2 y3
    have : k = N := by omega
    subst this
    refine ⟨v, ?_, y3⟩
    have hle : r.2.1 3 ≤ Int32.ofNat k := by rw [h3, i_le]; omega
    rw [Nat.add_zero, lp_succ]
    unfold BMo_inline_126
    dsimp only
    rw [if_pos hle, if_pos hle]
  | succ z ih =>
    intro k v M y1 y2 y3
    obtain ⟨e6, e6b, e7, e7b, e10⟩ := h67 k (by omega)
    have hc : cnt sel (k + 1) = cnt sel k + (if sel k then 1 else 0) := rfl
    have hck := cnt_le (P := sel) k
    have hle : ¬ Int32.ofNat N ≤ Int32.ofNat k := by rw [o_le (by omega) (by omega)]; omega
    have ik : inb (Int32.ofNat k) 240 = true := o_inb (by omega) (by omega)
    rw [show M + (z + 1) + 1 = (M + z + 1) + 1 by omega, lp_succ]
    have hun : ∀ K, BMo_inline_126 K (a1, Int32.ofNat D, a2, a3, Int32.ofNat (cnt sel k), v, Int32.ofNat wl, Int32.ofNat k, r) = (if r.1 9 k = 5 then (if r.1 10 k = Int32.ofNat D then K (a1, Int32.ofNat D, a2, a3, Int32.ofNat (cnt sel k + 1), v + (Int32.ofNat wl + 2 - (Int32.ofNat (ek k) - Int32.ofNat (sk k))), Int32.ofNat wl, Int32.ofNat (k + 1), r) else K (a1, Int32.ofNat D, a2, a3, Int32.ofNat (cnt sel k), v, Int32.ofNat wl, Int32.ofNat (k + 1), r)) else K (a1, Int32.ofNat D, a2, a3, Int32.ofNat (cnt sel k), v, Int32.ofNat wl, Int32.ofNat (k + 1), r)) := by
      intro K
      unfold BMo_inline_126
      simp only [h3, hle, ik, ↓reduceIte, o_nat (show k < 2147483648 by omega), e6, e7, bindv, o_p1]
    rw [hun]
    cases hs : sel k with
    | true =>
      rw [hs, if_pos rfl] at hc
      obtain ⟨l1, l2⟩ := hlen k (by omega) hs
      obtain ⟨t1, t2⟩ := e10.mpr hs
      rw [if_pos t1, if_pos t2]
      have hm1 : -2000 < (cnt sel k : Int) * (((wl : Int) + 2) - dl) ∧ (cnt sel k : Int) * (((wl : Int) + 2) - dl) < 70000 := by
        have q1 : (cnt sel k : Int) * (((wl : Int) + 2) - dl) = (cnt sel k : Int) * ((wl + 2 : Nat) : Int) - (cnt sel k : Int) * dl := Int.mul_sub ..
        have q2 : (cnt sel k) * (wl + 2) ≤ 240 * 242 := Nat.mul_le_mul (by omega) (by omega)
        have q3 : (cnt sel k) * dl ≤ 240 * 6 := Nat.mul_le_mul (by omega) hdl
        rw [q1, ← Int.natCast_mul, ← Int.natCast_mul]
        omega
      have s1 : (Int32.ofNat (ek k) - Int32.ofNat (sk k)).toInt = dl := by
        rw [i_sub (by rw [onat (by omega), onat (by omega)]; omega) (by rw [onat (by omega), onat (by omega)]; omega), onat (by omega), onat (by omega)]
        omega
      have s0 : Int32.ofNat wl + 2 = Int32.ofNat (wl + 2) := o_add (a := wl) (b := 2)
      have s2 : (Int32.ofNat wl + 2 - (Int32.ofNat (ek k) - Int32.ofNat (sk k))).toInt = ((wl : Int) + 2) - dl := by
        rw [s0, i_sub (by rw [s1, onat (by omega)]; omega) (by rw [s1, onat (by omega)]; omega), s1, onat (by omega)]
        omega
      obtain ⟨v', g1, g2⟩ := ih (k + 1) (v + (Int32.ofNat wl + 2 - (Int32.ofNat (ek k) - Int32.ofNat (sk k)))) M (by omega) (by omega) (by
        rw [i_add (by rw [s2, y3]; omega) (by rw [s2, y3]; omega), s2, y3, hc]
        push_cast
        rw [Int.add_mul, Int.one_mul]
        omega)
      rw [hc] at g1
      exact ⟨v', g1, g2⟩
    | false =>
      rw [hs] at hc
      have hc' : cnt sel (k + 1) = cnt sel k := hc
      have hno : ¬ (r.1 9 k = 5 ∧ r.1 10 k = Int32.ofNat D) := fun h => by rw [e10.mp h] at hs; exact absurd hs (by decide)
      obtain ⟨v', g1, g2⟩ := ih (k + 1) v M (by omega) (by omega) (by rw [hc']; exact y3)
      rw [hc'] at g1
      refine ⟨v', ?_, g2⟩
      by_cases h9 : r.1 9 k = 5
      · rw [if_pos h9, if_neg (fun h => hno ⟨h9, h⟩)]; exact g1
      · rw [if_neg h9]; exact g1
