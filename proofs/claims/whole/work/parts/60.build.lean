/-! texts that are built: pieces, names -/
def ltL : Nat → Nat → List Nat
  | 0, _ => []
  | f + 1, w => if w = 0 then [] else (96 + w % 32) :: ltL f (w / 32)
def piece (T : Nat → Nat) (a : Nat) : Nat → List Nat
  | 0 => []
  | m + 1 => piece T a m ++ [T (a + m)]
theorem piece_len (T : Nat → Nat) (a : Nat) : ∀ m, (piece T a m).length = m
  | 0 => rfl
  | m + 1 => by
    show (piece T a m ++ [T (a + m)]).length = m + 1
    rw [lenn, piece_len T a m]
/-- The desk's text is a list. -/
def TL (d : DS) (L : List Nat) : Prop := d.2 3 = Int32.ofNat L.length ∧ L.length ≤ 240 ∧ (∀ i, i < L.length → d.1 2 i = Int32.ofNat (L.getD i 0)) ∧ ∀ x, x ∈ L → 32 ≤ x ∧ x ≤ 126
def FrX (d d' : DS) : Prop := (∀ i, i ≠ 2 → d'.1 i = d.1 i) ∧ ∀ i, i ≠ 3 → d'.2 i = d.2 i
theorem FrX.rf {d : DS} : FrX d d := ⟨fun _ _ => rfl, fun _ _ => rfl⟩
theorem FrX.tr {d d' d2 : DS} (h : FrX d d') (h2 : FrX d' d2) : FrX d d2 := ⟨fun i a => (h2.1 i a).trans (h.1 i a), fun i a => (h2.2 i a).trans (h.2 i a)⟩
theorem TL.add {d : DS} {L : List Nat} {c : Nat} (h : TL d L) (hl : L.length < 240) (hc : 32 ≤ c ∧ c ≤ 126) : ∃ d', f_Te_add (Int32.ofNat c) d = some d' ∧ TL d' (L ++ [c]) ∧ FrX d d' := by
  obtain ⟨h1, h2, h3, h4⟩ := h
  have hnat := onat (n := c) (by omega)
  refine ⟨(va_up d.1 2 (upd (d.1 2) L.length (Int32.ofNat c)), va_up d.2 3 (Int32.ofNat (L.length + 1))), ?_, ⟨by rw [lenn]; rfl, by rw [lenn]; omega, fun i hi => ?_, fun x hx => ?_⟩, fun i hi => up_ne hi, fun i hi => up_ne hi⟩
  · unfold f_Te_add
    rw [h1, if_neg (show ¬ (240 : Int32) ≤ Int32.ofNat L.length by rw [i_le, onat (by omega), n240]; omega), if_pos (o_inb hl (by omega)), o_nat (by omega), onat1 (by omega), nar_char (by omega) (by omega)]
  · rw [lenn] at hi
    show upd (d.1 2) L.length (Int32.ofNat c) i = _
    by_cases hi2 : i < L.length
    · rw [ud_ne (by omega), gn_old hi2]; exact h3 i hi2
    · have : i = L.length := by omega
      subst this
      rw [ud_eq, gn_new]
  · rcases List.mem_append.mp hx with h | h
    · exact h4 x h
    · rw [List.mem_singleton.mp h]; exact hc
theorem addPieceD {T : Nat → Nat} {n a e : Nat} {d b : DS} {L : List Nat} (hX : TxD T n d) (hL : TL b L) (hae : a ≤ e) (hen : e ≤ n) (hl : L.length + (e - a) ≤ 240) : ∃ b', f_Te_addPiece (Int32.ofNat a) (Int32.ofNat e) b d = some (b', d) ∧ TL b' (L ++ piece T a (e - a)) ∧ FrX b b' := by
  have hn := hX.2.1
  have loop : ∀ (z q M : Nat) (b1 : DS), e - q = z → a ≤ q → q ≤ e → TL b1 (L ++ piece T a (q - a)) → FrX b b1 → ∃ b', lpN BTe_addPiece_3 (M + z + 1) (Int32.ofNat a, Int32.ofNat e, Int32.ofNat q, b1, d) = some (b', d) ∧ TL b' (L ++ piece T a (e - a)) ∧ FrX b b' := by
    intro z
    induction z with
    | zero =>
      intro q M b1 h1 h2 h3 h4 h5
      have : q = e := by omega
      subst this
      rw [Nat.add_zero, lp_succ]
      unfold BTe_addPiece_3
      dsimp only
      rw [if_pos (by rw [i_le]; omega)]
      exact ⟨b1, rfl, h4, h5⟩
    | succ z ih =>
      intro q M b1 h1 h2 h3 h4 h5
      obtain ⟨c0, c1, c2⟩ := hX.2.2 q (by omega)
      have hlen : (L ++ piece T a (q - a)).length = L.length + (q - a) := by rw [List.length_append, piece_len]
      obtain ⟨b2, g1, g2, g3⟩ := h4.add (c := T q) (by rw [hlen]; omega) ⟨c1, c2⟩
      have hp : L ++ piece T a (q - a) ++ [T q] = L ++ piece T a (q + 1 - a) := by
        rw [show q + 1 - a = (q - a) + 1 by omega, List.append_assoc]
        show _ = L ++ (piece T a (q - a) ++ [T (a + (q - a))])
        rw [show a + (q - a) = q by omega]
      rw [hp] at g2
      obtain ⟨b', k1, k2, k3⟩ := ih (q + 1) M b2 (by omega) (by omega) (by omega) g2 (h5.tr g3)
      refine ⟨b', ?_, k2, k3⟩
      rw [show M + (z + 1) + 1 = (M + z + 1) + 1 by omega, lp_succ]
      unfold BTe_addPiece_3
      dsimp only
      rw [if_neg (by rw [o_le (by omega) (by omega)]; omega), if_pos (o_inb (by omega) (by omega)), o_nat (by omega), c0, g1, Option.bind_some, onat1 (by omega)]
      exact k1
  obtain ⟨b', k1, k2, k3⟩ := loop (e - a) a (99999 - (e - a)) b rfl (Nat.le_refl _) hae (by rw [Nat.sub_self]; show TL b (L ++ []); rw [List.append_nil]; exact hL) FrX.rf
  rw [show 99999 - (e - a) + (e - a) + 1 = 100000 by omega] at k1
  exact ⟨b', k1, k2, k3⟩
theorem w_and {w : Nat} (h : w < 1073741824) : Int32.ofNat w &&& 31 = Int32.ofNat (w % 32) := by
  rw [i_eq, and32, onat (by omega), onat (by omega)]
  omega
theorem w_shr {w : Nat} (h : w < 1073741824) : Int32.ofNat w >>> (5 &&& 31) = Int32.ofNat (w / 32) := by
  rw [i_eq, shr32, onat (by omega), onat (by omega)]
  omega
/-- A packed name whose letters are letters. -/
def okW : Nat → Nat → Prop
  | 0, w => w = 0
  | f + 1, w => w = 0 ∨ (1 ≤ w % 32 ∧ w % 32 ≤ 26 ∧ okW f (w / 32))
theorem okW_mem : ∀ (f w : Nat), okW f w → ∀ x, x ∈ ltL f w → 97 ≤ x ∧ x ≤ 122
  | 0, _, _, x, hx => absurd hx List.not_mem_nil
  | f + 1, w, h, x, hx => by
    unfold ltL at hx
    split at hx
    · exact absurd hx List.not_mem_nil
    · rename_i h0
      rcases h with h | h
      · exact absurd h h0
      · rcases List.mem_cons.mp hx with h1 | h1
        · omega
        · exact okW_mem f (w / 32) h.2.2 x h1
theorem addNameD {b : DS} {L : List Nat} {w : Nat} (hL : TL b L) (hw : w < 1073741824) (ho : okW 6 w) (hl : L.length + (ltL 6 w).length ≤ 240) : ∃ b', f_Te_addName (Int32.ofNat w) b = some b' ∧ TL b' (L ++ ltL 6 w) ∧ FrX b b' := by
  have loop : ∀ (f v M : Nat) (b1 : DS) (L1 : List Nat), v < 1073741824 → okW f v → TL b1 L1 → L1.length + (ltL f v).length ≤ 240 → FrX b b1 → ∃ b', lpN BTe_addName_2 (M + f + 1) (Int32.ofNat w, Int32.ofNat v, b1) = some b' ∧ TL b' (L1 ++ ltL f v) ∧ FrX b b' := by
    intro f
    induction f with
    | zero =>
      intro v M b1 L1 h1 h2 h3 h4 h5
      have : v = 0 := h2
      subst this
      rw [show M + 0 + 1 = M + 1 from rfl, lp_succ]
      unfold BTe_addName_2
      dsimp only
      rw [if_pos (show Int32.ofNat 0 ≤ 0 by decide)]
      refine ⟨b1, rfl, ?_, h5⟩
      show TL b1 (L1 ++ [])
      rw [List.append_nil]; exact h3
    | succ f ih =>
      intro v M b1 L1 h1 h2 h3 h4 h5
      rw [show M + (f + 1) + 1 = (M + f + 1) + 1 by omega, lp_succ]
      unfold BTe_addName_2
      dsimp only
      by_cases h0 : v = 0
      · subst h0
        rw [if_pos (show Int32.ofNat 0 ≤ 0 by decide)]
        refine ⟨b1, rfl, ?_, h5⟩
        show TL b1 (L1 ++ [])
        rw [List.append_nil]; exact h3
      · rcases h2 with h2 | ⟨l1, l2, l3⟩
        · exact absurd h2 h0
        · have hlt : ltL (f + 1) v = (96 + v % 32) :: ltL f (v / 32) := by
            show (if v = 0 then _ else _) = _
            rw [if_neg h0]
          rw [hlt, List.length_cons] at h4
          obtain ⟨b2, g1, g2, g3⟩ := h3.add (c := 96 + v % 32) (by omega) ⟨by omega, by omega⟩
          obtain ⟨b', k1, k2, k3⟩ := ih (v / 32) M b2 (L1 ++ [96 + v % 32]) (by omega) l3 g2 (by rw [lenn]; omega) (h5.tr g3)
          refine ⟨b', ?_, ?_, k3⟩
          · rw [if_neg (show ¬ Int32.ofNat v ≤ 0 by rw [i_le, onat (by omega), n0]; omega)]
            have hc : (((96 : Int32) + (Int32.ofNat v &&& 31)).toUInt32 % 65536).toInt32 = Int32.ofNat (96 + v % 32) := by
              rw [w_and h1, show (96 : Int32) + Int32.ofNat (v % 32) = Int32.ofNat (96 + v % 32) from o_add (a := 96)]
              exact c16 (by rw [onat (by omega)]; omega) (by rw [onat (by omega)]; omega)
            simp only [bindv, hc, w_shr h1]
            rw [g1, Option.bind_some]
            exact k1
          · rw [hlt]
            rw [List.append_assoc] at k2
            exact k2
  obtain ⟨b', k1, k2, k3⟩ := loop 6 w 99993 b L hw ho hL hl FrX.rf
  exact ⟨b', k1, k2, k3⟩
theorem lettersD {w : Nat} (hw : w < 1073741824) : f_X_lettersIn (Int32.ofNat w) = some (Int32.ofNat (ltL 6 w).length) := by
  have loop : ∀ (f v M c : Nat), v < 1073741824 → v < 32 ^ f → c + f ≤ 100 → lpN BX_lettersIn_4 (M + f + 1) (Int32.ofNat w, Int32.ofNat c, Int32.ofNat v) = some (Int32.ofNat (c + (ltL f v).length)) := by
    intro f
    induction f with
    | zero =>
      intro v M c h1 h2 h3
      have : v = 0 := by omega
      subst this
      rw [show M + 0 + 1 = M + 1 from rfl, lp_succ]
      unfold BX_lettersIn_4
      dsimp only
      rw [if_pos (show Int32.ofNat 0 ≤ 0 by decide)]
      rfl
    | succ f ih =>
      intro v M c h1 h2 h3
      rw [show M + (f + 1) + 1 = (M + f + 1) + 1 by omega, lp_succ]
      unfold BX_lettersIn_4
      dsimp only
      by_cases h0 : v = 0
      · subst h0
        rw [if_pos (show Int32.ofNat 0 ≤ 0 by decide)]
        rfl
      · have hlt : ltL (f + 1) v = (96 + v % 32) :: ltL f (v / 32) := by
          show (if v = 0 then _ else _) = _
          rw [if_neg h0]
        rw [if_neg (show ¬ Int32.ofNat v ≤ 0 by rw [i_le, onat (by omega), n0]; omega), w_shr h1, onat1 (by omega), hlt, List.length_cons]
        have h4 : v / 32 < 32 ^ f := by
          rw [Nat.pow_succ] at h2
          exact Nat.div_lt_of_lt_mul (by omega)
        have := ih (v / 32) M (c + 1) (by omega) h4 (by omega)
        exact this.trans (by congr 2; omega)
  have := loop 6 w 99993 0 hw (by omega) (by omega)
  rw [Nat.zero_add] at this
  exact this
