/-! the changed text: its length, its tokens -/
abbrev tL (L : List Nat) : Nat → Nat := fun i => L.getD i 0
theorem piece_tL (L : List Nat) : ∀ m, m ≤ L.length → piece (tL L) 0 m = L.take m
  | 0, _ => by rw [List.take_zero]; rfl
  | m + 1, h => by
    show piece (tL L) 0 m ++ [tL L (0 + m)] = L.take (m + 1)
    rw [piece_tL L m (by omega), Nat.zero_add, take_ex (by omega)]
theorem TL.tx {d : DS} {L : List Nat} (h : TL d L) : TxD (tL L) L.length d := by
  obtain ⟨h1, h2, h3, h4⟩ := h
  refine ⟨h1, h2, fun i hi => ⟨h3 i hi, ?_⟩⟩
  have hm : L.getD i 0 ∈ L := by
    rw [List.getD_eq_getElem?_getD, List.getElem?_eq_getElem hi]
    exact List.getElem_mem _
  exact h4 _ hm
def ckS (s : List Nat) : Nat := if kdS s = 4 then s.headD 0 else if kdS s = 2 then 200 else if kdS s = 3 then 300 else if kdS s = 1 then 400 + kwN (pkS s) else 0
theorem ck_S {T : Nat → Nat} {a e : Nat} (h : a < e) : ck T a e = ckS (piece T a (e - a)) := by
  have hh : (piece T a (e - a)).headD 0 = T a := by
    rw [show e - a = (e - a - 1) + 1 by omega, piece_cons]; rfl
  unfold ck ckS
  rw [kd_S h, hh, pk_S]
/-- A string of letters is the spelling of its packing. -/
theorem lt_pk : ∀ (f : Nat) (s : List Nat), s.length ≤ f → (∀ x, x ∈ s → gr x = 2) → ltL f (pkS s) = s
  | 0, s, h, _ => by
    have : s = [] := List.length_eq_zero_iff.mp (by omega)
    subst this; rfl
  | f + 1, [], _, _ => rfl
  | f + 1, c :: s, h, hg => by
    rw [List.length_cons] at h
    have hc := gq_2.mp (hg c (List.mem_cons_self ..))
    have ih := lt_pk f s (by omega) (fun x hx => hg x (List.mem_cons_of_mem _ hx))
    have e : pkS (c :: s) = (c - 96) + 32 * pkS s := rfl
    rw [e]
    show (if (c - 96) + 32 * pkS s = 0 then [] else (96 + ((c - 96) + 32 * pkS s) % 32) :: ltL f (((c - 96) + 32 * pkS s) / 32)) = c :: s
    rw [if_neg (by omega), show ((c - 96) + 32 * pkS s) / 32 = pkS s by omega, ih, show 96 + ((c - 96) + 32 * pkS s) % 32 = c by omega]
theorem pkS_lt : ∀ (f w : Nat), w < 32 ^ f → pkS (ltL f w) = w
  | 0, w, h => by
    show 0 = w
    omega
  | f + 1, w, h => by
    unfold ltL
    split
    · rename_i h0
      rw [h0]; rfl
    · show (96 + w % 32 - 96) + 32 * pkS (ltL f (w / 32)) = w
      have h4 : w / 32 < 32 ^ f := by
        rw [Nat.pow_succ] at h
        exact Nat.div_lt_of_lt_mul (by omega)
      rw [pkS_lt f (w / 32) h4]
      omega
theorem zB_nm {T : Nat → Nat} {n : Nat} {cs : Nat → Cds} {k D : Nat} (h : zB T n cs k = D + 1) : NM T n k = NM T n D ∧ gR (CL T n) (NM T n) (NN T n) cs k ≠ 0 ∧ gR (CL T n) (NM T n) (NN T n) cs D ≠ 0 ∧ (k < NN T n → D < NN T n) := by
  unfold zB wB at h
  split at h
  · rename_i h1
    split at h
    · omega
    · have : k = D := by omega
      subst this
      exact ⟨rfl, by omega, by omega, fun h => h⟩
  · split at h
    · rename_i h1
      rcases lsB_ok (P := ftB (gR (CL T n) (NM T n) (NN T n) cs) (NM T n) (gSc (CL T n) (NM T n) (NN T n) cs) (gSi (CL T n) (NM T n) (NN T n) cs) (gUn (CL T n) (NM T n) (NN T n) cs) (NM T n k) k) (NN T n) with ⟨g1, -⟩ | ⟨q', g1, g2, g3, -⟩
      · have g1 : mean (gR (CL T n) (NM T n) (NN T n) cs) (NM T n) (gSc (CL T n) (NM T n) (NN T n) cs) (gSi (CL T n) (NM T n) (NN T n) cs) (gUn (CL T n) (NM T n) (NN T n) cs) (NN T n) (NM T n k) k = 0 := g1
        omega
      · have g1 : mean (gR (CL T n) (NM T n) (NN T n) cs) (NM T n) (gSc (CL T n) (NM T n) (NN T n) cs) (gSi (CL T n) (NM T n) (NN T n) cs) (gUn (CL T n) (NM T n) (NN T n) cs) (NN T n) (NM T n k) k = q' + 1 := g1
        have hq : q' = D := by omega
        subst hq
        unfold ftB at g3
        rw [Bool.and_eq_true, Bool.and_eq_true] at g3
        have z1 := of_decide_eq_true g3.1.1
        have z2 := of_decide_eq_true g3.2
        exact ⟨z2.1.symm, by omega, by omega, fun _ => g2⟩
    · split at h
      · rename_i h1
        rcases fsB_ok (P := hdB (gR (CL T n) (NM T n) (NN T n) cs) (NM T n) (NM T n k)) (NN T n) with ⟨g1, -⟩ | ⟨q', g1, g2, g3, -⟩
        · have g1 : hd (gR (CL T n) (NM T n) (NN T n) cs) (NM T n) (NN T n) (NM T n k) = 0 := g1
          omega
        · have g1 : hd (gR (CL T n) (NM T n) (NN T n) cs) (NM T n) (NN T n) (NM T n k) = q' + 1 := g1
          have hq : q' = D := by omega
          subst hq
          have z2 := of_decide_eq_true g3
          exact ⟨z2.2.symm, by omega, by omega, fun _ => g2⟩
      · omega
/-- A name's string. -/
theorem nm_str {T : Nat → Nat} {n k : Nat} (hn : n ≤ 240) (hT : ∀ i, i < n → T i ≤ 126) (hk : k < NN T n) (hc : CL T n k = 200) : sT T ((LL T n).getD k (0, 0)) = ltL 6 (NM T n k) ∧ EK T n k - SK T n k = (ltL 6 (NM T n k)).length ∧ gr (T (SK T n k)) = 2 := by
  obtain ⟨hl, hN, hK, hS⟩ := tok_all hn hT
  obtain ⟨a1, a2, a3, a4⟩ := hl k hk
  have hcl : clL T (LL T n) k = ck T (SK T n k) (EK T n k) := by
    unfold clL
    rw [if_pos hk]
  have hkk := kk_ck (e := EK T n k) a3 (hT _ (by omega))
  have h2 : kd T (SK T n k) (EK T n k) = 2 := by
    rw [← hkk, ← hcl]
    show kk (CL T n k) = 2
    rw [hc]; rfl
  obtain ⟨g1, g2, g3⟩ := kd_2 h2
  have hnm : NM T n k = pk T (SK T n k) (EK T n k - SK T n k) := by
    show nmL T (LL T n) k = _
    unfold nmL vlT
    rw [if_pos hk, if_pos h2]
  have hs : sT T ((LL T n).getD k (0, 0)) = ltL 6 (NM T n k) := by
    rw [hnm, pk_S]
    refine (lt_pk 6 (piece T (SK T n k) (EK T n k - SK T n k)) (by rw [piece_len]; exact g2) (fun x hx => ?_)).symm
    obtain ⟨i, i1, rfl⟩ := piece_mem _ _ x hx
    refine (a4 (SK T n k + i) (Nat.le_add_right _ _) ?_).trans g1
    show SK T n k + i < EK T n k
    omega
  refine ⟨hs, ?_, g1⟩
  rw [← hs]
  show _ = (piece T (SK T n k) (EK T n k - SK T n k)).length
  rw [piece_len]
/-- How long the changed text is. -/
theorem rn_length {T : Nat → Nat} {n N len : Nat} {sk ek : Nat → Nat} {sel : Nat → Bool} {W : List Nat} (hS : TS sk ek N) (hen : ∀ q, q < N → ek q ≤ n) (hlen : ∀ q, q < N → sel q = true → ek q - sk q = len) : ∀ (z k place : Nat), N - k = z → k ≤ N → place ≤ n → (∀ q, k ≤ q → q < N → place ≤ sk q) → ((rnL T n sk ek sel W z k place).length : Int) = (n : Int) - place + ((cnt sel N : Int) - cnt sel k) * ((W.length : Int) - len)
  | 0, k, place, h1, h2, h3, h4 => by
    have : k = N := by omega
    subst this
    show ((piece T place (n - place)).length : Int) = _
    rw [piece_len, Int.sub_self, Int.zero_mul]
    omega
  | z + 1, k, place, h1, h2, h3, h4 => by
    have hc : cnt sel (k + 1) = cnt sel k + (if sel k then 1 else 0) := rfl
    show ((if sel k then piece T place (sk k - place) ++ W ++ rnL T n sk ek sel W z (k + 1) (ek k) else rnL T n sk ek sel W z (k + 1) place).length : Int) = _
    have hk := hS.1 k (by omega)
    have hek := hen k (by omega)
    have hp := h4 k (Nat.le_refl _) (by omega)
    cases hs : sel k with
    | true =>
      rw [hs, if_pos rfl] at hc
      have hl := hlen k (by omega) hs
      have ih := rn_length (T := T) (W := W) hS hen hlen z (k + 1) (ek k) (by omega) (by omega) hek (fun q q1 q2 => (hS.lt (show k < q by omega) q2).1)
      rw [if_pos rfl, List.length_append, List.length_append, piece_len]
      push_cast
      rw [ih, hc]
      push_cast
      have e1 : ((cnt sel N : Int) - cnt sel k) * ((W.length : Int) - len) = ((cnt sel N : Int) - ((cnt sel k : Int) + 1)) * ((W.length : Int) - len) + ((W.length : Int) - len) := by
        rw [show (cnt sel N : Int) - cnt sel k = ((cnt sel N : Int) - ((cnt sel k : Int) + 1)) + 1 by omega, Int.add_mul, Int.one_mul]
      rw [e1]
      omega
    | false =>
      rw [hs] at hc
      have hc' : cnt sel (k + 1) = cnt sel k := hc
      have ih := rn_length (T := T) (W := W) hS hen hlen z (k + 1) place (by omega) (by omega) h3 (fun q q1 q2 => h4 q (by omega) q2)
      rw [hc'] at ih
      exact ih
theorem rnM_len (T : Nat → Nat) (sel : Nat → Bool) (W : List Nat) : ∀ (l : List (Nat × Nat)) (k : Nat), (rnM T sel W k l).length = l.length
  | [], _ => rfl
  | x :: l, k => by
    show (rnM T sel W (k + 1) l).length + 1 = _
    rw [rnM_len T sel W l (k + 1)]; rfl
theorem rnM_get (T : Nat → Nat) (sel : Nat → Bool) (W : List Nat) : ∀ (l : List (Nat × Nat)) (k j : Nat), j < l.length → (rnM T sel W k l)[j]? = some (if sel (k + j) then W else sT T (l.getD j (0, 0)))
  | [], _, _, h => absurd h (Nat.not_lt_zero _)
  | x :: l, k, 0, _ => rfl
  | x :: l, k, j + 1, h => by
    show (rnM T sel W (k + 1) l)[j]? = _
    rw [List.length_cons] at h
    rw [rnM_get T sel W l (k + 1) j (by omega), show k + 1 + j = k + (j + 1) by omega]
    rfl
theorem renTok {T : Nat → Nat} {n w : Nat} {sel : Nat → Bool} {L : List Nat} (hn : n ≤ 240) (hT : ∀ i, i < n → T i ≤ 126) (hw : w < 1073741824) (ho : okW 6 w) (hw0 : w ≠ 0) (hkw : ¬ kwN w < 6) (hsel : ∀ q, q < NN T n → sel q = true → CL T n q = 200) (hL : L = rnL T n (SK T n) (EK T n) sel (ltL 6 w) (NN T n) 0 0) (hl : L.length ≤ 240) (hLc : ∀ x, x ∈ L → 32 ≤ x ∧ x ≤ 126) : NN (tL L) L.length = NN T n ∧ (∀ k, k < NN T n → CL (tL L) L.length k = CL T n k) := by
  obtain ⟨htk, hN, hK, hS⟩ := tok_all hn hT
  have hT' : ∀ i, i < L.length → tL L i ≤ 126 := fun i hi => by
    have hm : L.getD i 0 ∈ L := by
      rw [List.getD_eq_getElem?_getD, List.getElem?_eq_getElem hi]
      exact List.getElem_mem _
    exact (hLc _ hm).2
  obtain ⟨htk', hN', hK', hS'⟩ := tok_all (T := tL L) (n := L.length) hl hT'
  have hW2 : ∀ x, x ∈ ltL 6 w → gr x = 2 := fun x hx => gq_2.mpr (okW_mem 6 w ho x hx)
  have hW0 : ltL 6 w ≠ [] := by
    show (if w = 0 then [] else (96 + w % 32) :: ltL 5 (w / 32)) ≠ []
    rw [if_neg hw0]
    exact List.cons_ne_nil _ _
  have h1 := scan_lex (T := tL L) (n := L.length) L.length 0 (by omega) (by omega)
  rw [Nat.sub_zero, piece_tL L L.length (Nat.le_refl _), List.take_length] at h1
  have h2 := rn_lex (T := T) (n := n) (sel := sel) (W := ltL 6 w) (l0 := LL T n) htk hS hW0 hW2 (fun q hq hs => (nm_str hn hT hq (hsel q hq hs)).2.2) (LL T n) 0 0 L.length (List.drop_zero) (scan_gap n 0 (by omega) (by omega)) (Nat.zero_le _) (by rw [hL]; exact Nat.le_refl _)
  have h2' : lexC L.length L = rnM T sel (ltL 6 w) 0 (LL T n) := by
    have h3 : rnL T n (SK T n) (EK T n) sel (ltL 6 w) (NN T n) 0 0 = L := hL.symm
    have h4 : lexC L.length (rnL T n (SK T n) (EK T n) sel (ltL 6 w) (NN T n) 0 0) = rnM T sel (ltL 6 w) 0 (LL T n) := h2
    rw [h3] at h4
    exact h4
  have h3 : (LL (tL L) L.length).map (sT (tL L)) = rnM T sel (ltL 6 w) 0 (LL T n) := h1.trans h2'
  have hlen : NN (tL L) L.length = NN T n := by
    have := congrArg List.length h3
    rw [List.length_map, rnM_len] at this
    exact this
  refine ⟨hlen, fun k hk => ?_⟩
  have hk' : k < NN (tL L) L.length := by rw [hlen]; exact hk
  have hstr : sT (tL L) ((LL (tL L) L.length).getD k (0, 0)) = if sel k then ltL 6 w else sT T ((LL T n).getD k (0, 0)) := by
    have h5 := rnM_get T sel (ltL 6 w) (LL T n) 0 k hk
    rw [← h3, List.getElem?_map, List.getElem?_eq_getElem hk', Nat.zero_add] at h5
    have h6 := Option.some.inj h5
    rw [List.getD_eq_getElem?_getD, List.getElem?_eq_getElem hk']
    exact h6
  have c1 : CL (tL L) L.length k = ckS (sT (tL L) ((LL (tL L) L.length).getD k (0, 0))) := by
    show clL (tL L) (LL (tL L) L.length) k = _
    unfold clL
    rw [if_pos hk', ck_S (htk' k hk').1]
    rfl
  have c2 : CL T n k = ckS (sT T ((LL T n).getD k (0, 0))) := by
    show clL T (LL T n) k = _
    unfold clL
    rw [if_pos hk, ck_S (htk k hk).1]
    rfl
  rw [c1, hstr]
  cases hs : sel k with
  | false =>
    simp only [Bool.false_eq_true, ↓reduceIte]
    exact c2.symm
  | true =>
    rw [if_pos rfl, hsel k hk hs]
    have hh : gr ((ltL 6 w).headD 0) = 2 := by
      cases hv : ltL 6 w with
      | nil => exact absurd hv hW0
      | cons c s => exact hW2 c (by rw [hv]; exact List.mem_cons_self ..)
    have hkd : kdS (ltL 6 w) = 2 := by
      unfold kdS
      rw [if_pos hh, if_pos ltL_len, pkS_lt 6 w (by omega), if_neg hkw]
    unfold ckS
    rw [hkd]
    rfl
