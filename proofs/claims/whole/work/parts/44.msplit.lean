/-! parts split by the model; its faults, sorted in -/
theorem msp_loop {cl nm sk : Nat → Nat} {N : Nat} (hK : TK cl nm N) : ∀ (z k : Nat) (r : RS) (M : Nat), N - k = z → k ≤ N → MTok cl nm sk N r → r.2.1 4 = Int32.ofNat (ps cl k).length → (∀ i, i < (ps cl k).length → r.1 16 i = Int32.ofNat ((ps cl k).getD i k) ∧ r.1 17 i = Int32.ofNat ((ps cl k).getD (i + 1) k)) → ∃ r' : RS, lpN BMo_analyse_16 (M + z + 1) (Int32.ofNat k, r) = lpN BMo_analyse_86 100000 (0, r') ∧ r'.2.1 4 = Int32.ofNat (ps cl N).length ∧ (∀ i, i < (ps cl N).length → r'.1 16 i = Int32.ofNat (bd cl N i) ∧ r'.1 17 i = Int32.ofNat (bd cl N (i + 1))) ∧ (∀ i, i ≠ 16 → i ≠ 17 → r'.1 i = r.1 i) ∧ (∀ i, i ≠ 4 → r'.2.1 i = r.2.1 i) ∧ r'.2.2 = r.2.2 := by
  intro z
  have hN := hK.1
  induction z with
  | zero =>
    intro k r M h1 h2 hM h4 h16
    have : k = N := by omega
    subst this
    rw [Nat.add_zero, lp_succ]
    unfold BMo_analyse_16
    dsimp only
    rw [hM.1, if_pos (by rw [i_le]; omega)]
    exact ⟨r, rfl, h4, h16, fun _ _ _ => rfl, fun _ _ => rfl, rfl⟩
  | succ z ih =>
    intro k r M h1 h2 hM h4 h16
    obtain ⟨p1, p2, p3, p4, p5⟩ := ps_ok cl k
    have hdef : ps cl (k + 1) = if k = 0 ∨ cl k = 400 ∧ (ps cl k).length < 4 then ps cl k ++ [k] else ps cl k := rfl
    rw [show M + (z + 1) + 1 = (M + z + 1) + 1 by omega, lp_succ]
    unfold BMo_analyse_16
    have q0 : (Int32.ofNat k = 0) = (k = 0) := o_eq (b := 0) (by omega) (by omega)
    have q4 : ((4 : Int32) ≤ Int32.ofNat (ps cl k).length) = (4 ≤ (ps cl k).length) := o_le (a := 4) (by omega) (by omega)
    have e1 : Int32.ofNat ((ps cl k).length + 1) - 1 = Int32.ofNat (ps cl k).length := o_sub (a := (ps cl k).length + 1) (b := 1) (by omega)
    simp only [hM.1, h4, q0, q4, isFnM hK hM (show k < N by omega), Option.bind_some, o_inb (show (ps cl k).length < 122 by omega) (show (ps cl k).length < 2147483648 by omega), o_nat (show (ps cl k).length < 2147483648 by omega), ↓reduceIte, o_p1, e1]
    rw [if_neg (by rw [o_le (by omega) (by omega)]; omega)]
    have yes : (k = 0 ∨ cl k = 400 ∧ (ps cl k).length < 4) → ∃ r' : RS, lpN BMo_analyse_16 (M + z + 1) (Int32.ofNat (k + 1), (va_up (va_up r.1 16 (upd (r.1 16) (ps cl k).length (Int32.ofNat k))) 17 (upd (r.1 17) (ps cl k).length (Int32.ofNat (k + 1))), va_up r.2.1 4 (Int32.ofNat ((ps cl k).length + 1)), r.2.2)) = lpN BMo_analyse_86 100000 (0, r') ∧ r'.2.1 4 = Int32.ofNat (ps cl N).length ∧ (∀ i, i < (ps cl N).length → r'.1 16 i = Int32.ofNat (bd cl N i) ∧ r'.1 17 i = Int32.ofNat (bd cl N (i + 1))) ∧ (∀ i, i ≠ 16 → i ≠ 17 → r'.1 i = r.1 i) ∧ (∀ i, i ≠ 4 → r'.2.1 i = r.2.1 i) ∧ r'.2.2 = r.2.2 := by
      intro hc
      rw [if_pos hc] at hdef
      obtain ⟨r', e1, e2, e3, e4, e5, e6⟩ := ih (k + 1) (va_up (va_up r.1 16 (upd (r.1 16) (ps cl k).length (Int32.ofNat k))) 17 (upd (r.1 17) (ps cl k).length (Int32.ofNat (k + 1))), va_up r.2.1 4 (Int32.ofNat ((ps cl k).length + 1)), r.2.2) M (by omega) (by omega) (hM.cg rfl rfl rfl rfl rfl) (by rw [hdef, lenn]; rfl) (fun i hi => by
        rw [hdef, lenn] at hi
        rw [hdef]
        show upd (r.1 16) (ps cl k).length (Int32.ofNat k) i = _ ∧ upd (r.1 17) (ps cl k).length (Int32.ofNat (k + 1)) i = _
        by_cases hi2 : i < (ps cl k).length
        · rw [ud_ne (by omega), ud_ne (by omega), gn_old hi2, (h16 i hi2).1, (h16 i hi2).2]
          refine ⟨by rw [gn_d hi2], ?_⟩
          by_cases hi3 : i + 1 < (ps cl k).length
          · rw [gn_old hi3, gn_d hi3]
          · have : i + 1 = (ps cl k).length := by omega
            rw [this, gn_new, gn_out (Nat.le_refl _)]
        · have : i = (ps cl k).length := by omega
          subst this
          rw [ud_eq, ud_eq, gn_new, gn_out (by rw [lenn]; omega)]
          exact ⟨rfl, rfl⟩)
      exact ⟨r', e1, e2, e3, fun i a b => (e4 i a b).trans ((up_ne b).trans (up_ne a)), fun i a => (e5 i a).trans (up_ne a), e6⟩
    have no : ¬ (k = 0 ∨ cl k = 400 ∧ (ps cl k).length < 4) → ∃ r' : RS, (if inb (Int32.ofNat (ps cl k).length - 1) 122 = true then lpN BMo_analyse_16 (M + z + 1) (Int32.ofNat (k + 1), (va_up r.1 17 (upd (r.1 17) (Int32.ofNat (ps cl k).length - 1).toNatClampNeg (Int32.ofNat (k + 1))), r.2.1, r.2.2)) else none) = lpN BMo_analyse_86 100000 (0, r') ∧ r'.2.1 4 = Int32.ofNat (ps cl N).length ∧ (∀ i, i < (ps cl N).length → r'.1 16 i = Int32.ofNat (bd cl N i) ∧ r'.1 17 i = Int32.ofNat (bd cl N (i + 1))) ∧ (∀ i, i ≠ 16 → i ≠ 17 → r'.1 i = r.1 i) ∧ (∀ i, i ≠ 4 → r'.2.1 i = r.2.1 i) ∧ r'.2.2 = r.2.2 := by
      intro hc
      rw [if_neg hc] at hdef
      have hk : 0 < k := by omega
      obtain ⟨l1, l2⟩ := p4 hk
      have e1 : Int32.ofNat (ps cl k).length - 1 = Int32.ofNat ((ps cl k).length - 1) := o_sub (b := 1) (by omega)
      rw [e1, if_pos (o_inb (by omega) (by omega)), o_nat (by omega)]
      obtain ⟨r', e1, e2, e3, e4, e5, e6⟩ := ih (k + 1) (va_up r.1 17 (upd (r.1 17) ((ps cl k).length - 1) (Int32.ofNat (k + 1))), r.2.1, r.2.2) M (by omega) (by omega) (hM.cg rfl rfl rfl rfl rfl) (by rw [hdef]; exact h4) (fun i hi => by
        rw [hdef] at hi
        rw [hdef]
        show r.1 16 i = _ ∧ upd (r.1 17) ((ps cl k).length - 1) (Int32.ofNat (k + 1)) i = _
        refine ⟨by rw [(h16 i hi).1, gn_d hi], ?_⟩
        by_cases hi3 : i + 1 < (ps cl k).length
        · rw [ud_ne (by omega), (h16 i hi).2, gn_d hi3]
        · have : i = (ps cl k).length - 1 := by omega
          rw [this, ud_eq, gn_out (by omega)])
      exact ⟨r', e1, e2, e3, fun i a b => (e4 i a b).trans (up_ne b), e5, e6⟩
    by_cases hk0 : k = 0
    · rw [if_pos hk0]
      exact yes (Or.inl hk0)
    · rw [if_neg hk0]
      by_cases h400 : cl k = 400
      · simp only [if_pos h400, ne10, ↓reduceIte]
        by_cases h4' : 4 ≤ (ps cl k).length
        · rw [if_pos h4']
          exact no (by omega)
        · rw [if_neg h4']
          exact yes (Or.inr ⟨h400, by omega⟩)
      · simp only [if_neg h400, ↓reduceIte]
        exact no (by omega)
/-! faults -/
def FL (r : RS) (l : List Nat) : Prop := r.2.1 5 = Int32.ofNat l.length ∧ ∀ i, i < l.length → r.1 20 i = Int32.ofNat (l.getD i 0)
theorem nt_loop {a b : Int32} {e : Nat} {l : List Nat} (he : e < 2147483648) (hl : l.length < 400) (hb : ∀ x, x ∈ l → x < 2147483648) : ∀ (k : Nat) (r : RS) (M : Nat), k ≤ l.length → r.2.1 5 = Int32.ofNat l.length → (∀ i, i < k → r.1 20 i = Int32.ofNat (l.getD i 0)) → (∀ i, k ≤ i → i < l.length → r.1 20 (i + 1) = Int32.ofNat (l.getD i 0)) → (∀ i, k ≤ i → i < l.length → e < l.getD i 0) → ∃ (r' : RS) (q : Nat), q ≤ k ∧ lpN BMo_note_13 (M + k + 1) (a, b, Int32.ofNat e, Int32.ofNat k, r) = some r' ∧ (q = 0 ∨ 0 < q ∧ l.getD (q - 1) 0 ≤ e) ∧ (∀ i, q ≤ i → i < l.length → e < l.getD i 0) ∧ r'.2.1 = va_up r.2.1 5 (Int32.ofNat (l.length + 1)) ∧ r'.2.2 = r.2.2 ∧ (∀ i, i ≠ 20 → r'.1 i = r.1 i) ∧ (∀ i, i < q → r'.1 20 i = Int32.ofNat (l.getD i 0)) ∧ r'.1 20 q = Int32.ofNat e ∧ ∀ i, q ≤ i → i < l.length → r'.1 20 (i + 1) = Int32.ofNat (l.getD i 0) := by
  intro k
  induction k with
  | zero =>
    intro r M hk h5 h1 h2 h3
    rw [show M + 0 + 1 = M + 1 from rfl, lp_succ]
    unfold BMo_note_13
    dsimp only
    rw [if_pos (show Int32.ofNat 0 ≤ 0 by decide), if_pos (show inb (Int32.ofNat 0) 400 = true from o_inb (by omega) (by omega)), o_nat (by omega), h5, onat1 (by omega)]
    refine ⟨_, 0, Nat.le_refl _, rfl, Or.inl rfl, h3, rfl, rfl, fun i hi => up_ne hi, fun i hi => absurd hi (Nat.not_lt_zero _), rfl, fun i a b => ?_⟩
    show upd (r.1 20) 0 (Int32.ofNat e) (i + 1) = _
    rw [ud_ne (by omega)]
    exact h2 i a b
  | succ k ih =>
    intro r M hk h5 h1 h2 h3
    rw [show M + (k + 1) + 1 = (M + k + 1) + 1 by omega, lp_succ]
    have ek : Int32.ofNat (k + 1) - 1 = Int32.ofNat k := o_sub (a := k + 1) (b := 1) (by omega)
    have hmem : l.getD k 0 ∈ l := by
      rw [List.getD_eq_getElem?_getD, List.getElem?_eq_getElem (show k < l.length by omega)]
      exact List.getElem_mem _
    have hlt := hb _ hmem
    have hgo : ¬ Int32.ofNat (k + 1) ≤ 0 := by rw [i_le, onat (by omega), n0]; omega
    have qle : (Int32.ofNat (l.getD k 0) ≤ Int32.ofNat e) = (l.getD k 0 ≤ e) := o_le hlt he
    unfold BMo_note_13
    simp only [hgo, ↓reduceIte, ek, o_inb (show k < 400 by omega) (show k < 2147483648 by omega), o_nat (show k < 2147483648 by omega), o_inb (show k + 1 < 400 by omega) (show k + 1 < 2147483648 by omega), o_nat (show k + 1 < 2147483648 by omega), bindv, h1 k (by omega), qle, h5, onat1 (show l.length < 2147483647 by omega)]
    by_cases hle : l.getD k 0 ≤ e
    · rw [if_pos hle]
      refine ⟨_, k + 1, Nat.le_refl _, rfl, Or.inr ⟨by omega, hle⟩, h3, rfl, rfl, fun i hi => up_ne hi, fun i hi => ?_, ud_eq, fun i a b => ?_⟩
      · exact (ud_ne (by omega)).trans (h1 i hi)
      · exact (ud_ne (by omega)).trans (h2 i a b)
    · rw [if_neg hle]
      obtain ⟨r', q, e1, e2, e3, e4, e5, e6, e7, e8, e9, e10⟩ := ih (va_up r.1 20 (upd (r.1 20) (k + 1) (Int32.ofNat (l.getD k 0))), r.2.1, r.2.2) M (by omega) h5 (fun i hi => (ud_ne (by omega)).trans (h1 i (by omega))) (fun i a b => by
        show upd (r.1 20) (k + 1) (Int32.ofNat (l.getD k 0)) (i + 1) = _
        by_cases hi : i = k
        · subst hi; exact ud_eq
        · exact (ud_ne (by omega)).trans (h2 i (by omega) b)) (fun i a b => by
        by_cases hi : i = k
        · subst hi; omega
        · exact h3 i (by omega) b)
      exact ⟨r', q, by omega, e2, e3, e4, e5, e6, fun i hi => (e7 i hi).trans (up_ne hi), e8, e9, e10⟩
theorem noteM {r : RS} {l : List Nat} {a b : Nat} (hF : FL r l) (hs : l.Pairwise (· < ·)) (hl : l.length < 400) (hb : ∀ x, x ∈ l → x < 2147483648) (ha : a < 8) (hb2 : b ≤ 240) (hn : a + 8 * b ∉ l) : ∃ (r' : RS) (l' : List Nat), f_Mo_note (Int32.ofNat a) (Int32.ofNat b) r = some r' ∧ FL r' l' ∧ l'.Pairwise (· < ·) ∧ l'.length = l.length + 1 ∧ (∀ x, x ∈ l' ↔ x = a + 8 * b ∨ x ∈ l) ∧ (∀ i, i ≠ 20 → r'.1 i = r.1 i) ∧ (∀ i, i ≠ 5 → r'.2.1 i = r.2.1 i) ∧ r'.2.2 = r.2.2 := by
  have ee : Int32.ofNat a + 8 * Int32.ofNat b = Int32.ofNat (a + 8 * b) := by
    rw [show (8 : Int32) * Int32.ofNat b = Int32.ofNat (8 * b) from o_mul (a := 8), o_add]
  obtain ⟨r', q, e1, e2, e3, e4, e5, e6, e7, e8, e9, e10⟩ := nt_loop (a := Int32.ofNat a) (b := Int32.ofNat b) (e := a + 8 * b) (l := l) (by omega) hl hb l.length r (99999 - l.length) (Nat.le_refl _) hF.1 hF.2 (fun i a b => by omega) (fun i a b => by omega)
  rw [show 99999 - l.length + l.length + 1 = 100000 by omega] at e2
  have hgd : ∀ i (h : i < l.length), l.getD i 0 = l[i] := fun i h => by
    rw [List.getD_eq_getElem?_getD, List.getElem?_eq_getElem h]; rfl
  have hpl : ∀ i j, i < j → j < l.length → l.getD i 0 < l.getD j 0 := fun i j hij hj => by
    rw [hgd i (by omega), hgd j hj]
    exact List.pairwise_iff_getElem.mp hs i j (by omega) hj hij
  have hlow : ∀ i, i < q → l.getD i 0 < a + 8 * b := fun i hi => by
    have h1 : l.getD i 0 ≤ a + 8 * b := by
      rcases e3 with h | h
      · omega
      · by_cases hi2 : i = q - 1
        · rw [hi2]; exact h.2
        · have := hpl i (q - 1) (by omega) (by omega)
          omega
    have h2 : l.getD i 0 ≠ a + 8 * b := fun h => hn (by
      rw [← h, hgd i (by omega)]
      exact List.getElem_mem _)
    omega
  refine ⟨r', l.take q ++ (a + 8 * b) :: l.drop q, ?_, ⟨?_, fun i hi => ?_⟩, ?_, ?_, fun x => ?_, e7, fun i hi => by rw [e5]; exact up_ne hi, e6⟩
  · unfold f_Mo_note
    rw [ee, hF.1]; exact e2
  · rw [e5, List.length_append, List.length_cons, List.length_take, List.length_drop, up_eq]
    congr 1; omega
  · rw [List.length_append, List.length_cons, List.length_take, List.length_drop] at hi
    rw [List.getD_eq_getElem?_getD, List.getElem?_append, List.length_take, Nat.min_eq_left e1]
    by_cases h1 : i < q
    · rw [if_pos h1, List.getElem?_take_of_lt h1, ← List.getD_eq_getElem?_getD]
      exact e8 i h1
    · rw [if_neg h1]
      by_cases h2 : i = q
      · rw [h2, Nat.sub_self]; exact e9
      · obtain ⟨t, ht⟩ : ∃ t, i = t + 1 := ⟨i - 1, by omega⟩
        rw [show i - q = (t - q) + 1 by omega, List.getElem?_cons_succ, List.getElem?_drop, show q + (t - q) = t by omega, ← List.getD_eq_getElem?_getD, ht]
        exact e10 t (by omega) (by omega)
  · rw [List.pairwise_append, List.pairwise_cons]
    refine ⟨hs.sublist (List.take_sublist _ _), ⟨fun x hx => ?_, hs.sublist (List.drop_sublist _ _)⟩, fun x hx y hy => ?_⟩
    · obtain ⟨i, hi, rfl⟩ := List.mem_iff_getElem.mp hx
      rw [List.length_drop] at hi
      rw [List.getElem_drop, ← hgd (q + i) (by omega)]
      exact e4 (q + i) (by omega) (by omega)
    · obtain ⟨i, hi, rfl⟩ := List.mem_iff_getElem.mp hx
      rw [List.length_take] at hi
      have hx1 : l.getD i 0 < a + 8 * b := hlow i (by omega)
      rw [List.getElem_take, ← hgd i (by omega)]
      rcases List.mem_cons.mp hy with h | h
      · rw [h]; exact hx1
      · obtain ⟨j, hj, rfl⟩ := List.mem_iff_getElem.mp h
        rw [List.length_drop] at hj
        rw [List.getElem_drop, ← hgd (q + j) (by omega)]
        have := e4 (q + j) (by omega) (by omega)
        omega
  · rw [List.length_append, List.length_cons, List.length_take, List.length_drop]
    omega
  · rw [List.mem_append, List.mem_cons]
    constructor
    · rintro (h | h | h)
      · exact Or.inr (List.mem_of_mem_take h)
      · exact Or.inl h
      · exact Or.inr (List.mem_of_mem_drop h)
    · rintro (h | h)
      · exact Or.inr (Or.inl h)
      · rw [← List.take_append_drop q l] at h
        rcases List.mem_append.mp h with h1 | h1
        · exact Or.inl h1
        · exact Or.inr (Or.inr h1)
theorem srt_eq : ∀ {l l' : List Nat}, l.Pairwise (· < ·) → l'.Pairwise (· < ·) → (∀ x, x ∈ l ↔ x ∈ l') → l = l'
  | [], [], _, _, _ => rfl
  | [], b :: l', _, _, h => absurd ((h b).mpr (List.mem_cons_self ..)) List.not_mem_nil
  | a :: l, [], _, _, h => absurd ((h a).mp (List.mem_cons_self ..)) List.not_mem_nil
  | a :: l, b :: l', h1, h2, h => by
    obtain ⟨p1, p2⟩ := List.pairwise_cons.mp h1
    obtain ⟨q1, q2⟩ := List.pairwise_cons.mp h2
    have hab : a = b := by
      rcases List.mem_cons.mp ((h a).mp (List.mem_cons_self ..)) with h3 | h3
      · exact h3
      · rcases List.mem_cons.mp ((h b).mpr (List.mem_cons_self ..)) with h4 | h4
        · exact h4.symm
        · have := q1 a h3
          have := p1 b h4
          omega
    subst hab
    rw [srt_eq p2 q2 (fun x => ⟨fun hx => ?_, fun hx => ?_⟩)]
    · rcases List.mem_cons.mp ((h x).mp (List.mem_cons_of_mem _ hx)) with h3 | h3
      · subst h3; exact absurd (p1 x hx) (Nat.lt_irrefl _)
      · exact h3
    · rcases List.mem_cons.mp ((h x).mpr (List.mem_cons_of_mem _ hx)) with h3 | h3
      · subst h3; exact absurd (q1 x hx) (Nat.lt_irrefl _)
      · exact h3
