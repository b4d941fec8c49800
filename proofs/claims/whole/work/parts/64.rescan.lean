/-! the tokens of the changed text -/
def gapL (T : Nat → Nat) (n : Nat) : Nat → List (Nat × Nat) → Prop
  | p, [] => ∀ i, p ≤ i → i < n → gr (T i) = 0
  | p, x :: l => (∀ i, p ≤ i → i < x.1 → gr (T i) = 0) ∧ p ≤ x.1 ∧ (x.2 < n → gr (T x.1) = 2 ∨ gr (T x.1) = 3 → gr (T x.2) ≠ gr (T x.1)) ∧ (gr (T x.1) ≠ 2 → gr (T x.1) ≠ 3 → x.2 = x.1 + 1) ∧ gapL T n x.2 l
theorem scan_gap {T : Nat → Nat} {n : Nat} : ∀ (f p : Nat), n - p ≤ f → p ≤ n → gapL T n p (scanL T n f p)
  | 0, p, h1, h2 => fun i h3 h4 => by omega
  | f + 1, p, h1, h2 => by
    unfold scanL
    by_cases hp : p < n
    · rw [if_pos hp]
      by_cases h0 : gr (T p) = 0
      · rw [if_pos h0]
        have ih := scan_gap (T := T) (n := n) f (p + 1) (by omega) (by omega)
        cases hl : scanL T n f (p + 1) with
        | nil =>
          rw [hl] at ih
          intro i h3 h4
          by_cases hi : i = p
          · subst hi; exact h0
          · exact ih i (by omega) h4
        | cons x l =>
          rw [hl] at ih
          obtain ⟨g1, g2, g3⟩ := ih
          refine ⟨fun i h3 h4 => ?_, by omega, g3⟩
          by_cases hi : i = p
          · subst hi; exact h0
          · exact g1 i (by omega) h4
      · rw [if_neg h0]
        obtain ⟨k1, k2, k3, k4, k5⟩ := tkE_ok T n p hp
        exact ⟨fun i h3 h4 => absurd (show i < p from h4) (by omega), Nat.le_refl _, k4, k5, scan_gap f (tkE T n p) (by omega) k2⟩
    · rw [if_neg hp]
      intro i h3 h4
      omega
/-- A text's tokens, list by list. -/
def rnM (T : Nat → Nat) (sel : Nat → Bool) (W : List Nat) : Nat → List (Nat × Nat) → List (List Nat)
  | _, [] => []
  | k, x :: l => (if sel k then W else sT T x) :: rnM T sel W (k + 1) l
theorem rn_cut {T : Nat → Nat} {n : Nat} {sk ek : Nat → Nat} {sel : Nat → Bool} {W : List Nat} : ∀ (m z k place : Nat), place + m ≤ n → (∀ q, k ≤ q → q < k + z → sel q = true → place + m ≤ sk q) → rnL T n sk ek sel W z k place = piece T place m ++ rnL T n sk ek sel W z k (place + m)
  | 0, z, k, place, _, _ => rfl
  | m + 1, z, k, place, h1, h2 => by
    rw [rn_step z k place (by omega) (fun q q1 q2 q3 => by have := h2 q q1 q2 q3; omega), piece_cons, rn_cut m z k (place + 1) (by omega) (fun q q1 q2 q3 => by have := h2 q q1 q2 q3; omega), show place + 1 + m = place + (m + 1) by omega]
    rfl
theorem rn_head {T : Nat → Nat} {n : Nat} {sk ek : Nat → Nat} {sel : Nat → Bool} {W : List Nat} (hW : W ≠ []) (hW2 : ∀ x, x ∈ W → gr x = 2) (place z k : Nat) (hsel : ∀ q, k ≤ q → q < k + z → sel q = true → gr (T (sk q)) = 2) (hle : ∀ q, k ≤ q → q < k + z → place ≤ sk q) (hinc : ∀ q, k ≤ q → q + 1 < k + z → sk q < sk (q + 1)) (hn : ∀ q, k ≤ q → q < k + z → sk q < n) : ∀ c r', rnL T n sk ek sel W z k place = c :: r' → place < n ∧ gr c = gr (T place) := by
  induction z generalizing k with
  | zero =>
    intro c r' h
    have h : piece T place (n - place) = c :: r' := h
    by_cases hp : place < n
    · rw [show n - place = (n - place - 1) + 1 by omega, piece_cons] at h
      have := (List.cons.inj h).1
      exact ⟨hp, by rw [← this]⟩
    · rw [show n - place = 0 by omega] at h
      exact absurd h (by simp [piece])
  | succ z ih =>
    intro c r' h
    have h : (if sel k then piece T place (sk k - place) ++ W ++ rnL T n sk ek sel W z (k + 1) (ek k) else rnL T n sk ek sel W z (k + 1) place) = c :: r' := h
    have hl := hle k (Nat.le_refl _) (by omega)
    have hnk := hn k (Nat.le_refl _) (by omega)
    cases hs : sel k with
    | true =>
      rw [hs, if_pos rfl] at h
      refine ⟨by omega, ?_⟩
      by_cases he : place = sk k
      · rw [← he, Nat.sub_self] at h
        cases hWv : W with
        | nil => exact absurd hWv hW
        | cons w W' =>
          rw [hWv] at h
          have h' : w :: (W' ++ rnL T n sk ek sel (w :: W') z (k + 1) (ek k)) = c :: r' := h
          have h1 := (List.cons.inj h').1
          rw [← h1, hW2 w (by rw [hWv]; exact List.mem_cons_self ..), he, hsel k (Nat.le_refl _) (by omega) hs]
      · rw [show sk k - place = (sk k - place - 1) + 1 by omega, piece_cons] at h
        have := (List.cons.inj h).1
        rw [← this]
    | false =>
      rw [hs] at h
      simp only [Bool.false_eq_true, ↓reduceIte] at h
      exact ih (k + 1) (fun q q1 q2 => hsel q (by omega) (by omega)) (fun q q1 q2 => hle q (by omega) (by omega)) (fun q q1 q2 => hinc q (by omega) (by omega)) (fun q q1 q2 => hn q (by omega) (by omega)) c r' h
theorem piece_mem {T : Nat → Nat} : ∀ (m a : Nat) (y : Nat), y ∈ piece T a m → ∃ i, i < m ∧ y = T (a + i) := by
  intro m
  induction m with
  | zero => intro a y hy; exact absurd hy List.not_mem_nil
  | succ m ih2 =>
    intro a y hy
    rcases List.mem_append.mp hy with h | h
    · obtain ⟨i, i1, i2⟩ := ih2 a y h
      exact ⟨i, by omega, i2⟩
    · exact ⟨m, by omega, List.mem_singleton.mp h⟩
theorem rn_lex {T : Nat → Nat} {n : Nat} {sel : Nat → Bool} {W : List Nat} {l0 : List (Nat × Nat)} (hT : TkL T n l0) (hS : TS (fun k => (l0.getD k (0, 0)).1) (fun k => (l0.getD k (0, 0)).2) l0.length) (hW : W ≠ []) (hW2 : ∀ x, x ∈ W → gr x = 2) (hsel : ∀ q, q < l0.length → sel q = true → gr (T (l0.getD q (0, 0)).1) = 2) : ∀ (l : List (Nat × Nat)) (k place f : Nat), l0.drop k = l → gapL T n place l → place ≤ n → (rnL T n (fun k => (l0.getD k (0, 0)).1) (fun k => (l0.getD k (0, 0)).2) sel W l.length k place).length ≤ f → lexC f (rnL T n (fun k => (l0.getD k (0, 0)).1) (fun k => (l0.getD k (0, 0)).2) sel W l.length k place) = rnM T sel W k l := by
  intro l
  induction l with
  | nil =>
    intro k place f hd hg hp hf
    have hg : ∀ i, place ≤ i → i < n → gr (T i) = 0 := hg
    show lexC f (piece T place (n - place)) = []
    have hf' : (piece T place (n - place)).length ≤ f := hf
    have := lex_blank (piece T place (n - place)) [] f (fun x hx => by
      obtain ⟨i, hi, rfl⟩ := piece_mem _ _ x hx
      exact hg _ (by omega) (by omega)) (by rw [List.append_nil]; exact hf')
    rw [List.append_nil] at this
    rw [this]
    cases f <;> rfl
  | cons x l ih =>
    intro k place f hd hg hp hf
    obtain ⟨g1, g2, g3, g4, g5⟩ := hg
    have hk : k < l0.length := by
      by_cases h : k < l0.length
      · exact h
      · rw [List.drop_eq_nil_of_le (by omega)] at hd
        exact absurd hd (by simp)
    have hx : l0.getD k (0, 0) = x := by
      have h1 : l0[k]? = some x := by
        have := congrArg (fun y => y[0]?) hd
        simp only [List.getElem?_drop, Nat.add_zero] at this
        rw [this]; rfl
      rw [List.getD_eq_getElem?_getD, h1]; rfl
    have hdl : l0.drop (k + 1) = l := by
      have := congrArg (fun y => y.drop 1) hd
      simp only [List.drop_drop] at this
      exact this
    have hlen : l.length = l0.length - (k + 1) := by rw [← hdl, List.length_drop]
    obtain ⟨t1, t2, t3, t4⟩ := hT k hk
    rw [hx] at t1 t2 t3 t4
    have hnext : ∀ q, k + 1 ≤ q → q < l0.length → x.2 ≤ (l0.getD q (0, 0)).1 := fun q q1 q2 => by
      have := (hS.lt (show k < q by omega) q2).1
      have this' : (l0.getD k (0, 0)).2 ≤ (l0.getD q (0, 0)).1 := this
      rw [hx] at this'
      exact this'
    -- blanks, a string, the rest
    have hform : rnL T n (fun k => (l0.getD k (0, 0)).1) (fun k => (l0.getD k (0, 0)).2) sel W (x :: l).length k place = piece T place (x.1 - place) ++ ((if sel k then W else sT T x) ++ rnL T n (fun k => (l0.getD k (0, 0)).1) (fun k => (l0.getD k (0, 0)).2) sel W l.length (k + 1) x.2) := by
      show (if sel k then piece T place ((l0.getD k (0, 0)).1 - place) ++ W ++ rnL T n (fun k => (l0.getD k (0, 0)).1) (fun k => (l0.getD k (0, 0)).2) sel W l.length (k + 1) (l0.getD k (0, 0)).2 else rnL T n (fun k => (l0.getD k (0, 0)).1) (fun k => (l0.getD k (0, 0)).2) sel W l.length (k + 1) place) = _
      rw [hx]
      cases hs : sel k with
      | true => rw [if_pos rfl, if_pos rfl, List.append_assoc]
      | false =>
        simp only [Bool.false_eq_true, ↓reduceIte]
        rw [rn_cut (x.1 - place) l.length (k + 1) place (by omega) (fun q q1 q2 _ => by have := hnext q q1 (by omega); show _ ≤ (l0.getD q (0, 0)).1; omega), show place + (x.1 - place) = x.1 by omega, rn_cut (x.2 - x.1) l.length (k + 1) x.1 (by omega) (fun q q1 q2 _ => by have := hnext q q1 (by omega); show _ ≤ (l0.getD q (0, 0)).1; omega), show x.1 + (x.2 - x.1) = x.2 by omega]
        rfl
    have hpg : ∀ (m a : Nat) (y : Nat), y ∈ piece T a m → ∃ i, i < m ∧ y = T (a + i) := by
      intro m
      induction m with
      | zero => intro a y hy; exact absurd hy List.not_mem_nil
      | succ m ih2 =>
        intro a y hy
        rcases List.mem_append.mp hy with h | h
        · obtain ⟨i, i1, i2⟩ := ih2 a y h
          exact ⟨i, by omega, i2⟩
        · exact ⟨m, by omega, List.mem_singleton.mp h⟩
    rw [hform] at hf ⊢
    rw [List.length_append] at hf
    rw [lex_blank _ _ f (fun y hy => by
      obtain ⟨i, i1, rfl⟩ := hpg _ _ y hy
      exact g1 _ (by omega) (by omega)) (by rw [List.length_append]; exact hf)]
    have htk : tokS (if sel k then W else sT T x) (gr (T x.1)) := by
      cases hs : sel k with
      | true =>
        have h2 := hsel k hk hs
        rw [hx] at h2
        rw [if_pos rfl, h2]
        exact ⟨by omega, hW, hW2, fun h => absurd rfl h⟩
      | false =>
        simp only [Bool.false_eq_true, ↓reduceIte]
        refine ⟨t3, ?_, fun y hy => ?_, fun h2 h3 => ?_⟩
        · intro h
          have := congrArg List.length h
          have h' : (piece T x.1 (x.2 - x.1)).length = 0 := this
          rw [piece_len] at h'
          omega
        · obtain ⟨i, i1, rfl⟩ := hpg _ _ y hy
          exact t4 _ (by omega) (by omega)
        · show (piece T x.1 (x.2 - x.1)).length = 1
          rw [piece_len, g4 h2 h3]; omega
    rw [lex_tok htk (fun h23 c r' he => ?_) (by rw [List.length_append] at hf ⊢; omega), ih (k + 1) x.2 f hdl g5 t2 (by rw [List.length_append] at hf; omega)]
    · rfl
    · obtain ⟨z1, z2⟩ := rn_head (T := T) (n := n) hW hW2 x.2 l.length (k + 1) (fun q q1 q2 q3 => hsel q (by omega) q3) (fun q q1 q2 => hnext q q1 (by omega)) (fun q q1 q2 => (hS.lt (show q < q + 1 by omega) (by omega)).2) (fun q q1 q2 => by
        have := hT q (by omega)
        show (l0.getD q (0, 0)).1 < n
        omega) c r' he
      rw [z2]
      exact g3 z1 h23
