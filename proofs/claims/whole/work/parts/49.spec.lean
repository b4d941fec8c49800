/-! what names mean: first and last that fit -/
def exB (P : Nat → Bool) : Nat → Bool
  | 0 => false
  | n + 1 => exB P n || P n
theorem exB_t {P : Nat → Bool} : ∀ n, exB P n = true ↔ ∃ q, q < n ∧ P q = true
  | 0 => ⟨fun h => absurd (show false = true from h) (by decide), fun ⟨q, h, _⟩ => absurd h (Nat.not_lt_zero _)⟩
  | n + 1 => by
    show (exB P n || P n) = true ↔ _
    rw [Bool.or_eq_true, exB_t n]
    constructor
    · rintro (⟨q, h1, h2⟩ | h)
      · exact ⟨q, by omega, h2⟩
      · exact ⟨n, by omega, h⟩
    · rintro ⟨q, h1, h2⟩
      by_cases hq : q = n
      · subst hq; exact Or.inr h2
      · exact Or.inl ⟨q, by omega, h2⟩
def lsB (P : Nat → Bool) : Nat → Nat
  | 0 => 0
  | n + 1 => if P n then n + 1 else lsB P n
theorem lsB_ok {P : Nat → Bool} : ∀ n, (lsB P n = 0 ∧ ∀ q, q < n → P q = false) ∨ ∃ q, lsB P n = q + 1 ∧ q < n ∧ P q = true ∧ ∀ i, q < i → i < n → P i = false
  | 0 => Or.inl ⟨rfl, fun q h => absurd h (Nat.not_lt_zero _)⟩
  | n + 1 => by
    show ((if P n then n + 1 else lsB P n) = 0 ∧ _) ∨ ∃ q, (if P n then n + 1 else lsB P n) = q + 1 ∧ _
    cases hp : P n with
    | true => exact Or.inr ⟨n, rfl, by omega, hp, fun i h1 h2 => by omega⟩
    | false =>
      rcases lsB_ok (P := P) n with ⟨h1, h2⟩ | ⟨q, h1, h2, h3, h4⟩
      · refine Or.inl ⟨h1, fun q hq => ?_⟩
        by_cases hqn : q = n
        · subst hqn; exact hp
        · exact h2 q (by omega)
      · refine Or.inr ⟨q, h1, by omega, h3, fun i hi1 hi2 => ?_⟩
        by_cases hin : i = n
        · subst hin; exact hp
        · exact h4 i hi1 (by omega)
theorem lsB_eq {P : Nat → Bool} {n q : Nat} (h1 : q < n) (h2 : P q = true) (h3 : ∀ i, q < i → i < n → P i = false) : lsB P n = q + 1 := by
  rcases lsB_ok (P := P) n with ⟨-, g⟩ | ⟨q', g1, g2, g3, g4⟩
  · rw [g q h1] at h2; exact absurd h2 (by decide)
  · have : q' = q := by
      by_cases hlt : q' < q
      · rw [g4 q hlt h1] at h2; exact absurd h2 (by decide)
      · by_cases hgt : q < q'
        · rw [h3 q' hgt g2] at g3; exact absurd g3 (by decide)
        · omega
    rw [g1, this]
theorem lsB_no {P : Nat → Bool} {n : Nat} (h : ∀ i, i < n → P i = false) : lsB P n = 0 := by
  rcases lsB_ok (P := P) n with ⟨g, -⟩ | ⟨q', g1, g2, g3, g4⟩
  · exact g
  · rw [h q' g2] at g3; exact absurd g3 (by decide)
def fsB (P : Nat → Bool) : Nat → Nat
  | 0 => 0
  | n + 1 => if fsB P n = 0 then (if P n then n + 1 else 0) else fsB P n
theorem fsB_ok {P : Nat → Bool} : ∀ n, (fsB P n = 0 ∧ ∀ q, q < n → P q = false) ∨ ∃ q, fsB P n = q + 1 ∧ q < n ∧ P q = true ∧ ∀ i, i < q → P i = false
  | 0 => Or.inl ⟨rfl, fun q h => absurd h (Nat.not_lt_zero _)⟩
  | n + 1 => by
    show ((if fsB P n = 0 then (if P n then n + 1 else 0) else fsB P n) = 0 ∧ _) ∨ ∃ q, (if fsB P n = 0 then (if P n then n + 1 else 0) else fsB P n) = q + 1 ∧ _
    rcases fsB_ok (P := P) n with ⟨h1, h2⟩ | ⟨q, h1, h2, h3, h4⟩
    · rw [if_pos h1]
      cases hp : P n with
      | true => exact Or.inr ⟨n, rfl, by omega, hp, h2⟩
      | false =>
        refine Or.inl ⟨rfl, fun q hq => ?_⟩
        by_cases hqn : q = n
        · subst hqn; exact hp
        · exact h2 q (by omega)
    · rw [if_neg (by omega)]
      exact Or.inr ⟨q, h1, by omega, h3, h4⟩
theorem fsB_eq {P : Nat → Bool} {n q : Nat} (h1 : q < n) (h2 : P q = true) (h3 : ∀ i, i < q → P i = false) : fsB P n = q + 1 := by
  rcases fsB_ok (P := P) n with ⟨-, g⟩ | ⟨q', g1, g2, g3, g4⟩
  · rw [g q h1] at h2; exact absurd h2 (by decide)
  · have : q' = q := by
      by_cases hlt : q' < q
      · rw [h3 q' hlt] at g3; exact absurd g3 (by decide)
      · by_cases hgt : q < q'
        · rw [g4 q hgt] at h2; exact absurd h2 (by decide)
        · omega
    rw [g1, this]
theorem fsB_no {P : Nat → Bool} {n : Nat} (h : ∀ i, i < n → P i = false) : fsB P n = 0 := by
  rcases fsB_ok (P := P) n with ⟨g, -⟩ | ⟨q', g1, g2, g3, g4⟩
  · exact g
  · rw [h q' g2] at g3; exact absurd g3 (by decide)
/-- Names over tokens: role, name, scope, since, until. -/
def rpB (R nm Sc : Nat → Nat) (k q : Nat) : Bool := decide ((if R k = 1 then R q = 1 else (R q = 2 ∨ R q = 3) ∧ Sc q = Sc k) ∧ nm q = nm k)
def rp (R nm Sc : Nat → Nat) (k : Nat) : Bool := exB (rpB R nm Sc k) k
def ftB (R nm Sc Si Un : Nat → Nat) (w k q : Nat) : Bool := decide (R q = 2 ∨ R q = 3) && (!(rp R nm Sc q)) && decide (nm q = w ∧ Si q ≤ k ∧ k < Un q)
def mean (R nm Sc Si Un : Nat → Nat) (N w k : Nat) : Nat := lsB (ftB R nm Sc Si Un w k) N
def hdB (R nm : Nat → Nat) (w q : Nat) : Bool := decide (R q = 1 ∧ nm q = w)
def hd (R nm : Nat → Nat) (N w : Nat) : Nat := fsB (hdB R nm w) N
/-- What the model holds of names. -/
def MW (cl nm sk : Nat → Nat) (N : Nat) (R G Sc Si Un np : Nat → Nat) (ok : Nat → Bool) (r : RS) : Prop := MTok cl nm sk N r ∧ (∀ k, k < N → r.1 9 k = Int32.ofNat (R k) ∧ R k ≤ 6 ∧ (R k ≠ 0 → cl k = 200) ∧ (R k = 6 → r.1 12 k = Int32.ofNat (G k)) ∧ (R k = 2 ∨ R k = 3 → r.1 13 k = Int32.ofNat (Sc k) ∧ Sc k < 240 ∧ r.1 14 k = Int32.ofNat (Si k) ∧ Si k ≤ 240 ∧ r.1 15 k = Int32.ofNat (Un k) ∧ Un k ≤ 240)) ∧ r.2.1 4 = Int32.ofNat (ps cl N).length ∧ (∀ i, i < (ps cl N).length → r.1 17 i = Int32.ofNat (bd cl N (i + 1)) ∧ (ok i = true → r.1 19 i = Int32.ofNat (np i)))
theorem MW.cg {cl nm sk : Nat → Nat} {N : Nat} {R G Sc Si Un np : Nat → Nat} {ok : Nat → Bool} {r r' : RS} (h : MW cl nm sk N R G Sc Si Un np ok r) (hA : ∀ i, i ≠ 10 → i ≠ 20 → r'.1 i = r.1 i) (hI : ∀ i, i ≠ 5 → r'.2.1 i = r.2.1 i) (hl : r'.2.2 = r.2.2) : MW cl nm sk N R G Sc Si Un np ok r' := by
  obtain ⟨h1, h2, h3, h4⟩ := h
  refine ⟨h1.cg (hI 3 (by decide)) hl (hA 5 (by decide) (by decide)) (hA 6 (by decide) (by decide)) (hA 2 (by decide) (by decide)), ?_, (hI 4 (by decide)).trans h3, ?_⟩
  · rw [hA 9 (by decide) (by decide), hA 12 (by decide) (by decide), hA 13 (by decide) (by decide), hA 14 (by decide) (by decide), hA 15 (by decide) (by decide)]
    exact h2
  · rw [hA 17 (by decide) (by decide), hA 19 (by decide) (by decide)]
    exact h4
theorem MW.wd {cl nm sk : Nat → Nat} {N : Nat} {R G Sc Si Un np : Nat → Nat} {ok : Nat → Bool} {r : RS} {k : Nat} (h : MW cl nm sk N R G Sc Si Un np ok r) (hk : k < N) (h0 : R k ≠ 0) : r.2.2 8 k = Int64.ofNat (nm k) := (h.1.2.2 k hk).2.2.2.2.1 (Or.inl ((h.2.1 k hk).2.2.1 h0))
theorem rep_loop {cl nm sk : Nat → Nat} {N : Nat} {R G Sc Si Un np : Nat → Nat} {ok : Nat → Bool} {r : RS} {k : Nat} (hK : TK cl nm N) (hW : MW cl nm sk N R G Sc Si Un np ok r) (hk : k < N) (hR : R k = 1 ∨ R k = 2 ∨ R k = 3) : ∀ (z q : Nat) (M : Nat), k - q = z → q ≤ k → lpN BMo_isRepeated_4 (M + z + 1) (Int32.ofNat k, (if exB (rpB R nm Sc k) q then 1 else 0), Int32.ofNat q, r) = some (if rp R nm Sc k then 1 else 0, r) := by
  intro z
  have hN := hK.1
  induction z with
  | zero =>
    intro q M h1 h2
    have : q = k := by omega
    subst this
    rw [Nat.add_zero, lp_succ]
    unfold BMo_isRepeated_4 rp
    dsimp only
    rw [if_pos (by rw [i_le]; omega)]
    split
    · rw [isb1]; rfl
    · rw [isb0]; rfl
  | succ z ih =>
    intro q M h1 h2
    obtain ⟨a9, a6, a200, -, a13⟩ := hW.2.1 k hk
    obtain ⟨c9, c6, c200, -, c13⟩ := hW.2.1 q (by omega)
    have ik : inb (Int32.ofNat k) 240 = true := o_inb (by omega) (by omega)
    have iq : inb (Int32.ofNat q) 240 = true := o_inb (by omega) (by omega)
    have s1 : (Int32.ofNat (R k) = 1) = (R k = 1) := o_eq (b := 1) (by omega) (by omega)
    have t1 : (Int32.ofNat (R q) = 1) = (R q = 1) := o_eq (b := 1) (by omega) (by omega)
    have t2 : (Int32.ofNat (R q) = 2) = (R q = 2) := o_eq (b := 2) (by omega) (by omega)
    have t3 : (Int32.ofNat (R q) = 3) = (R q = 3) := o_eq (b := 3) (by omega) (by omega)
    have wk := hW.wd hk (by omega)
    have ih' := ih (q + 1) M (by omega) (by omega)
    have hex : exB (rpB R nm Sc k) (q + 1) = (exB (rpB R nm Sc k) q || rpB R nm Sc k q) := rfl
    rw [hex] at ih'
    have hnk := hK.2.2.1 k
    have hnq := hK.2.2.1 q
    rw [show M + (z + 1) + 1 = (M + z + 1) + 1 by omega, lp_succ]
    unfold BMo_isRepeated_4
    simp only [ik, iq, ↓reduceIte, o_nat (show k < 2147483648 by omega), o_nat (show q < 2147483648 by omega), a9, c9, s1, t1, t2, t3, o_p1]
    rw [if_neg (by rw [o_le (by omega) (by omega)]; omega)]
    have hcmp : R q ≠ 0 → (lg_cmp (r.2.2 8 q) (r.2.2 8 k) = 0) = (nm q = nm k) := fun h0 => by
      rw [hW.wd (show q < N by omega) h0, wk]; exact l_cmp (by omega) (by omega)
    cases hb : exB (rpB R nm Sc k) q with
    | true =>
      rw [hb, Bool.true_or] at ih'
      simp only [↓reduceIte] at ih'
      simp only [bindv, ↓reduceIte, ne10, ite_self]
      exact ih'
    | false =>
      rw [hb, Bool.false_or] at ih'
      simp only [Bool.false_eq_true, ↓reduceIte] at ih' ⊢
      have key : ∀ (P : Prop) [Decidable P], (rpB R nm Sc k q = decide P) → (P → lpN BMo_isRepeated_4 (M + z + 1) (Int32.ofNat k, 1, Int32.ofNat (q + 1), r) = some (if rp R nm Sc k then 1 else 0, r)) ∧ (¬ P → lpN BMo_isRepeated_4 (M + z + 1) (Int32.ofNat k, 0, Int32.ofNat (q + 1), r) = some (if rp R nm Sc k then 1 else 0, r)) := by
        intro P _ hP
        rw [hP] at ih'
        refine ⟨fun h => ?_, fun h => ?_⟩
        · rw [decide_eq_true h] at ih'; exact ih'
        · rw [decide_eq_false h] at ih'; exact ih'
      obtain ⟨ky, kn⟩ := key ((if R k = 1 then R q = 1 else (R q = 2 ∨ R q = 3) ∧ Sc q = Sc k) ∧ nm q = nm k) rfl
      by_cases h1' : R k = 1
      · simp only [h1', ↓reduceIte] at ky kn ⊢
        by_cases hq1 : R q = 1
        · simp only [hq1, ↓reduceIte, bindv, hcmp (by omega), true_and] at ky kn ⊢
          by_cases hn : nm q = nm k
          · rw [if_pos hn]; exact ky hn
          · rw [if_neg hn]; exact kn hn
        · rw [if_neg hq1]
          exact kn (fun h => hq1 h.1)
      · simp only [h1', ↓reduceIte] at ky kn ⊢
        have ak := (a13 (by omega))
        have go : (R q = 2 ∨ R q = 3) → (if r.1 13 q = r.1 13 k then bindv (lg_cmp (r.2.2 8 q) (r.2.2 8 k)) (fun v => if v = 0 then lpN BMo_isRepeated_4 (M + z + 1) (Int32.ofNat k, 1, Int32.ofNat (q + 1), r) else lpN BMo_isRepeated_4 (M + z + 1) (Int32.ofNat k, 0, Int32.ofNat (q + 1), r)) else lpN BMo_isRepeated_4 (M + z + 1) (Int32.ofNat k, 0, Int32.ofNat (q + 1), r)) = some (if rp R nm Sc k then 1 else 0, r) := by
          intro hq
          have cq := c13 hq
          have hsc : (r.1 13 q = r.1 13 k) = (Sc q = Sc k) := by
            rw [cq.1, ak.1]; exact o_eq (by omega) (by omega)
          simp only [hsc, bindv, hcmp (by omega)]
          by_cases hs : Sc q = Sc k
          · rw [if_pos hs]
            by_cases hn : nm q = nm k
            · rw [if_pos hn]; exact ky ⟨⟨hq, hs⟩, hn⟩
            · rw [if_neg hn]; exact kn (fun h => hn h.2)
          · rw [if_neg hs]; exact kn (fun h => hs h.1.2)
        by_cases hq2 : R q = 2
        · rw [if_pos hq2]; exact go (Or.inl hq2)
        · rw [if_neg hq2]
          by_cases hq3 : R q = 3
          · rw [if_pos hq3]; exact go (Or.inr hq3)
          · rw [if_neg hq3]; exact kn (fun h => by omega)
theorem repM {cl nm sk : Nat → Nat} {N : Nat} {R G Sc Si Un np : Nat → Nat} {ok : Nat → Bool} {r : RS} {k : Nat} (hK : TK cl nm N) (hW : MW cl nm sk N R G Sc Si Un np ok r) (hk : k < N) (hR : R k = 1 ∨ R k = 2 ∨ R k = 3) : f_Mo_isRepeated (Int32.ofNat k) r = some (if rp R nm Sc k then 1 else 0, r) := by
  have hN := hK.1
  have := rep_loop hK hW hk hR k 0 (99999 - k) rfl (by omega)
  rw [show 99999 - k + k + 1 = 100000 by omega] at this
  exact this
theorem hdM {cl nm sk : Nat → Nat} {N : Nat} {R G Sc Si Un np : Nat → Nat} {ok : Nat → Bool} {r : RS} {w : Nat} (hK : TK cl nm N) (hW : MW cl nm sk N R G Sc Si Un np ok r) (hw : w < 1073741824) : f_Mo_functionNamed (Int64.ofNat w) r = some (pm (hd R nm N w), r) := by
  have hN := hK.1
  have loop : ∀ (z q : Nat) (M : Nat), N - q = z → q ≤ N → (∀ i, i < q → hdB R nm w i = false) → lpN BMo_functionNamed_2 (M + z + 1) (Int64.ofNat w, Int32.ofNat q, r) = some (pm (hd R nm N w), r) := by
    intro z
    induction z with
    | zero =>
      intro q M h1 h2 h3
      have : q = N := by omega
      subst this
      rw [Nat.add_zero, lp_succ]
      unfold BMo_functionNamed_2
      dsimp only
      rw [hW.1.1, if_pos (by rw [i_le]; omega)]
      unfold hd
      rw [fsB_no h3]; rfl
    | succ z ih =>
      intro q M h1 h2 h3
      obtain ⟨c9, c6, c200, -, c13⟩ := hW.2.1 q (by omega)
      have iq : inb (Int32.ofNat q) 240 = true := o_inb (by omega) (by omega)
      have t1 : (Int32.ofNat (R q) = 1) = (R q = 1) := o_eq (b := 1) (by omega) (by omega)
      have hnq := hK.2.2.1 q
      rw [show M + (z + 1) + 1 = (M + z + 1) + 1 by omega, lp_succ]
      unfold BMo_functionNamed_2
      simp only [hW.1.1, iq, ↓reduceIte, o_nat (show q < 2147483648 by omega), c9, t1, o_p1]
      rw [if_neg (by rw [o_le (by omega) (by omega)]; omega)]
      have next : hdB R nm w q = false → lpN BMo_functionNamed_2 (M + z + 1) (Int64.ofNat w, Int32.ofNat (q + 1), r) = some (pm (hd R nm N w), r) := fun h => ih (q + 1) M (by omega) (by omega) (fun i hi => by
        by_cases hiq : i = q
        · subst hiq; exact h
        · exact h3 i (by omega))
      by_cases h1' : R q = 1
      · have hcmp : (lg_cmp (r.2.2 8 q) (Int64.ofNat w) = 0) = (nm q = w) := by
          rw [hW.wd (show q < N by omega) (by omega)]; exact l_cmp (by omega) (by omega)
        rw [if_pos h1']
        simp only [bindv, hcmp]
        by_cases hn : nm q = w
        · rw [if_pos hn]
          unfold hd
          rw [fsB_eq (show q < N by omega) (decide_eq_true ⟨h1', hn⟩) h3]; rfl
        · rw [if_neg hn]
          exact next (decide_eq_false (fun h => hn h.2))
      · rw [if_neg h1']
        exact next (decide_eq_false (fun h => h1' h.1))
  have := loop N 0 (99999 - N) rfl (by omega) (fun i hi => absurd hi (Nat.not_lt_zero _))
  rw [show 99999 - N + N + 1 = 100000 by omega] at this
  exact this
theorem ptM {cl nm sk : Nat → Nat} {N : Nat} {R G Sc Si Un np : Nat → Nat} {ok : Nat → Bool} {r : RS} {k : Nat} (hK : TK cl nm N) (hW : MW cl nm sk N R G Sc Si Un np ok r) (hk : k < N) : f_Mo_partOf (Int32.ofNat k) r = some (Int32.ofNat (pt cl N k), r) := by
  have hN := hK.1
  obtain ⟨b1, b2, b3, b4, b5, b6, b7, b8⟩ := bd_ok hK
  obtain ⟨p1, p2, p3⟩ := pt_ok hK hk
  have loop : ∀ (z q : Nat) (M : Nat), pt cl N k - q = z → q ≤ pt cl N k → lpN BMo_partOf_2 (M + z + 1) (Int32.ofNat k, Int32.ofNat q, r) = some (Int32.ofNat (pt cl N k), r) := by
    intro z
    induction z with
    | zero =>
      intro q M h1 h2
      have : q = pt cl N k := by omega
      subst this
      rw [Nat.add_zero, lp_succ]
      unfold BMo_partOf_2
      simp only [hW.2.2.1, o_inb (show pt cl N k < 122 by omega) (show pt cl N k < 2147483648 by omega), o_nat (show pt cl N k < 2147483648 by omega), ↓reduceIte, (hW.2.2.2 _ p1).1]
      have := b5 (pt cl N k + 1)
      rw [if_neg (by rw [o_le (by omega) (by omega)]; omega), if_pos (by rw [o_lt (by omega) (by omega)]; exact p3)]
    | succ z ih =>
      intro q M h1 h2
      have hq : q < (ps cl N).length := by omega
      have hle := bd_le hK (pt cl N k - (q + 1)) (q + 1)
      rw [show q + 1 + (pt cl N k - (q + 1)) = pt cl N k by omega] at hle
      rw [show M + (z + 1) + 1 = (M + z + 1) + 1 by omega, lp_succ]
      unfold BMo_partOf_2
      simp only [hW.2.2.1, o_inb (show q < 122 by omega) (show q < 2147483648 by omega), o_nat (show q < 2147483648 by omega), ↓reduceIte, (hW.2.2.2 _ hq).1, o_p1]
      have := b5 (q + 1)
      rw [if_neg (by rw [o_le (by omega) (by omega)]; omega), if_neg (by rw [o_lt (by omega) (by omega)]; omega)]
      exact ih (q + 1) M (by omega) (by omega)
  have := loop (pt cl N k) 0 (99999 - pt cl N k) rfl (by omega)
  rw [show 99999 - pt cl N k + pt cl N k + 1 = 100000 by omega] at this
  exact this
