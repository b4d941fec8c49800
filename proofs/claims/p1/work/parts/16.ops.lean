/-! the law out of its operations, one by one: no machine here -/
def OpA2 (Rel Rel2 : DS → DS → DS → RS → Prop) (F : DS → DS → DS → Option (Int32 × DS × DS × DS)) (G : RS → Option (Int32 × RS)) : Prop := ∀ (k d b : DS) (r : RS), Rel k d b r → ∃ (q : Int32 × DS × DS × DS) (q' : Int32 × RS), F k d b = some q ∧ G r = some q' ∧ q.1 = q'.1 ∧ Rel2 q.2.1 q.2.2.1 q.2.2.2 q'.2
def OpV2 (Rel Rel2 : DS → DS → DS → RS → Prop) (F : DS → DS → DS → Option (Int32 × DS × DS × DS)) (G : RS → Option RS) : Prop := ∀ (k d b : DS) (r : RS), Rel k d b r → ∃ (q : Int32 × DS × DS × DS) (r' : RS) (t : Int32 × RS), F k d b = some q ∧ G r = some r' ∧ f_Mo_thrown r' = some t ∧ t.1 = q.1 ∧ Rel2 q.2.1 q.2.2.1 q.2.2.2 t.2
def OpX2 (Rel Rel2 : DS → DS → DS → RS → Prop) (F : DS → DS → DS → OS → Option (Int32 × DS × DS × DS × OS)) (G : RS → Option (Int32 × RS)) : Prop := ∀ (k d b : DS) (o : OS) (r : RS), Rel k d b r → ∃ (q : Int32 × DS × DS × DS × OS) (q' t : Int32 × RS), F k d b o = some q ∧ G r = some q' ∧ f_Mo_thrown q'.2 = some t ∧ t.1 = q.1 ∧ (q.1 = 0 → lg_cmp (q.2.2.2.2 0) q'.1.toInt64 = 0) ∧ Rel2 q.2.1 q.2.2.1 q.2.2.2.1 t.2
abbrev OpA (Rel : DS → DS → DS → RS → Prop) (F : DS → DS → DS → Option (Int32 × DS × DS × DS)) (G : RS → Option (Int32 × RS)) : Prop := OpA2 Rel Rel F G
abbrev OpV (Rel : DS → DS → DS → RS → Prop) (F : DS → DS → DS → Option (Int32 × DS × DS × DS)) (G : RS → Option RS) : Prop := OpV2 Rel Rel F G
abbrev OpX (Rel : DS → DS → DS → RS → Prop) (F : DS → DS → DS → OS → Option (Int32 × DS × DS × DS × OS)) (G : RS → Option (Int32 × RS)) : Prop := OpX2 Rel Rel F G
def Ops2 (Rel Rel2 : DS → DS → DS → RS → Prop) : Prop :=
  (∀ a : Int32, OpA2 Rel Rel2 (f_X_type a) (f_Mo_type a)) ∧
  (∀ a : Int32, OpA2 Rel Rel2 (f_X_word a) (f_Mo_word a)) ∧
  (∀ a c : Int32, OpV2 Rel Rel2 (f_La_insert a c) (f_Mo_insert a c)) ∧
  (∀ a c : Int32, OpV2 Rel Rel2 (f_La_remove a c) (f_Mo_remove a c)) ∧
  OpA2 Rel Rel2 f_X_length f_Mo_length ∧
  (∀ a : Int32, OpX2 Rel Rel2 (f_La_letter a) (f_Mo_letter a)) ∧
  OpA2 Rel Rel2 f_X_tokens f_Mo_tokens ∧
  (∀ a c : Int32, OpX2 Rel Rel2 (f_La_token a c) (f_Mo_token a c)) ∧
  OpA2 Rel Rel2 f_X_faults f_Mo_faults ∧
  (∀ a : Int32, OpX2 Rel Rel2 (f_La_fault a) (f_Mo_fault a)) ∧
  (∀ a c : Int32, OpX2 Rel Rel2 (f_La_reference a c) (f_Mo_reference a c)) ∧
  (∀ (a : Int32) (w : Int64), OpX2 Rel Rel2 (f_La_rename a w) (f_Mo_rename a w)) ∧
  (∀ a : Int32, OpX2 Rel Rel2 (f_La_inline a) (f_Mo_inline a)) ∧
  (∀ a : Int32, OpX2 Rel Rel2 (f_La_run a) (f_Mo_run a)) ∧
  (∀ a : Int32, OpX2 Rel Rel2 (f_La_output a) (f_Mo_output a))
abbrev Ops (Rel : DS → DS → DS → RS → Prop) : Prop := Ops2 Rel Rel
theorem law_inb {i : Int32} {L j m : Nat} {c : Int32} (hL : L ≤ 2048) (hj : i.toInt = 4 * (j : Int)) (h : ¬ Int32.ofNat L - 4 < i) (hc : c.toInt = (m : Int)) (hm : m < 4) : inb (i + c) L = true := by
  have e1 : (Int32.ofNat L).toInt = L := Int32.toInt_ofNat_of_lt (by omega)
  have e4 : (4 : Int32).toInt = 4 := by decide
  have e2 : (Int32.ofNat L - 4).toInt = (L : Int) - 4 := by
    rw [Int32.toInt_sub, e1, e4, Int.bmod_def]
    split <;> omega
  rw [Int32.lt_iff_toInt_lt, e2, hj] at h
  have e3 : (i + c).toInt = 4 * (j : Int) + m := by
    rw [Int32.toInt_add, hj, hc, Int.bmod_def]
    split <;> omega
  have e5 : (i + c).toNatClampNeg = 4 * j + m := by
    show (i + c).toInt.toNat = _
    rw [e3]; omega
  simp only [inb, Bool.and_eq_true, decide_eq_true_eq]
  refine ⟨?_, by rw [e5]; omega⟩
  rw [Int32.le_iff_toInt_le, e3]
  show (0 : Int32).toInt ≤ _
  have e0 : (0 : Int32).toInt = 0 := by decide
  rw [e0]; omega
set_option maxHeartbeats 8000000 in
theorem law_step {Rel Rel2 : DS → DS → DS → RS → Prop} (hRR : ∀ k d b r, Rel k d b r → Rel2 k d b r) (H : Ops2 Rel Rel2) {L : Nat} (hL : L ≤ 2048) {xs : Nat → Int32} {K : Int32 × DS × DS × DS × RS × OS → Option Int32} {x : Int32 × DS × DS × DS × RS × OS} {j : Nat} (hj : x.1.toInt = 4 * (j : Int)) (hg : ¬ Int32.ofNat L - 4 < x.1) (hR : Rel x.2.1 x.2.2.1 x.2.2.2.1 x.2.2.2.2.1) :
    ∃ (k d b : DS) (r : RS) (o : OS), Rel2 k d b r ∧ BLa_law_23 L xs K x = K (x.1 + 4, k, d, b, r, o) := by
  have i0 : inb x.1 L = true := by
    have h := law_inb (m := 0) (c := 0) hL hj hg (by decide) (by omega)
    rw [Int32.add_zero] at h
    exact h
  have i1 : inb (x.1 + 1) L = true := law_inb (m := 1) hL hj hg (by decide) (by omega)
  have i2 : inb (x.1 + 2) L = true := law_inb (m := 2) hL hj hg (by decide) (by omega)
  have i3 : inb (x.1 + 3) L = true := law_inb (m := 3) hL hj hg (by decide) (by omega)
  unfold BLa_law_23
  rw [if_neg hg, if_pos i0]
  obtain ⟨H0, H1, H2, H3, H4, H5, H6, H7, H8, H9, H10, H11, H12, H13, H14⟩ := H
  by_cases h0 : (xs x.1.toNatClampNeg &&& 15) = 0
  · rw [if_pos h0]
    try simp only [bindv, i1, i2, i3, ↓reduceIte]
    obtain ⟨q, q', e1, e2, e3, e4⟩ := H0 (((xs (x.1 + 1).toNatClampNeg).toUInt32 % 65536).toInt32) _ _ _ _ hR
    exact ⟨_, _, _, _, x.2.2.2.2.2, e4, by simp only [e1, e2, e3, Option.bind_some, ↓reduceIte]⟩
  rw [if_neg h0]
  by_cases h1 : (xs x.1.toNatClampNeg &&& 15) = 1
  · rw [if_pos h1]
    try simp only [bindv, i1, i2, i3, ↓reduceIte]
    obtain ⟨q, q', e1, e2, e3, e4⟩ := H1 (xs (x.1 + 1).toNatClampNeg) _ _ _ _ hR
    exact ⟨_, _, _, _, x.2.2.2.2.2, e4, by simp only [e1, e2, e3, Option.bind_some, ↓reduceIte]⟩
  rw [if_neg h1]
  by_cases h2 : (xs x.1.toNatClampNeg &&& 15) = 2
  · rw [if_pos h2]
    try simp only [bindv, i1, i2, i3, ↓reduceIte]
    obtain ⟨q, r', t, e1, e2, e3, e4, e5⟩ := H2 (xs (x.1 + 1).toNatClampNeg) (((xs (x.1 + 2).toNatClampNeg).toUInt32 % 65536).toInt32) _ _ _ _ hR
    exact ⟨_, _, _, _, x.2.2.2.2.2, e5, by simp only [e1, e2, e3, e4, Option.bind_some, ↓reduceIte]⟩
  rw [if_neg h2]
  by_cases h3 : (xs x.1.toNatClampNeg &&& 15) = 3
  · rw [if_pos h3]
    try simp only [bindv, i1, i2, i3, ↓reduceIte]
    obtain ⟨q, r', t, e1, e2, e3, e4, e5⟩ := H3 (xs (x.1 + 1).toNatClampNeg) (xs (x.1 + 2).toNatClampNeg) _ _ _ _ hR
    exact ⟨_, _, _, _, x.2.2.2.2.2, e5, by simp only [e1, e2, e3, e4, Option.bind_some, ↓reduceIte]⟩
  rw [if_neg h3]
  by_cases h4 : (xs x.1.toNatClampNeg &&& 15) = 4
  · rw [if_pos h4]
    try simp only [bindv, i1, i2, i3, ↓reduceIte]
    obtain ⟨q, q', e1, e2, e3, e4⟩ := H4  _ _ _ _ hR
    exact ⟨_, _, _, _, x.2.2.2.2.2, e4, by simp only [e1, e2, e3, Option.bind_some, ↓reduceIte]⟩
  rw [if_neg h4]
  by_cases h5 : (xs x.1.toNatClampNeg &&& 15) = 5
  · rw [if_pos h5]
    try simp only [bindv, i1, i2, i3, ↓reduceIte]
    obtain ⟨q, q', t, e1, e2, e3, e4, e5, e6⟩ := H5 (xs (x.1 + 1).toNatClampNeg) _ _ _ x.2.2.2.2.2 _ hR
    refine ⟨_, _, _, _, q.2.2.2.2, e6, ?_⟩
    by_cases hz : q.1 = 0
    · simp only [e1, e2, e3, e4, e5 hz, Option.bind_some, ↓reduceIte, ite_self]
    · simp only [e1, e2, e3, e4, hz, Option.bind_some, ↓reduceIte]
  rw [if_neg h5]
  by_cases h6 : (xs x.1.toNatClampNeg &&& 15) = 6
  · rw [if_pos h6]
    try simp only [bindv, i1, i2, i3, ↓reduceIte]
    obtain ⟨q, q', e1, e2, e3, e4⟩ := H6  _ _ _ _ hR
    exact ⟨_, _, _, _, x.2.2.2.2.2, e4, by simp only [e1, e2, e3, Option.bind_some, ↓reduceIte]⟩
  rw [if_neg h6]
  by_cases h7 : (xs x.1.toNatClampNeg &&& 15) = 7
  · rw [if_pos h7]
    try simp only [bindv, i1, i2, i3, ↓reduceIte]
    obtain ⟨q, q', t, e1, e2, e3, e4, e5, e6⟩ := H7 (xs (x.1 + 1).toNatClampNeg) (xs (x.1 + 2).toNatClampNeg) _ _ _ x.2.2.2.2.2 _ hR
    refine ⟨_, _, _, _, q.2.2.2.2, e6, ?_⟩
    by_cases hz : q.1 = 0
    · simp only [e1, e2, e3, e4, e5 hz, Option.bind_some, ↓reduceIte, ite_self]
    · simp only [e1, e2, e3, e4, hz, Option.bind_some, ↓reduceIte]
  rw [if_neg h7]
  by_cases h8 : (xs x.1.toNatClampNeg &&& 15) = 8
  · rw [if_pos h8]
    try simp only [bindv, i1, i2, i3, ↓reduceIte]
    obtain ⟨q, q', e1, e2, e3, e4⟩ := H8  _ _ _ _ hR
    exact ⟨_, _, _, _, x.2.2.2.2.2, e4, by simp only [e1, e2, e3, Option.bind_some, ↓reduceIte]⟩
  rw [if_neg h8]
  by_cases h9 : (xs x.1.toNatClampNeg &&& 15) = 9
  · rw [if_pos h9]
    try simp only [bindv, i1, i2, i3, ↓reduceIte]
    obtain ⟨q, q', t, e1, e2, e3, e4, e5, e6⟩ := H9 (xs (x.1 + 1).toNatClampNeg) _ _ _ x.2.2.2.2.2 _ hR
    refine ⟨_, _, _, _, q.2.2.2.2, e6, ?_⟩
    by_cases hz : q.1 = 0
    · simp only [e1, e2, e3, e4, e5 hz, Option.bind_some, ↓reduceIte, ite_self]
    · simp only [e1, e2, e3, e4, hz, Option.bind_some, ↓reduceIte]
  rw [if_neg h9]
  by_cases h10 : (xs x.1.toNatClampNeg &&& 15) = 10
  · rw [if_pos h10]
    try simp only [bindv, i1, i2, i3, ↓reduceIte]
    obtain ⟨q, q', t, e1, e2, e3, e4, e5, e6⟩ := H10 (xs (x.1 + 1).toNatClampNeg) (xs (x.1 + 2).toNatClampNeg) _ _ _ x.2.2.2.2.2 _ hR
    refine ⟨_, _, _, _, q.2.2.2.2, e6, ?_⟩
    by_cases hz : q.1 = 0
    · simp only [e1, e2, e3, e4, e5 hz, Option.bind_some, ↓reduceIte, ite_self]
    · simp only [e1, e2, e3, e4, hz, Option.bind_some, ↓reduceIte]
  rw [if_neg h10]
  by_cases h11 : (xs x.1.toNatClampNeg &&& 15) = 11
  · rw [if_pos h11]
    try simp only [bindv, i1, i2, i3, ↓reduceIte]
    obtain ⟨q, q', t, e1, e2, e3, e4, e5, e6⟩ := H11 (xs (x.1 + 1).toNatClampNeg) (((xs (x.1 + 2).toNatClampNeg).toInt64 <<< ((32 : Int32).toInt64 &&& 63)) ||| ((xs (x.1 + 3).toNatClampNeg).toInt64 &&& 4294967295)) _ _ _ x.2.2.2.2.2 _ hR
    refine ⟨_, _, _, _, q.2.2.2.2, e6, ?_⟩
    by_cases hz : q.1 = 0
    · simp only [e1, e2, e3, e4, e5 hz, Option.bind_some, ↓reduceIte, ite_self]
    · simp only [e1, e2, e3, e4, hz, Option.bind_some, ↓reduceIte]
  rw [if_neg h11]
  by_cases h12 : (xs x.1.toNatClampNeg &&& 15) = 12
  · rw [if_pos h12]
    try simp only [bindv, i1, i2, i3, ↓reduceIte]
    obtain ⟨q, q', t, e1, e2, e3, e4, e5, e6⟩ := H12 (xs (x.1 + 1).toNatClampNeg) _ _ _ x.2.2.2.2.2 _ hR
    refine ⟨_, _, _, _, q.2.2.2.2, e6, ?_⟩
    by_cases hz : q.1 = 0
    · simp only [e1, e2, e3, e4, e5 hz, Option.bind_some, ↓reduceIte, ite_self]
    · simp only [e1, e2, e3, e4, hz, Option.bind_some, ↓reduceIte]
  rw [if_neg h12]
  by_cases h13 : (xs x.1.toNatClampNeg &&& 15) = 13
  · rw [if_pos h13]
    try simp only [bindv, i1, i2, i3, ↓reduceIte]
    obtain ⟨q, q', t, e1, e2, e3, e4, e5, e6⟩ := H13 (xs (x.1 + 1).toNatClampNeg) _ _ _ x.2.2.2.2.2 _ hR
    refine ⟨_, _, _, _, q.2.2.2.2, e6, ?_⟩
    by_cases hz : q.1 = 0
    · simp only [e1, e2, e3, e4, e5 hz, Option.bind_some, ↓reduceIte, ite_self]
    · simp only [e1, e2, e3, e4, hz, Option.bind_some, ↓reduceIte]
  rw [if_neg h13]
  by_cases h14 : (xs x.1.toNatClampNeg &&& 15) = 14
  · rw [if_pos h14]
    try simp only [bindv, i1, i2, i3, ↓reduceIte]
    obtain ⟨q, q', t, e1, e2, e3, e4, e5, e6⟩ := H14 (xs (x.1 + 1).toNatClampNeg) _ _ _ x.2.2.2.2.2 _ hR
    refine ⟨_, _, _, _, q.2.2.2.2, e6, ?_⟩
    by_cases hz : q.1 = 0
    · simp only [e1, e2, e3, e4, e5 hz, Option.bind_some, ↓reduceIte, ite_self]
    · simp only [e1, e2, e3, e4, hz, Option.bind_some, ↓reduceIte]
  rw [if_neg h14]
  exact ⟨_, _, _, _, _, hRR _ _ _ _ hR, rfl⟩
theorem law_all {Rel : DS → DS → DS → RS → Prop} (H : Ops Rel) {L : Nat} (hL : L ≤ 2048) {xs : Nat → Int32} : ∀ (n j : Nat) (x : Int32 × DS × DS × DS × RS × OS), x.1.toInt = 4 * (j : Int) → j ≤ 512 → 513 ≤ n + j → Rel x.2.1 x.2.2.1 x.2.2.2.1 x.2.2.2.2.1 → lpN (BLa_law_23 L xs) n x = some 1 := by
  intro n
  induction n with
  | zero => intro j x hj h1 h2; omega
  | succ n ih =>
    intro j x hj h1 h2 hR
    show BLa_law_23 L xs (lpN (BLa_law_23 L xs) n) x = some 1
    by_cases hg : Int32.ofNat L - 4 < x.1
    · unfold BLa_law_23
      rw [if_pos hg]
    · obtain ⟨k, d, b, r, o, hR', e⟩ := law_step (fun _ _ _ _ h => h) H hL (xs := xs) (K := lpN (BLa_law_23 L xs) n) hj hg hR
      have hi := law_inc hL hj hg
      rw [e]
      exact ih (j + 1) _ hi.2 hi.1 (by omega) hR'
theorem law_pure_of {Rel : DS → DS → DS → RS → Prop} (H : Ops Rel) (h0 : Rel k0 d0 d0 r0) {L : Nat} (hL : L ≤ 2048) (xs : Nat → Int32) : lpN (BLa_law_23 L xs) 100000 (0, k0, d0, d0, r0, o0) = some 1 :=
  law_all H hL 100000 0 _ (by show (0 : Int32).toInt = _; decide) (by omega) (by omega) h0
