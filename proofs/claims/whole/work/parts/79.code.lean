/-! what the code of a part keeps: the height of the stack, the loops around, what has been assigned -/
abbrev Ant : Type := Nat × Nat × (Nat → Prop)
def Nx (A : Nat → Ant) (i h' : Nat) : Prop := (A (i + 1)).1 = h' ∧ (A (i + 1)).2.1 = (A i).2.1 ∧ ∀ q, (A (i + 1)).2.2 q → (A i).2.2 q
def Ins (W : Nat → Nat → Prop) (R Γ : Nat → Nat) (A : Nat → Ant) (b n i : Nat) (pp : Int32 × Int32) : Prop := ∀ Q : Prop,
  (∀ v : Int32, pp = (0, v) → (Nx A i ((A i).1 + 1)) → Q) →
  (∀ t : Nat, pp = (1, Int32.ofNat t) → (t < 240) → (R t = 5) → ((∀ q, W q t → (A i).2.2 q)) → (Nx A i ((A i).1 + 1)) → Q) →
  (∀ t : Nat, pp = (2, Int32.ofNat t) → (t < 240) → (R t = 3 ∨ R t = 4) → ((A i).1 = 1) → ((A (i + 1)).1 = 0) → ((A (i + 1)).2.1 = (A i).2.1) → ((∀ q, (A (i + 1)).2.2 q → (A i).2.2 q ∨ q = t ∧ R t = 3)) → Q) →
  (∀ t : Nat, pp = (3, Int32.ofNat t) → (t < 240) → (R t = 6) → (Γ t ≤ (A i).1) → (Nx A i ((A i).1 - Γ t + 1)) → Q) →
  (∀ j : Nat, pp = (4, Int32.ofNat j) → (i < j) → (j ≤ n) → ((A i).1 = 1) → (Nx A i 0) → ((A j).1 = 0) → ((A j).2.1 = (A i).2.1) → ((∀ q, (A j).2.2 q → (A i).2.2 q)) → Q) →
  (pp = (5, 0) → ((A (i + 1)).1 = (A i).1) → ((A (i + 1)).2.1 = (A i).2.1 + 1) → ((∀ q, (A (i + 1)).2.2 q → (A i).2.2 q)) → Q) →
  (∀ j : Nat, pp = (6, Int32.ofNat j) → (b ≤ j) → (j < i) → ((A j).1 = (A i).1) → ((A j).2.1 + 1 = (A i).2.1) → ((∀ q, (A j).2.2 q → (A i).2.2 q)) → Q) →
  (pp = (7, 0) → ((A i).1 = 1) → (Nx A i 0) → Q) →
  (pp = (8, 0) → ((A i).1 = 1) → Q) →
  (∀ t : Nat, pp = (Int32.ofNat t, 0) → (t = 42 ∨ t = 43 ∨ t = 45 ∨ t = 60) → (2 ≤ (A i).1) → (Nx A i ((A i).1 - 1)) → Q) → Q
theorem Ins.psh {W : Nat → Nat → Prop} {R Γ : Nat → Nat} {A : Nat → Ant} {b n i : Nat} (v : Int32) (h0 : Nx A i ((A i).1 + 1)) : Ins W R Γ A b n i (0, v) := fun _ H _ _ _ _ _ _ _ _ _ => H v rfl h0
theorem Ins.lod {W : Nat → Nat → Prop} {R Γ : Nat → Nat} {A : Nat → Ant} {b n i : Nat} (t : Nat) (h0 : t < 240) (h1 : R t = 5) (h2 : (∀ q, W q t → (A i).2.2 q)) (h3 : Nx A i ((A i).1 + 1)) : Ins W R Γ A b n i (1, Int32.ofNat t) := fun _ _ H _ _ _ _ _ _ _ _ => H t rfl h0 h1 h2 h3
theorem Ins.sto {W : Nat → Nat → Prop} {R Γ : Nat → Nat} {A : Nat → Ant} {b n i : Nat} (t : Nat) (h0 : t < 240) (h1 : R t = 3 ∨ R t = 4) (h2 : (A i).1 = 1) (h3 : (A (i + 1)).1 = 0) (h4 : (A (i + 1)).2.1 = (A i).2.1) (h5 : (∀ q, (A (i + 1)).2.2 q → (A i).2.2 q ∨ q = t ∧ R t = 3)) : Ins W R Γ A b n i (2, Int32.ofNat t) := fun _ _ _ H _ _ _ _ _ _ _ => H t rfl h0 h1 h2 h3 h4 h5
theorem Ins.cal {W : Nat → Nat → Prop} {R Γ : Nat → Nat} {A : Nat → Ant} {b n i : Nat} (t : Nat) (h0 : t < 240) (h1 : R t = 6) (h2 : Γ t ≤ (A i).1) (h3 : Nx A i ((A i).1 - Γ t + 1)) : Ins W R Γ A b n i (3, Int32.ofNat t) := fun _ _ _ _ H _ _ _ _ _ _ => H t rfl h0 h1 h2 h3
theorem Ins.tst {W : Nat → Nat → Prop} {R Γ : Nat → Nat} {A : Nat → Ant} {b n i : Nat} (j : Nat) (h0 : i < j) (h1 : j ≤ n) (h2 : (A i).1 = 1) (h3 : Nx A i 0) (h4 : (A j).1 = 0) (h5 : (A j).2.1 = (A i).2.1) (h6 : (∀ q, (A j).2.2 q → (A i).2.2 q)) : Ins W R Γ A b n i (4, Int32.ofNat j) := fun _ _ _ _ _ H _ _ _ _ _ => H j rfl h0 h1 h2 h3 h4 h5 h6
theorem Ins.cou {W : Nat → Nat → Prop} {R Γ : Nat → Nat} {A : Nat → Ant} {b n i : Nat} (h0 : (A (i + 1)).1 = (A i).1) (h1 : (A (i + 1)).2.1 = (A i).2.1 + 1) (h2 : (∀ q, (A (i + 1)).2.2 q → (A i).2.2 q)) : Ins W R Γ A b n i (5, 0) := fun _ _ _ _ _ _ H _ _ _ _ => H rfl h0 h1 h2
theorem Ins.jmp {W : Nat → Nat → Prop} {R Γ : Nat → Nat} {A : Nat → Ant} {b n i : Nat} (j : Nat) (h0 : b ≤ j) (h1 : j < i) (h2 : (A j).1 = (A i).1) (h3 : (A j).2.1 + 1 = (A i).2.1) (h4 : (∀ q, (A j).2.2 q → (A i).2.2 q)) : Ins W R Γ A b n i (6, Int32.ofNat j) := fun _ _ _ _ _ _ _ H _ _ _ => H j rfl h0 h1 h2 h3 h4
theorem Ins.prt {W : Nat → Nat → Prop} {R Γ : Nat → Nat} {A : Nat → Ant} {b n i : Nat} (h0 : (A i).1 = 1) (h1 : Nx A i 0) : Ins W R Γ A b n i (7, 0) := fun _ _ _ _ _ _ _ _ H _ _ => H rfl h0 h1
theorem Ins.ret {W : Nat → Nat → Prop} {R Γ : Nat → Nat} {A : Nat → Ant} {b n i : Nat} (h0 : (A i).1 = 1) : Ins W R Γ A b n i (8, 0) := fun _ _ _ _ _ _ _ _ _ H _ => H rfl h0
theorem Ins.opr {W : Nat → Nat → Prop} {R Γ : Nat → Nat} {A : Nat → Ant} {b n i : Nat} (t : Nat) (h0 : t = 42 ∨ t = 43 ∨ t = 45 ∨ t = 60) (h1 : 2 ≤ (A i).1) (h2 : Nx A i ((A i).1 - 1)) : Ins W R Γ A b n i (Int32.ofNat t, 0) := fun _ _ _ _ _ _ _ _ _ _ H => H t rfl h0 h1 h2
def Le (A' A : Nat → Ant) (n : Nat) : Prop := (∀ k, k < n → A' k = A k) ∧ (A' n).1 = (A n).1 ∧ (A' n).2.1 = (A n).2.1 ∧ ∀ q, (A' n).2.2 q → (A n).2.2 q
theorem Le.of {A' A : Nat → Ant} {n : Nat} (h : ∀ k, k ≤ n → A' k = A k) : Le A' A n := ⟨fun k hk => h k (by omega), by rw [h n (Nat.le_refl _)], by rw [h n (Nat.le_refl _)], fun q hq => by rw [h n (Nat.le_refl _)] at hq; exact hq⟩
theorem Le.at {A' A : Nat → Ant} {n k : Nat} (h : Le A' A n) (hk : k ≤ n) : (A' k).1 = (A k).1 ∧ (A' k).2.1 = (A k).2.1 ∧ ∀ q, (A' k).2.2 q → (A k).2.2 q := by
  by_cases hn : k < n
  · rw [h.1 k hn]; exact ⟨rfl, rfl, fun _ h => h⟩
  · have : k = n := by omega
    subst this
    exact h.2
theorem Le.nx {A' A : Nat → Ant} {n i h' : Nat} (h : Le A' A n) (hi : i < n) (hx : Nx A i h') : Nx A' i h' := by
  obtain ⟨a, b, c⟩ := h.at (k := i + 1) (by omega)
  have e := h.1 i hi
  exact ⟨a.trans hx.1, by rw [b, e]; exact hx.2.1, fun q hq => by rw [e]; exact hx.2.2 q (c q hq)⟩
theorem Le.tr {A2 A' A : Nat → Ant} {n n' : Nat} (h : Le A' A n) (h2 : Le A2 A' n') (hn : n ≤ n') : Le A2 A n := by
  refine ⟨fun k hk => (h2.1 k (by omega)).trans (h.1 k hk), ?_⟩
  obtain ⟨a, b, c⟩ := h2.at hn
  exact ⟨a.trans h.2.1, b.trans h.2.2.1, fun q hq => h.2.2.2 q (c q hq)⟩
theorem Ins.le {W : Nat → Nat → Prop} {R Γ : Nat → Nat} {A A' : Nat → Ant} {b n n' i : Nat} {p : Int32 × Int32} (h : Ins W R Γ A b n i p) (hi : i < n) (hl : Le A' A n) (hn : n ≤ n') : Ins W R Γ A' b n' i p := by
  have e := hl.1 i hi
  obtain ⟨a1, a2, a3⟩ := hl.at (k := i + 1) (by omega)
  refine h _ ?_ ?_ ?_ ?_ ?_ ?_ ?_ ?_ ?_ ?_
  · intro v eX hN
    cases eX
    exact .psh v (by rw [e]; exact hl.nx hi hN)
  · intro t eX h1 h2 h3 h4
    cases eX
    exact .lod t h1 h2 (by rw [e]; exact h3) (by rw [e]; exact hl.nx hi h4)
  · intro t eX h1 h2 h3 h4 h5 h6
    cases eX
    exact .sto t h1 h2 (by rw [e]; exact h3) (a1.trans h4) (by rw [e]; exact a2.trans h5) (fun q hq => by rw [e]; exact h6 q (a3 q hq))
  · intro t eX h1 h2 h3 h4
    cases eX
    exact .cal t h1 h2 (by rw [e]; exact h3) (by rw [e]; exact hl.nx hi h4)
  · intro j eX h1 h2 h3 h4 h5 h6 h7
    cases eX
    obtain ⟨b1, b2, b3⟩ := hl.at (k := j) h2
    exact .tst j h1 (by omega) (by rw [e]; exact h3) (hl.nx hi h4) (b1.trans h5) (by rw [e]; exact b2.trans h6) (fun q hq => by rw [e]; exact h7 q (b3 q hq))
  · intro eX h1 h2 h3
    cases eX
    exact .cou (by rw [e]; exact a1.trans h1) (by rw [e]; exact a2.trans h2) (fun q hq => by rw [e]; exact h3 q (a3 q hq))
  · intro j eX h1 h2 h3 h4 h5
    cases eX
    have e2 := hl.1 j (by omega)
    exact .jmp j h1 h2 (by rw [e, e2]; exact h3) (by rw [e, e2]; exact h4) (by rw [e, e2]; exact h5)
  · intro eX h1 h2
    cases eX
    exact .prt (by rw [e]; exact h1) (hl.nx hi h2)
  · intro eX h1
    cases eX
    exact .ret (by rw [e]; exact h1)
  · intro t eX h1 h2 h3
    cases eX
    exact .opr t h1 (by rw [e]; exact h2) (by rw [e]; exact hl.nx hi h3)
def Cv (W : Nat → Nat → Prop) (R Γ : Nat → Nat) (b : Nat) (A : Nat → Ant) (c : Cds) (bl : List (Nat × Nat × Nat)) : Prop := b ≤ c.length ∧ (∀ i, i ≤ c.length → b ≤ i → (A i).1 ≤ 118 ∧ (A i).2.1 ≤ 4) ∧ ∀ i, b ≤ i → i < c.length → (∀ y, y ∈ bl → y.2.1 ≠ i + 1) → Ins W R Γ A b c.length i (c.getD i (0, 0))
def upA (A : Nat → Ant) (k : Nat) (a : Ant) : Nat → Ant := fun i => if i = k then a else A i
theorem uA_eq {A : Nat → Ant} {k : Nat} {a : Ant} : upA A k a k = a := if_pos rfl
theorem uA_ne {A : Nat → Ant} {k i : Nat} {a : Ant} (h : i ≠ k) : upA A k a i = A i := if_neg h
section
variable {W : Nat → Nat → Prop} {R Γ : Nat → Nat} {b : Nat}
theorem Cv.gen {A : Nat → Ant} {c : Cds} {bl bl' : List (Nat × Nat × Nat)} {p : Int32 × Int32} {a : Ant} (hC : Cv W R Γ b A c bl) (h1 : a.1 ≤ 118) (h2 : a.2.1 ≤ 4) (hb : ∀ i, i < c.length → (∀ y, y ∈ bl' → y.2.1 ≠ i + 1) → ∀ y, y ∈ bl → y.2.1 ≠ i + 1) (hI : (∀ y, y ∈ bl' → y.2.1 ≠ c.length + 1) → Ins W R Γ (upA A (c.length + 1) a) b (c.length + 1) c.length p) : Cv W R Γ b (upA A (c.length + 1) a) (c ++ [p]) bl' := by
  obtain ⟨x, y, z⟩ := hC
  refine ⟨by rw [lenc]; omega, fun i hi hbi => ?_, fun i hi hic hy => ?_⟩
  · rw [lenc] at hi
    by_cases hk : i = c.length + 1
    · rw [hk, uA_eq]; exact ⟨h1, h2⟩
    · rw [uA_ne hk]; exact y i (by omega) hbi
  · rw [lenc] at hic
    rw [lenc]
    by_cases hk : i < c.length
    · rw [gc_old hk]
      exact (z i hi hk (hb i hk hy)).le hk (Le.of (fun k hk => uA_ne (by omega))) (by omega)
    · have : i = c.length := by omega
      subst this
      rw [gc_new]
      exact hI hy
theorem Cv.app {A : Nat → Ant} {c : Cds} {bl : List (Nat × Nat × Nat)} {p : Int32 × Int32} (a : Ant) (hC : Cv W R Γ b A c bl) (h1 : a.1 ≤ 118) (h2 : a.2.1 ≤ 4) (hI : ∀ A' : Nat → Ant, (∀ k, k ≤ c.length → A' k = A k) → A' (c.length + 1) = a → Ins W R Γ A' b (c.length + 1) c.length p) : ∃ A', Cv W R Γ b A' (c ++ [p]) bl ∧ (∀ k, k ≤ c.length → A' k = A k) ∧ A' (c ++ [p]).length = a :=
  ⟨upA A (c.length + 1) a, hC.gen h1 h2 (fun _ _ h => h) (fun _ => hI _ (fun k hk => uA_ne (by omega)) uA_eq), fun k hk => uA_ne (by omega), by rw [lenc, uA_eq]⟩
theorem Cv.ops {bl : List (Nat × Nat × Nat)} : ∀ (o : List Nat) (A : Nat → Ant) (c : Cds), Cv W R Γ b A c bl → (∀ t, t ∈ o → t = 42 ∨ t = 43 ∨ t = 45 ∨ t = 60) → o.length + 1 ≤ (A c.length).1 → ∃ A', Cv W R Γ b A' (c ++ oi o) bl ∧ (∀ k, k ≤ c.length → A' k = A k) ∧ A' (c ++ oi o).length = ((A c.length).1 - o.length, (A c.length).2.1, (A c.length).2.2)
  | [], A, c, hC, _, _ => by
    refine ⟨A, ?_, fun _ _ => rfl, ?_⟩
    · rw [show oi [] = [] from rfl, List.append_nil]; exact hC
    · rw [show oi [] = [] from rfl, List.append_nil]; rfl
  | t :: o, A, c, hC, ht, hl => by
    rw [List.length_cons] at hl
    have hcl := hC.2.1 c.length (Nat.le_refl _) hC.1
    obtain ⟨A1, g1, g2, g3⟩ := hC.app (p := (Int32.ofNat t, 0)) ((A c.length).1 - 1, (A c.length).2.1, (A c.length).2.2) (by show (A c.length).1 - 1 ≤ 118; omega) hcl.2 (fun A' e1 e2 => .opr t (ht t (List.mem_cons_self ..)) (by rw [e1 _ (Nat.le_refl _)]; omega) (by
      refine ⟨?_, ?_, fun q hq => ?_⟩
      · rw [e2, e1 _ (Nat.le_refl _)]
      · rw [e2, e1 _ (Nat.le_refl _)]
      · rw [e2] at hq; rw [e1 _ (Nat.le_refl _)]; exact hq))
    obtain ⟨A2, k1, k2, k3⟩ := Cv.ops o A1 (c ++ [(Int32.ofNat t, 0)]) g1 (fun u hu => ht u (List.mem_cons_of_mem _ hu)) (by rw [g3]; show o.length + 1 ≤ (A c.length).1 - 1; omega)
    have e : c ++ oi (t :: o) = (c ++ [(Int32.ofNat t, 0)]) ++ oi o := by
      rw [List.append_assoc]; rfl
    rw [e]
    refine ⟨A2, k1, fun k hk => (k2 k (by rw [lenc]; omega)).trans (g2 k hk), k3.trans ?_⟩
    rw [g3, List.length_cons]
    show ((A c.length).1 - 1 - o.length, _, _) = ((A c.length).1 - (o.length + 1), _, _)
    rw [show (A c.length).1 - 1 - o.length = (A c.length).1 - (o.length + 1) by omega]
theorem Cv.shr {A : Nat → Ant} {c : Cds} {bl : List (Nat × Nat × Nat)} (e : Nat → Prop) (hC : Cv W R Γ b A c bl) (he : ∀ q, e q → (A c.length).2.2 q) : ∃ A', Cv W R Γ b A' c bl ∧ Le A' A c.length ∧ A' c.length = ((A c.length).1, (A c.length).2.1, e) := by
  have hl : Le (upA A c.length ((A c.length).1, (A c.length).2.1, e)) A c.length := ⟨fun k hk => uA_ne (by omega), by rw [uA_eq], by rw [uA_eq], fun q hq => by rw [uA_eq] at hq; exact he q hq⟩
  refine ⟨_, ⟨hC.1, fun i hi hbi => ?_, fun i hi hic hy => (hC.2.2 i hi hic hy).le hic hl (Nat.le_refl _)⟩, hl, uA_eq⟩
  obtain ⟨a1, a2, -⟩ := hl.at hi
  rw [a1, a2]
  exact hC.2.1 i hi hbi
theorem Cv.set {A : Nat → Ant} {c : Cds} {o te ag : Nat} {bl : List (Nat × Nat × Nat)} (hC : Cv W R Γ b A c ((o, te, ag) :: bl)) (ht : te ≠ 0) (htc : te ≤ c.length) (hI : Ins W R Γ A b c.length (te - 1) (4, Int32.ofNat c.length)) : Cv W R Γ b A (c.set (te - 1) (4, Int32.ofNat c.length)) bl := by
  refine ⟨by rw [List.length_set]; exact hC.1, by rw [List.length_set]; exact hC.2.1, fun i hi hic hy => ?_⟩
  rw [List.length_set] at hic ⊢
  rw [List.getD_eq_getElem?_getD]
  by_cases hk : i = te - 1
  · subst hk
    rw [List.getElem?_set_self hic]
    exact hI
  · rw [List.getElem?_set_ne (fun e => hk e.symm), ← List.getD_eq_getElem?_getD]
    refine hC.2.2 i hi hic (fun y hm => ?_)
    rcases List.mem_cons.mp hm with e | e
    · rw [e]; show te ≠ i + 1; omega
    · exact hy y e
end
def lp : List (Nat × Nat × Nat) → Nat
  | [] => 0
  | (_, _, ag) :: B => (if ag = 0 then 0 else 1) + lp B
theorem lp_le : ∀ B : List (Nat × Nat × Nat), lp B ≤ B.length
  | [] => Nat.le_refl _
  | (o, te, ag) :: B => by
    have := lp_le B
    show (if ag = 0 then 0 else 1) + lp B ≤ B.length + 1
    split <;> omega
def env (R σ α : Nat → Nat) (B : List (Nat × Nat × Nat)) (q : Nat) : Prop := R q = 2 ∨ α q ≠ 0 ∧ ∃ y, y ∈ B ∧ y.1 = σ q
def BK (R σ α : Nat → Nat) (b n : Nat) (A : Nat → Ant) : List (Nat × Nat × Nat) → Prop
  | [] => True
  | (o, te, ag) :: B => BK R σ α b n A B ∧ (∀ y, y ∈ B → y.1 < o) ∧ (te ≠ 0 → b < te ∧ te ≤ n ∧ (A (te - 1)).1 = 1 ∧ (A (te - 1)).2.1 = lp B ∧ (∀ q, env R σ α B q → (A (te - 1)).2.2 q) ∧ Nx A (te - 1) 0) ∧ (ag ≠ 0 → te ≠ 0 ∧ b < ag ∧ ag ≤ n ∧ (A (ag - 1)).1 = 0 ∧ (A (ag - 1)).2.1 = lp B ∧ ∀ q, (A (ag - 1)).2.2 q → env R σ α B q)
theorem BK.cg {R σ α σ' α' : Nat → Nat} {b n n' : Nat} {A A' : Nat → Ant} (hl : Le A' A n) (hn : n ≤ n') : ∀ {bl : List (Nat × Nat × Nat)}, (∀ B, (∀ y, y ∈ B → y ∈ bl.tail) → ∀ q, env R σ' α' B q ↔ env R σ α B q) → BK R σ α b n A bl → BK R σ' α' b n' A' bl
  | [], _, _ => trivial
  | (o, te, ag) :: B, hE, ⟨h1, h2, h3, h4⟩ => by
    refine ⟨BK.cg hl hn (fun B' hB => hE B' (fun y hy => List.mem_of_mem_tail (hB y hy))) h1, h2, fun ht => ?_, fun ha => ?_⟩
    · obtain ⟨a1, a2, a3, a4, a5, a6⟩ := h3 ht
      rw [hl.1 (te - 1) (by omega)]
      exact ⟨a1, by omega, a3, a4, fun q hq => a5 q ((hE B (fun _ h => h) q).mp hq), hl.nx (by omega) a6⟩
    · obtain ⟨a1, a2, a3, a4, a5, a6⟩ := h4 ha
      rw [hl.1 (ag - 1) (by omega)]
      exact ⟨a1, a2, by omega, a4, a5, fun q hq => (hE B (fun _ h => h) q).mpr (a6 q hq)⟩
theorem BK.cg0 {R σ α : Nat → Nat} {b n n' : Nat} {A A' : Nat → Ant} {bl : List (Nat × Nat × Nat)} (h : BK R σ α b n A bl) (hl : Le A' A n) (hn : n ≤ n') : BK R σ α b n' A' bl := BK.cg hl hn (fun _ _ _ => Iff.rfl) h
def hS : List Fm → Nat
  | [] => 0
  | (_, _, cn, o) :: F => o.length + (cn - 1) + hS F
def oS : List Fm → Nat
  | [] => 0
  | (ca, _, _, o) :: F => o.length + (if ca = 0 then 0 else 1) + oS F
def FH (R : Nat → Nat) (j : Nat) (y : Fm) (F : List Fm) : Prop := y.1 < j ∧ (y.1 = 0 → y.2.2.1 = 0) ∧ (∀ t, t ∈ y.2.2.2 → t = 42 ∨ t = 43 ∨ t = 45 ∨ t = 60) ∧ y.2.2.2.Pairwise (fun a b => rk b < rk a) ∧ (y.1 ≠ 0 → (∀ z, z ∈ F → z.1 < y.1) ∧ R (y.1 - 1) = 6) ∧ (F = [] → y.1 = 0)
def FT (R : Nat → Nat) (j : Nat) : List Fm → Prop
  | [] => True
  | y :: F => FH R j y F ∧ (y.1 ≠ 0 → 1 ≤ y.2.2.1) ∧ FT R j F
def FI (R : Nat → Nat) (st j : Nat) : List Fm → Prop
  | [] => True
  | y :: F => FH R j y F ∧ (st = 10 → y.1 ≠ 0 ∧ y.2.2.1 = 0 ∧ y.2.2.2 = []) ∧ (st ≠ 10 → y.1 ≠ 0 → 1 ≤ y.2.2.1) ∧ FT R j F
theorem FH.up {R : Nat → Nat} {j : Nat} {y : Fm} {F : List Fm} (h : FH R j y F) : FH R (j + 1) y F := ⟨Nat.lt_succ_of_lt h.1, h.2⟩
theorem FT.up {R : Nat → Nat} {j : Nat} : ∀ {F : List Fm}, FT R j F → FT R (j + 1) F
  | [], _ => trivial
  | _ :: _, ⟨a, b, c⟩ => ⟨a.up, b, FT.up c⟩
theorem FT.lt {R : Nat → Nat} {j : Nat} : ∀ {F : List Fm}, FT R j F → ∀ y, y ∈ F → y.1 < j
  | [], _, y, hy => absurd hy List.not_mem_nil
  | z :: F, ⟨a, _, c⟩, y, hy => by
    rcases List.mem_cons.mp hy with e | e
    · rw [e]; exact a.1
    · exact FT.lt c y e
theorem FT.fi {R : Nat → Nat} {st j : Nat} (h10 : st ≠ 10) : ∀ {F : List Fm}, FT R j F → FI R st j F
  | [], _ => trivial
  | _ :: _, ⟨a, b, c⟩ => ⟨a, fun h => absurd h h10, fun _ => b, c⟩
theorem pw_dw {l : Nat} : ∀ {o : List Nat}, o.Pairwise (fun a b => rk b < rk a) → (dw l o).Pairwise (fun a b => rk b < rk a) ∧ (∀ t, t ∈ dw l o → t ∈ o ∧ rk t < l) ∧ (∀ t, t ∈ tw l o → t ∈ o) ∧ (tw l o).length + (dw l o).length = o.length
  | [], _ => ⟨List.Pairwise.nil, fun t h => absurd h List.not_mem_nil, fun t h => absurd h List.not_mem_nil, rfl⟩
  | t :: o, h => by
    have h' := List.pairwise_cons.mp h
    obtain ⟨g1, g2, g3, g4⟩ := pw_dw (l := l) h'.2
    by_cases hl : l ≤ rk t
    · have e1 : dw l (t :: o) = dw l o := by
        show List.dropWhile _ (t :: o) = _
        rw [List.dropWhile_cons_of_pos (by simpa using hl)]; rfl
      have e2 : tw l (t :: o) = t :: tw l o := by
        show List.takeWhile _ (t :: o) = _
        rw [List.takeWhile_cons_of_pos (by simpa using hl)]; rfl
      rw [e1, e2]
      refine ⟨g1, fun u hu => ⟨List.mem_cons_of_mem _ (g2 u hu).1, (g2 u hu).2⟩, fun u hu => ?_, ?_⟩
      · rcases List.mem_cons.mp hu with e | e
        · rw [e]; exact List.mem_cons_self ..
        · exact List.mem_cons_of_mem _ (g3 u e)
      · rw [List.length_cons, List.length_cons]; omega
    · have e1 : dw l (t :: o) = t :: o := by
        show List.dropWhile _ (t :: o) = _
        rw [List.dropWhile_cons_of_neg (by simpa using hl)]
      have e2 : tw l (t :: o) = [] := by
        show List.takeWhile _ (t :: o) = _
        rw [List.takeWhile_cons_of_neg (by simpa using hl)]
      rw [e1, e2]
      refine ⟨h, fun u hu => ⟨hu, ?_⟩, fun u hu => absurd hu List.not_mem_nil, by simp⟩
      rcases List.mem_cons.mp hu with e | e
      · rw [e]; omega
      · have := h'.1 u e
        omega
def hgt (cl : Nat → Nat) (j : Nat) (x : XS) : Nat := hS x.2.1 + (if x.1 = 11 ∨ x.1 = 12 ∧ ¬ (cl j = 40 ∧ x.2.1.length ≤ 4) then 1 else 0)
abbrev xen (x : XS) : Nat := x.2.2.2.2.2.2.1
abbrev xag (x : XS) : Nat := x.2.2.2.2.2.2.2.2.1
abbrev xfi (x : XS) : Int32 × Int32 := x.2.2.2.2.2.2.2.2.2.1
def TI (R σ α : Nat → Nat) (b n : Nat) (A : Nat → Ant) (st : Nat) (bl : List (Nat × Nat × Nat)) (en ln ag : Nat) (fin : Int32 × Int32) : Prop :=
  (en = 59 ∧ ((∃ t, fin = (2, Int32.ofNat t) ∧ t < 240 ∧ (ln = 0 ∧ R t = 4 ∨ ln = t + 1 ∧ R t = 3)) ∨ (fin = (7, 0) ∨ fin = (8, 0)) ∧ ln = 0) ∨ en = 123 ∧ ln = 0 ∧ 9 ≤ st ∧ (ag ≠ 0 → b < ag ∧ ag ≤ n + 1 ∧ (A (ag - 1)).1 = 0 ∧ (A (ag - 1)).2.1 = lp bl ∧ ∀ q, (A (ag - 1)).2.2 q → env R σ α bl q)) ∧ (ln ≠ 0 → σ (ln - 1) = (bl.headD (0, 0, 0)).1)
def GI (cl : Nat → Nat) (W : Nat → Nat → Prop) (R Γ : Nat → Nat) (f b j : Nat) (A : Nat → Ant) (x : XS) : Prop :=
  (Cv W R Γ b A (xc x) (xb x)) ∧
  (A (xc x).length = (hgt cl j x, lp (xb x), env R (xsc x) (xal x) (xb x))) ∧
  (BK R (xsc x) (xal x) b (xc x).length A (xb x)) ∧
  ((xb x).length ≤ 4) ∧
  (FI R x.1 j x.2.1) ∧
  (8 ≤ x.1 → x.1 ≤ 12 → TI R (xsc x) (xal x) b (xc x).length A x.1 (xb x) (xen x) (xln x) (xag x) (xfi x)) ∧
  (x.1 ≤ 5 → (xc x).length = b) ∧
  (6 ≤ x.1 → (xc x).length + oS x.2.1 + (if 9 ≤ x.1 ∧ x.1 ≤ 12 then 1 else 0) + 5 ≤ j) ∧
  (9 ≤ x.1 → x.1 ≤ 12 → 2 * hS x.2.1 + 5 + (if x.1 = 11 ∨ x.1 = 12 then 1 else 0) + f ≤ j)
theorem GI.cv {cl : Nat → Nat} {W : Nat → Nat → Prop} {R Γ : Nat → Nat} {f b j : Nat} {A : Nat → Ant} {x : XS} (h : GI cl W R Γ f b j A x) : Cv W R Γ b A (xc x) (xb x) := h.1
theorem GI.cur {cl : Nat → Nat} {W : Nat → Nat → Prop} {R Γ : Nat → Nat} {f b j : Nat} {A : Nat → Ant} {x : XS} (h : GI cl W R Γ f b j A x) : A (xc x).length = (hgt cl j x, lp (xb x), env R (xsc x) (xal x) (xb x)) := h.2.1
theorem GI.bk {cl : Nat → Nat} {W : Nat → Nat → Prop} {R Γ : Nat → Nat} {f b j : Nat} {A : Nat → Ant} {x : XS} (h : GI cl W R Γ f b j A x) : BK R (xsc x) (xal x) b (xc x).length A (xb x) := h.2.2.1
theorem GI.len {cl : Nat → Nat} {W : Nat → Nat → Prop} {R Γ : Nat → Nat} {f b j : Nat} {A : Nat → Ant} {x : XS} (h : GI cl W R Γ f b j A x) : (xb x).length ≤ 4 := h.2.2.2.1
theorem GI.fi {cl : Nat → Nat} {W : Nat → Nat → Prop} {R Γ : Nat → Nat} {f b j : Nat} {A : Nat → Ant} {x : XS} (h : GI cl W R Γ f b j A x) : FI R x.1 j x.2.1 := h.2.2.2.2.1
theorem GI.tm {cl : Nat → Nat} {W : Nat → Nat → Prop} {R Γ : Nat → Nat} {f b j : Nat} {A : Nat → Ant} {x : XS} (h : GI cl W R Γ f b j A x) : 8 ≤ x.1 → x.1 ≤ 12 → TI R (xsc x) (xal x) b (xc x).length A x.1 (xb x) (xen x) (xln x) (xag x) (xfi x) := h.2.2.2.2.2.1
theorem GI.b5 {cl : Nat → Nat} {W : Nat → Nat → Prop} {R Γ : Nat → Nat} {f b j : Nat} {A : Nat → Ant} {x : XS} (h : GI cl W R Γ f b j A x) : x.1 ≤ 5 → (xc x).length = b := h.2.2.2.2.2.2.1
theorem GI.bu {cl : Nat → Nat} {W : Nat → Nat → Prop} {R Γ : Nat → Nat} {f b j : Nat} {A : Nat → Ant} {x : XS} (h : GI cl W R Γ f b j A x) : 6 ≤ x.1 → (xc x).length + oS x.2.1 + (if 9 ≤ x.1 ∧ x.1 ≤ 12 then 1 else 0) + 5 ≤ j := h.2.2.2.2.2.2.2.1
theorem GI.ht {cl : Nat → Nat} {W : Nat → Nat → Prop} {R Γ : Nat → Nat} {f b j : Nat} {A : Nat → Ant} {x : XS} (h : GI cl W R Γ f b j A x) : 9 ≤ x.1 → x.1 ≤ 12 → 2 * hS x.2.1 + 5 + (if x.1 = 11 ∨ x.1 = 12 then 1 else 0) + f ≤ j := h.2.2.2.2.2.2.2.2
theorem TI.le {R σ α : Nat → Nat} {b n n' : Nat} {A A' : Nat → Ant} {st st' : Nat} {bl : List (Nat × Nat × Nat)} {en ln ag : Nat} {fin : Int32 × Int32} (h : TI R σ α b n A st bl en ln ag fin) (hl : Le A' A n) (hn : n ≤ n') (hs : 9 ≤ st') : TI R σ α b n' A' st' bl en ln ag fin := by
  refine ⟨?_, h.2⟩
  rcases h.1 with w | ⟨w1, w2, w3, w4⟩
  · exact Or.inl w
  · refine Or.inr ⟨w1, w2, hs, fun ha => ?_⟩
    obtain ⟨z1, z2, z3, z4, z5⟩ := w4 ha
    obtain ⟨a1, a2, a3⟩ := hl.at (k := ag - 1) (by omega)
    exact ⟨z1, by omega, a1.trans z3, a2.trans z4, fun q hq => z5 q (a3 q hq)⟩
