/-! the model's tokens, and what it keeps while it reads a part -/
def MTok (cl nm sk : Nat → Nat) (N : Nat) (r : RS) : Prop := r.2.1 3 = Int32.ofNat N ∧ r.2.2 1 = r0.2.2 1 ∧ ∀ k, k < N → r.1 5 k = Int32.ofNat (kk (cl k)) ∧ r.1 6 k = Int32.ofNat (sk k) ∧ sk k < 240 ∧ (0 < cl k → cl k < 200 → r.1 2 (sk k) = Int32.ofNat (cl k)) ∧ (cl k = 200 ∨ cl k = 300 → r.2.2 8 k = Int64.ofNat (nm k)) ∧ (400 ≤ cl k → ∃ v, v < 1073741824 ∧ kwN v = cl k - 400 ∧ r.2.2 8 k = Int64.ofNat v)
theorem MTok.cg {cl nm sk : Nat → Nat} {N : Nat} {r r' : RS} (h : MTok cl nm sk N r) (h3 : r'.2.1 3 = r.2.1 3) (hl : r'.2.2 = r.2.2) (h5 : r'.1 5 = r.1 5) (h6 : r'.1 6 = r.1 6) (h2 : r'.1 2 = r.1 2) : MTok cl nm sk N r' := by
  unfold MTok at *
  rw [h3, hl, h5, h6, h2]; exact h
theorem is_ok {cl nm sk : Nat → Nat} {N k t : Nat} {r : RS} {a2 : Int32} (hK : TK cl nm N) (hM : MTok cl nm sk N r) (hk : k < N) (ha : a2 = Int32.ofNat t) (ht : 0 < t) (ht2 : t < 200) : f_Mo_is (Int32.ofNat k) a2 r = some (if cl k = t then 1 else 0, r) := by
  have hN := hK.1
  obtain ⟨t5, t6, t7, t8, -⟩ := hM.2.2 k hk
  have hc := hK.2.1 k
  have hkl := kk_le (cl k)
  have q4 : (Int32.ofNat (kk (cl k)) = 4) = (kk (cl k) = 4) := o_eq (b := 4) (by omega) (by omega)
  unfold f_Mo_is
  simp only [o_inb (show k < 240 by omega) (show k < 2147483648 by omega), o_nat (show k < 2147483648 by omega), ↓reduceIte, t5, t6, q4, o_inb t7 (show sk k < 2147483648 by omega), o_nat (show sk k < 2147483648 by omega), bindv]
  by_cases h4 : kk (cl k) = 4
  · obtain ⟨g1, g2⟩ := kk_4.mp h4
    rw [if_pos h4, t8 g1 g2, ha]
    by_cases h : cl k = t
    · rw [if_pos h, if_pos (by rw [h])]
    · rw [if_neg h, if_neg (by rw [o_eq (by omega) (by omega)]; exact h)]
  · rw [if_neg h4, if_neg (fun h => h4 (kk_4.mpr (by omega)))]
theorem kwT {cl nm sk : Nat → Nat} {N k : Nat} {r : RS} (hK : TK cl nm N) (hM : MTok cl nm sk N r) (hk : k < N) (h4 : 400 ≤ cl k) : f_Mo_keyword (r.2.2 8 k) r = some (Int32.ofNat (cl k - 400), r) := by
  obtain ⟨-, -, -, -, -, t9⟩ := hM.2.2 k hk
  obtain ⟨v, v1, v2, v3⟩ := t9 h4
  have hc := hK.2.1 k
  rw [v3, kwM (by omega) (l_nat (by omega)) hM.2.1, v2, if_pos (by omega)]
theorem isFnM {cl nm sk : Nat → Nat} {N k : Nat} {r : RS} (hK : TK cl nm N) (hM : MTok cl nm sk N r) (hk : k < N) : f_Mo_isFn (Int32.ofNat k) r = some (if cl k = 400 then 1 else 0, r) := by
  have hN := hK.1
  obtain ⟨t5, -⟩ := hM.2.2 k hk
  have hc := hK.2.1 k
  have hkl := kk_le (cl k)
  have q1 : (Int32.ofNat (kk (cl k)) = 1) = (kk (cl k) = 1) := o_eq (b := 1) (by omega) (by omega)
  unfold f_Mo_isFn
  simp only [o_inb (show k < 240 by omega) (show k < 2147483648 by omega), o_nat (show k < 2147483648 by omega), ↓reduceIte, t5, q1]
  by_cases h1 : kk (cl k) = 1
  · have h1' := kk_1.mp h1
    rw [if_pos h1, kwT hK hM hk (by omega), Option.bind_some]
    dsimp only
    by_cases h4 : cl k = 400
    · rw [if_pos h4, h4, if_pos (show Int32.ofNat (400 - 400) = 0 from rfl)]
    · rw [if_neg h4, if_neg (by intro h; have := (o_eq (b := 0) (by omega) (by omega)).mp h; omega)]
  · rw [if_neg h1, if_neg (fun h => h1 (kk_1.mpr (by omega)))]
/-- Open blocks. -/
def MBk (f : Nat) (r : RS) (ω : Nat → Nat) (j : Nat) : List (Nat × Nat × Nat) → Prop
  | [] => True
  | x :: B => r.1 21 B.length = Int32.ofNat x.1 ∧ f < x.1 ∧ x.1 < j ∧ ω x.1 = 0 ∧ (∀ y, y ∈ B → y.1 < x.1) ∧ MBk f r ω j B
/-- Open brackets. -/
def MF (f : Nat) (r : RS) (j : Nat) : List Fm → Prop
  | [] => True
  | x :: F => (F ≠ [] → r.1 22 F.length = pm x.1) ∧ r.1 23 F.length = Int32.ofNat x.2.1 ∧ x.2.1 ≤ 1 ∧ x.1 < j ∧ (F = [] → x.1 = 0) ∧ (x.1 ≠ 0 → f < x.1 ∧ x.2.2.1 < j ∧ r.1 12 (x.1 - 1) = Int32.ofNat x.2.2.1) ∧ (∀ y, y ∈ F → x.1 ≠ 0 → y.1 < x.1) ∧ MF f r j F
/-- Roles; calls; scopes; since; until; parameters. -/
def MRo (N f : Nat) (r : RS) (j : Nat) (ρ : Nat → Nat) : Prop := (∀ k, f ≤ k → k < N → r.1 9 k = Int32.ofNat (ρ k)) ∧ (∀ k, j ≤ k → ρ k = 0) ∧ ∀ k, ρ k ≤ 6
def MGi (N f : Nat) (r : RS) (cs : List Nat) (ρ γ : Nat → Nat) : Prop := (∀ k, f ≤ k → k < N → ρ k = 6 → k + 1 ∉ cs → r.1 12 k = Int32.ofNat (γ k)) ∧ (∀ k, f ≤ k → k < N → ρ k ≠ 6 → r.1 12 k = 0) ∧ ∀ a, a ∈ cs → a ≠ 0 → ρ (a - 1) = 6
def MSc (N f : Nat) (r : RS) (ρ σ : Nat → Nat) : Prop := (∀ k, f ≤ k → k < N → ρ k = 2 ∨ ρ k = 3 → r.1 13 k = Int32.ofNat (σ k)) ∧ ∀ k, ρ k = 3 → f ≤ σ k ∧ σ k < k
def MSi (N f : Nat) (r : RS) (α : Nat → Nat) : Prop := ∀ k, f ≤ k → k < N → r.1 14 k = Int32.ofNat (α k)
def MUn (N f : Nat) (r : RS) (j : Nat) (ρ σ ω : Nat → Nat) : Prop := (∀ k, f ≤ k → k < N → r.1 15 k = if ρ k = 3 then Int32.ofNat (ω (σ k)) else 0) ∧ ∀ k, j ≤ k → ω k = 0
def MEx (f : Nat) (r : RS) (j st : Nat) (fr : List Fm) (en : Nat) : Prop := 9 ≤ st → st ≤ 12 → fr ≠ [] ∧ fr.length ≤ 5 ∧ r.2.1 8 = Int32.ofNat (fr.length - 1) ∧ r.2.1 9 = Int32.ofNat en ∧ (en = 59 ∨ en = 123) ∧ MF f r j fr ∧ (st = 10 → ∃ (ca le : Nat) (o : List Nat) (F : List Fm), fr = (ca, le, 0, o) :: F ∧ ca ≠ 0)
def MLn (f : Nat) (r : RS) (j st ln : Nat) : Prop := 8 ≤ st → st ≤ 12 → r.2.1 10 = pm ln ∧ ln ≤ j ∧ (ln ≠ 0 → f + 1 < ln)
def MBl (f : Nat) (r : RS) (j : Nat) (ω : Nat → Nat) (bl : List (Nat × Nat × Nat)) : Prop := r.2.1 7 = Int32.ofNat bl.length ∧ bl.length ≤ 4 ∧ MBk f r ω j bl
/-- What the model keeps at token j of a part, but for its state. -/
def MZ (cl nm sk : Nat → Nat) (N f p : Nat) (r : RS) (j st : Nat) (fr : List Fm) (ρ γ : Nat → Nat) (bl : List (Nat × Nat × Nat)) (en ln np : Nat) (σ α ω : Nat → Nat) : Prop :=
  MTok cl nm sk N r ∧ r.1 16 p = Int32.ofNat f ∧ st ≤ 13 ∧ MBl f r j ω bl ∧ MEx f r j st fr en ∧ MLn f r j st ln ∧ MRo N f r j ρ ∧ MGi N f r (fr.map (fun y => y.1)) ρ γ ∧ MSc N f r ρ σ ∧ MSi N f r α ∧ MUn N f r j ρ σ ω ∧ r.1 19 p = Int32.ofNat np ∧ np ≤ j ∧ (st = 12 → ρ (j - 1) = 5 ∧ f + 1 < j)
def MXk (cl nm sk : Nat → Nat) (N f p : Nat) (r : RS) (j : Nat) (x : XS) : Prop := r.2.1 6 = Int32.ofNat x.1 ∧ MZ cl nm sk N f p r j x.1 x.2.1 x.2.2.1 x.2.2.2.1 x.2.2.2.2.2.1 x.2.2.2.2.2.2.1 x.2.2.2.2.2.2.2.1 x.2.2.2.2.2.2.2.2.2.2.1 x.2.2.2.2.2.2.2.2.2.2.2.1 x.2.2.2.2.2.2.2.2.2.2.2.2.1 x.2.2.2.2.2.2.2.2.2.2.2.2.2
theorem MBk.cg {f : Nat} {r r' : RS} {ω ω' : Nat → Nat} {j j' : Nat} : ∀ {bl : List (Nat × Nat × Nat)}, MBk f r ω j bl → (∀ i, i < bl.length → r'.1 21 i = r.1 21 i) → (∀ x, x ∈ bl → ω x.1 = 0 → ω' x.1 = 0) → j ≤ j' → MBk f r' ω' j' bl
  | [], _, _, _, _ => trivial
  | x :: B, ⟨h1, h2, h3, h4, h5, h6⟩, hA, hO, hj => ⟨(hA _ (by rw [List.length_cons]; omega)).trans h1, h2, by omega, hO x (List.mem_cons_self ..) h4, h5, MBk.cg h6 (fun i hi => hA i (by rw [List.length_cons]; omega)) (fun y hy => hO y (List.mem_cons_of_mem _ hy)) hj⟩
theorem MF.cg {f : Nat} {r r' : RS} {j j' : Nat} : ∀ {fr : List Fm}, MF f r j fr → (∀ i, i < fr.length → r'.1 22 i = r.1 22 i ∧ r'.1 23 i = r.1 23 i) → (∀ x, x ∈ fr → x.1 ≠ 0 → r'.1 12 (x.1 - 1) = r.1 12 (x.1 - 1)) → j ≤ j' → MF f r' j' fr
  | [], _, _, _, _ => trivial
  | x :: F, ⟨h1, h2, h3, h4, h5, h6, h7, h8⟩, hA, hG, hj => by
    obtain ⟨a1, a2⟩ := hA F.length (by rw [List.length_cons]; omega)
    exact ⟨fun h => a1.trans (h1 h), a2.trans h2, h3, by omega, h5, fun h => ⟨(h6 h).1, Nat.lt_of_lt_of_le (h6 h).2.1 hj, (hG x (List.mem_cons_self ..) h).trans (h6 h).2.2⟩, h7, MF.cg h8 (fun i hi => hA i (by rw [List.length_cons]; omega)) (fun y hy => hG y (List.mem_cons_of_mem _ hy)) hj⟩
theorem MBl.cg {f : Nat} {r r' : RS} {j j' : Nat} {ω : Nat → Nat} {bl : List (Nat × Nat × Nat)} (h : MBl f r j ω bl) (h7 : r'.2.1 7 = r.2.1 7) (h21 : r'.1 21 = r.1 21) (hj : j ≤ j') : MBl f r' j' ω bl := ⟨h7.trans h.1, h.2.1, h.2.2.cg (fun _ _ => by rw [h21]) (fun _ _ h => h) hj⟩
theorem MRo.cg {N f : Nat} {r r' : RS} {j j' : Nat} {ρ : Nat → Nat} (h : MRo N f r j ρ) (h9 : r'.1 9 = r.1 9) (hj : j ≤ j') : MRo N f r' j' ρ := ⟨by rw [h9]; exact h.1, fun k hk => h.2.1 k (by omega), h.2.2⟩
theorem MRo.st {N f : Nat} {r r' : RS} {j t : Nat} {ρ : Nat → Nat} {a : Int32} (h : MRo N f r j ρ) (h9 : r'.1 9 = upd (r.1 9) j a) (ha : a = Int32.ofNat t) (ht : t ≤ 6) : MRo N f r' (j + 1) (upN ρ j t) := by
  refine ⟨fun k a1 a2 => ?_, fun k hk => by rw [uN_ne (by omega)]; exact h.2.1 k (by omega), fun k => by
    by_cases hk : k = j
    · rw [hk, uN_eq]; exact ht
    · rw [uN_ne hk]; exact h.2.2 k⟩
  rw [h9]
  by_cases hk : k = j
  · subst hk; rw [ud_eq, uN_eq, ha]
  · rw [ud_ne hk, uN_ne hk]; exact h.1 k a1 a2
theorem MGi.cg {N f : Nat} {r r' : RS} {cs cs' : List Nat} {ρ γ : Nat → Nat} (h : MGi N f r cs ρ γ) (h12 : r'.1 12 = r.1 12) (hs : ∀ k, k + 1 ∉ cs' → k + 1 ∉ cs) (hs2 : ∀ a, a ∈ cs' → a ≠ 0 → a ∈ cs) : MGi N f r' cs' ρ γ := by
  unfold MGi
  rw [h12]
  exact ⟨fun k a b c e => h.1 k a b c (hs k e), h.2.1, fun a ha h0 => h.2.2 a (hs2 a ha h0) h0⟩
theorem MGi.st {N f : Nat} {r r' : RS} {cs cs' : List Nat} {j t : Nat} {ρ γ : Nat → Nat} (h : MGi N f r cs ρ γ) (h12 : r'.1 12 = r.1 12) (hs : ∀ k, k + 1 ∉ cs' → k + 1 ∉ cs) (hs2 : ∀ a, a ∈ cs' → a ≠ 0 → a ∈ cs) (ht : t ≠ 6) (hj : ρ j = 0) : MGi N f r' cs' (upN ρ j t) γ := by
  unfold MGi
  rw [h12]
  refine ⟨fun k a b c e => ?_, fun k a b c => ?_, fun a ha h0 => ?_⟩
  · by_cases hk : k = j
    · subst hk; rw [uN_eq] at c; exact absurd c ht
    · rw [uN_ne hk] at c; exact h.1 k a b c (hs k e)
  · by_cases hk : k = j
    · subst hk; exact h.2.1 k a b (by omega)
    · rw [uN_ne hk] at c; exact h.2.1 k a b c
  · have h6 := h.2.2 a (hs2 a ha h0) h0
    have hk : a - 1 ≠ j := fun hk => by rw [hk, hj] at h6; omega
    rw [uN_ne hk]; exact h6
theorem MSc.cg {N f : Nat} {r r' : RS} {ρ σ : Nat → Nat} (h : MSc N f r ρ σ) (h13 : r'.1 13 = r.1 13) : MSc N f r' ρ σ := by
  unfold MSc
  rw [h13]; exact h
theorem MSc.st {N f : Nat} {r r' : RS} {j t : Nat} {ρ σ : Nat → Nat} (h : MSc N f r ρ σ) (h13 : r'.1 13 = r.1 13) (ht : t ≠ 2) (ht3 : t ≠ 3) : MSc N f r' (upN ρ j t) σ := by
  unfold MSc
  rw [h13]
  refine ⟨fun k a b c => ?_, fun k c => ?_⟩
  · by_cases hk : k = j
    · subst hk; rw [uN_eq] at c; omega
    · rw [uN_ne hk] at c; exact h.1 k a b c
  · by_cases hk : k = j
    · subst hk; rw [uN_eq] at c; omega
    · rw [uN_ne hk] at c; exact h.2 k c
theorem MSi.cg {N f : Nat} {r r' : RS} {α : Nat → Nat} (h : MSi N f r α) (h14 : r'.1 14 = r.1 14) : MSi N f r' α := by
  unfold MSi
  rw [h14]; exact h
theorem MUn.cg {N f : Nat} {r r' : RS} {j j' : Nat} {ρ σ ω : Nat → Nat} (h : MUn N f r j ρ σ ω) (h15 : r'.1 15 = r.1 15) (hj : j ≤ j') : MUn N f r' j' ρ σ ω := by
  unfold MUn
  rw [h15]; exact ⟨h.1, fun k hk => h.2 k (by omega)⟩
theorem MUn.st {N f : Nat} {r r' : RS} {j t : Nat} {ρ σ ω : Nat → Nat} (h : MUn N f r j ρ σ ω) (h15 : r'.1 15 = r.1 15) (ht : t ≠ 3) (hj : ρ j ≠ 3) : MUn N f r' (j + 1) (upN ρ j t) σ ω := by
  unfold MUn
  rw [h15]
  refine ⟨fun k a b => ?_, fun k hk => h.2 k (by omega)⟩
  by_cases hk : k = j
  · subst hk
    rw [uN_eq, if_neg ht, h.1 k a b, if_neg hj]
  · rw [uN_ne hk]; exact h.1 k a b
/-- What reading a part leaves as it was. -/
def FrP (p f m : Nat) (r r' : RS) : Prop := (∀ i, i ≠ 9 → i ≠ 12 → i ≠ 13 → i ≠ 14 → i ≠ 15 → i ≠ 19 → i ≠ 21 → i ≠ 22 → i ≠ 23 → r'.1 i = r.1 i) ∧ (∀ i, i ≠ 6 → i ≠ 7 → i ≠ 8 → i ≠ 9 → i ≠ 10 → r'.2.1 i = r.2.1 i) ∧ r'.2.2 = r.2.2 ∧ (∀ k, ¬ (f ≤ k ∧ k < m) → r'.1 9 k = r.1 9 k ∧ r'.1 12 k = r.1 12 k ∧ r'.1 13 k = r.1 13 k ∧ r'.1 14 k = r.1 14 k ∧ r'.1 15 k = r.1 15 k) ∧ ∀ k, k ≠ p → r'.1 19 k = r.1 19 k
theorem FrP.rf {p f m : Nat} {r : RS} : FrP p f m r r := ⟨fun _ _ _ _ _ _ _ _ _ _ => rfl, fun _ _ _ _ _ _ => rfl, rfl, fun _ _ => ⟨rfl, rfl, rfl, rfl, rfl⟩, fun _ _ => rfl⟩
theorem FrP.tr {p f m : Nat} {r r' r2 : RS} (h : FrP p f m r r') (h2 : FrP p f m r' r2) : FrP p f m r r2 := by
  refine ⟨fun i a b c e g h3 h4 h5 h6 => (h2.1 i a b c e g h3 h4 h5 h6).trans (h.1 i a b c e g h3 h4 h5 h6), fun i a b c e g => (h2.2.1 i a b c e g).trans (h.2.1 i a b c e g), h2.2.2.1.trans h.2.2.1, fun k hk => ?_, fun k hk => (h2.2.2.2.2 k hk).trans (h.2.2.2.2 k hk)⟩
  obtain ⟨a1, a2, a3, a4, a5⟩ := h.2.2.2.1 k hk
  obtain ⟨b1, b2, b3, b4, b5⟩ := h2.2.2.2.1 k hk
  exact ⟨b1.trans a1, b2.trans a2, b3.trans a3, b4.trans a4, b5.trans a5⟩
theorem MZ.same {cl nm sk : Nat → Nat} {N f p : Nat} {r r' : RS} {j st st' : Nat} {fr fr' : List Fm} {ρ γ : Nat → Nat} {bl bl' : List (Nat × Nat × Nat)} {en en' ln ln' np : Nat} {σ α ω : Nat → Nat} (h : MZ cl nm sk N f p r j st fr ρ γ bl en ln np σ α ω) (hA : ∀ i, i ≠ 21 → i ≠ 22 → i ≠ 23 → r'.1 i = r.1 i) (h3 : r'.2.1 3 = r.2.1 3) (hl : r'.2.2 = r.2.2) (hst : st' ≤ 13) (hB : MBl f r' (j + 1) ω bl') (hE : MEx f r' (j + 1) st' fr' en') (hL : MLn f r' (j + 1) st' ln') (hs : ∀ k, k + 1 ∉ fr'.map (fun y => y.1) → k + 1 ∉ fr.map (fun y => y.1)) (hs2 : ∀ a, a ∈ fr'.map (fun y => y.1) → a ≠ 0 → a ∈ fr.map (fun y => y.1)) (h12 : st' ≠ 12) : MZ cl nm sk N f p r' (j + 1) st' fr' ρ γ bl' en' ln' np σ α ω := by
  obtain ⟨hM, h16, -, -, -, -, hRo, hGi, hSc, hSi, hUn, h19, hnp, -⟩ := h
  refine ⟨hM.cg h3 hl (hA 5 (by decide) (by decide) (by decide)) (hA 6 (by decide) (by decide) (by decide)) (hA 2 (by decide) (by decide) (by decide)), by rw [hA 16 (by decide) (by decide) (by decide)]; exact h16, hst, hB, hE, hL, hRo.cg (hA 9 (by decide) (by decide) (by decide)) (by omega), hGi.cg (hA 12 (by decide) (by decide) (by decide)) hs hs2, hSc.cg (hA 13 (by decide) (by decide) (by decide)), hSi.cg (hA 14 (by decide) (by decide) (by decide)), hUn.cg (hA 15 (by decide) (by decide) (by decide)) (by omega), by rw [hA 19 (by decide) (by decide) (by decide)]; exact h19, by omega, fun h => absurd h h12⟩
theorem MZ.role {cl nm sk : Nat → Nat} {N f p : Nat} {r r' : RS} {j st st' t : Nat} {fr fr' : List Fm} {ρ γ : Nat → Nat} {bl bl' : List (Nat × Nat × Nat)} {en en' ln ln' np : Nat} {σ α ω : Nat → Nat} {a : Int32} (h : MZ cl nm sk N f p r j st fr ρ γ bl en ln np σ α ω) (hA : ∀ i, i ≠ 9 → r'.1 i = r.1 i) (h9 : r'.1 9 = upd (r.1 9) j a) (ha : a = Int32.ofNat t) (ht : t ≤ 6) (ht2 : t ≠ 2) (ht3 : t ≠ 3) (ht6 : t ≠ 6) (h3 : r'.2.1 3 = r.2.1 3) (hl : r'.2.2 = r.2.2) (hst : st' ≤ 13) (hB : MBl f r' (j + 1) ω bl') (hE : MEx f r' (j + 1) st' fr' en') (hL : MLn f r' (j + 1) st' ln') (hs : ∀ k, k + 1 ∉ fr'.map (fun y => y.1) → k + 1 ∉ fr.map (fun y => y.1)) (hs2 : ∀ a, a ∈ fr'.map (fun y => y.1) → a ≠ 0 → a ∈ fr.map (fun y => y.1)) (h12 : st' = 12 → t = 5 ∧ f < j) : MZ cl nm sk N f p r' (j + 1) st' fr' (upN ρ j t) γ bl' en' ln' np σ α ω := by
  obtain ⟨hM, h16, -, -, -, -, hRo, hGi, hSc, hSi, hUn, h19, hnp, -⟩ := h
  have h0 := hRo.2.1 j (Nat.le_refl _)
  exact ⟨hM.cg h3 hl (hA 5 (by decide)) (hA 6 (by decide)) (hA 2 (by decide)), by rw [hA 16 (by decide)]; exact h16, hst, hB, hE, hL, hRo.st h9 ha ht, hGi.st (hA 12 (by decide)) hs hs2 ht6 h0, hSc.st (hA 13 (by decide)) ht2 ht3, hSi.cg (hA 14 (by decide)), hUn.st (hA 15 (by decide)) ht3 (by omega), by rw [hA 19 (by decide)]; exact h19, by omega, fun h => ⟨by rw [Nat.add_sub_cancel, uN_eq]; exact (h12 h).1, by have := (h12 h).2; omega⟩⟩
