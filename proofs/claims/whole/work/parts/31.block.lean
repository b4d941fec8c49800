/-! blocks: what the desk keeps of them -/
def pm : Nat → Int32
  | 0 => -1
  | n + 1 => Int32.ofNat n
def Gw (c c' : Cds) : Prop := c.length ≤ c'.length ∧ ∀ i, i < c.length → (c.getD i (0, 0)).1 = 4 → (c'.getD i (0, 0)).1 = 4
theorem Gw.rf {c : Cds} : Gw c c := ⟨Nat.le_refl _, fun _ _ h => h⟩
theorem Gw.tr {c c' c2 : Cds} (h : Gw c c') (h2 : Gw c' c2) : Gw c c2 := ⟨Nat.le_trans h.1 h2.1, fun i hi h4 => h2.2 i (Nat.lt_of_lt_of_le hi h.1) (h.2 i hi h4)⟩
theorem Gw.app {c w : Cds} : Gw c (c ++ w) := by
  refine ⟨by rw [List.length_append]; omega, fun i hi h => ?_⟩
  rw [List.getD_eq_getElem?_getD, List.getElem?_append_left hi, ← List.getD_eq_getElem?_getD]; exact h
theorem Gw.st {c : Cds} {i : Nat} {v : Int32} : Gw c (c.set i (4, v)) := by
  refine ⟨by rw [List.length_set]; omega, fun k hk h => ?_⟩
  rw [List.getD_eq_getElem?_getD, List.getElem?_set]
  by_cases h1 : i = k
  · subst h1
    rw [if_pos rfl, if_pos hk]; rfl
  · rw [if_neg h1, ← List.getD_eq_getElem?_getD]; exact h
theorem stp_gw {cl nm : Nat → Nat} {f k : Nat} {x x' : XS} (h : stp cl nm f k x = some x') : Gw x.2.2.2.2.1 x'.2.2.2.2.1 := by
  unfold stp at h
  split at h
  · unfold xHd at h
    repeat' split at h
    all_goals first | (have h := Option.some.inj h; subst h; exact Gw.rf) | exact absurd h (by simp)
  split at h
  · unfold xSt at h
    split at h
    · split at h
      · have h := Option.some.inj h; subst h; exact Gw.rf
      · exact absurd h (by simp)
    split at h
    · split at h
      · exact absurd h (by simp)
      · have h := Option.some.inj h
        subst h
        dsimp only
        split
        · exact Gw.app
        · exact Gw.app.tr Gw.st
    repeat' split at h
    all_goals first | (have h := Option.some.inj h; subst h; exact Gw.rf) | exact absurd h (by simp)
  split at h
  · unfold xLet at h
    split at h
    · have h := Option.some.inj h; subst h; exact Gw.rf
    · exact absurd h (by simp)
  split at h
  · split at h
    · have h := Option.some.inj h; subst h; exact Gw.rf
    · exact absurd h (by simp)
  split at h
  · exact absurd h (by simp)
  split at h
  · unfold xOpd at h
    split at h
    · have h := Option.some.inj h; subst h; exact Gw.app
    split at h
    · have h := Option.some.inj h; subst h; exact Gw.app
    split at h
    · have h := Option.some.inj h; subst h
      dsimp only
      split
      · exact Gw.rf
      · exact Gw.app
    split at h
    · have h := Option.some.inj h; subst h; exact Gw.rf
    · exact absurd h (by simp)
  split at h
  · split at h
    · have h := Option.some.inj h; subst h; exact Gw.rf
    · exact absurd h (by simp)
  split at h
  · unfold xOpr at h
    split at h
    · have h := Option.some.inj h; subst h; exact Gw.app
    split at h
    · split at h
      · have h := Option.some.inj h; subst h; exact Gw.app
      · exact absurd h (by simp)
    split at h
    · unfold xEnd at h
      split at h
      · split at h
        · split at h
          · have h := Option.some.inj h; subst h; exact (Gw.app.tr Gw.app).tr Gw.app
          · exact absurd h (by simp)
        · have h := Option.some.inj h; subst h; exact Gw.app.tr Gw.app
      · exact absurd h (by simp)
    split at h
    · have h := Option.some.inj h; subst h; exact Gw.app.tr Gw.app
    split at h
    · have h := Option.some.inj h; subst h; exact Gw.app
    · exact absurd h (by simp)
  · exact absurd h (by simp)
theorem aut_gw {cl nm : Nat → Nat} {f : Nat} {c0 : Cds} : ∀ (z j : Nat) (x x' : XS), f < j → aut cl nm f c0 j = some x → aut cl nm f c0 (j + z) = some x' → Gw x.2.2.2.2.1 x'.2.2.2.2.1 := by
  intro z
  induction z with
  | zero =>
    intro j x x' hf h1 h2
    have : x = x' := Option.some.inj (h1.symm.trans h2)
    subst this
    exact Gw.rf
  | succ z ih =>
    intro j x x' hf h1 h2
    rw [← Nat.add_assoc, aut_s (by omega)] at h2
    cases h3 : aut cl nm f c0 (j + z) with
    | none => rw [h3] at h2; exact absurd h2 (by simp)
    | some y =>
      rw [h3] at h2
      exact (ih j x y hf h1 h3).tr (stp_gw h2)
def BL (f : Nat) (d : DS) (c : Cds) : List (Nat × Nat × Nat) → Prop
  | [] => True
  | x :: B => d.1 24 B.length = Int32.ofNat x.1 ∧ d.1 25 B.length = pm x.2.1 ∧ d.1 26 B.length = pm x.2.2 ∧ f + 2 < x.1 ∧ x.1 < 240 ∧ (x.2.1 ≠ 0 → x.2.1 ≤ c.length ∧ (c.getD (x.2.1 - 1) (0, 0)).1 = 4) ∧ x.2.2 ≤ 240 ∧ BL f d c B
theorem BL.cg {f : Nat} {d d' : DS} {c c' : Cds} : ∀ {bl : List (Nat × Nat × Nat)}, BL f d c bl → (∀ i, i < bl.length → d'.1 24 i = d.1 24 i ∧ d'.1 25 i = d.1 25 i ∧ d'.1 26 i = d.1 26 i) → Gw c c' → BL f d' c' bl
  | [], _, _, _ => trivial
  | x :: B, ⟨h1, h2, h3, h4, h5, h6, h7, h8⟩, hA, hG => by
    obtain ⟨a1, a2, a3⟩ := hA B.length (by rw [List.length_cons]; omega)
    refine ⟨a1.trans h1, a2.trans h2, a3.trans h3, h4, h5, fun h => ?_, h7, BL.cg h8 (fun i hi => hA i (by rw [List.length_cons]; omega)) hG⟩
    obtain ⟨g1, g2⟩ := h6 h
    exact ⟨Nat.le_trans g1 hG.1, hG.2 _ (by omega) g2⟩
/-- What the desk keeps of the part beside roles and code. V: blocks, ending, let, again, last instruction, parameters, scope, since, until. -/
def VD (f m : Nat) (d : DS) (j : Nat) (c : Cds) (V : VS) : Prop := d.2 9 = Int32.ofNat V.1.length ∧ V.1.length ≤ 4 ∧ BL f d c V.1 ∧ (∀ k, V.2.2.2.2.2.2.2.1 k ≠ 0 → f ≤ k ∧ d.1 16 k = Int32.ofNat (V.2.2.2.2.2.2.1 k) ∧ d.1 17 k = Int32.ofNat (V.2.2.2.2.2.2.2.1 k)) ∧ (∀ k, V.2.2.2.2.2.2.2.2 k ≠ 0 → f ≤ k ∧ d.1 18 k = Int32.ofNat (V.2.2.2.2.2.2.2.2 k)) ∧ (∀ i, i < V.2.2.2.2.2.1 → d.1 16 (f + 3 + 2 * i) = Int32.ofNat (f + 2) ∧ d.1 17 (f + 3 + 2 * i) = Int32.ofNat (f + 3 + 2 * i + 1)) ∧ d.1 18 (f + 2) = Int32.ofNat m ∧ f + 3 + 2 * V.2.2.2.2.2.1 ≤ j ∧ f + 3 ≤ j
theorem VD.fe {f m : Nat} {d d' : DS} {j j' : Nat} {c c' : Cds} {V : VS} (h : VD f m d j c V) (hf : FrE f d d') (hg : Gw c c') (hj : j ≤ j') : VD f m d' j' c' V := by
  obtain ⟨v1, v2, v3, v4, v5, v6, v7, v8, v9⟩ := h
  have a16 := hf.1 16 (by decide) (by decide) (by decide) (by decide)
  have a17 := hf.1 17 (by decide) (by decide) (by decide) (by decide)
  have a18 := hf.1 18 (by decide) (by decide) (by decide) (by decide)
  have a24 := hf.1 24 (by decide) (by decide) (by decide) (by decide)
  have a25 := hf.1 25 (by decide) (by decide) (by decide) (by decide)
  have a26 := hf.1 26 (by decide) (by decide) (by decide) (by decide)
  refine ⟨(hf.2.1 9 (by decide) (by decide)).trans v1, v2, v3.cg (fun i _ => by rw [a24, a25, a26]; exact ⟨rfl, rfl, rfl⟩) hg, ?_, ?_, ?_, ?_, by omega, by omega⟩
  · intro k hk
    rw [a16, a17]
    exact v4 k hk
  · intro k hk
    rw [a18]
    exact v5 k hk
  · rw [a16, a17]; exact v6
  · rw [a18]; exact v7
def FrS (f : Nat) (d d' : DS) : Prop := (∀ i, i ≠ 13 → i ≠ 16 → i ≠ 17 → i ≠ 18 → i ≠ 19 → i ≠ 21 → i ≠ 22 → i ≠ 24 → i ≠ 25 → i ≠ 26 → d'.1 i = d.1 i) ∧ (∀ i, i ≠ 6 → i ≠ 7 → i ≠ 9 → d'.2 i = d.2 i) ∧ ∀ k, k < f → d'.1 13 k = d.1 13 k ∧ d'.1 16 k = d.1 16 k ∧ d'.1 17 k = d.1 17 k ∧ d'.1 18 k = d.1 18 k ∧ d'.1 19 k = d.1 19 k
theorem FrS.rf {f : Nat} {d : DS} : FrS f d d := ⟨fun _ _ _ _ _ _ _ _ _ _ _ => rfl, fun _ _ _ _ => rfl, fun _ _ => ⟨rfl, rfl, rfl, rfl, rfl⟩⟩
theorem FrS.tr {f : Nat} {d d' d2 : DS} (h : FrS f d d') (h2 : FrS f d' d2) : FrS f d d2 := by
  refine ⟨fun i a b c e g h3 h4 h5 h6 h7 => (h2.1 i a b c e g h3 h4 h5 h6 h7).trans (h.1 i a b c e g h3 h4 h5 h6 h7), fun i a b c => (h2.2.1 i a b c).trans (h.2.1 i a b c), fun k hk => ?_⟩
  obtain ⟨a1, a2, a3, a4, a5⟩ := h.2.2 k hk
  obtain ⟨b1, b2, b3, b4, b5⟩ := h2.2.2 k hk
  exact ⟨b1.trans a1, b2.trans a2, b3.trans a3, b4.trans a4, b5.trans a5⟩
theorem FrS.fe {f : Nat} {d d' : DS} (h : FrE f d d') : FrS f d d' := ⟨fun i a _ _ _ b c e _ _ _ => h.1 i a b c e, fun i a b _ => h.2.1 i a b, fun k hk => ⟨(h.2.2 k hk).1, congrFun (h.1 16 (by decide) (by decide) (by decide) (by decide)) k, congrFun (h.1 17 (by decide) (by decide) (by decide) (by decide)) k, congrFun (h.1 18 (by decide) (by decide) (by decide) (by decide)) k, (h.2.2 k hk).2⟩⟩
/-- What opening a block changes. -/
def Opn (d d' : DS) (j n te ag : Nat) : Prop := (∀ i, i ≠ 21 → i ≠ 22 → i ≠ 24 → i ≠ 25 → i ≠ 26 → d'.1 i = d.1 i) ∧ (∀ i, i ≠ 6 → i ≠ 7 → i ≠ 9 → d'.2 i = d.2 i) ∧ d'.2 7 = Int32.ofNat (j + 1) ∧ d'.2 9 = Int32.ofNat (n + 1) ∧ d'.1 24 n = Int32.ofNat j ∧ d'.1 25 n = pm te ∧ d'.1 26 n = pm ag ∧ ∀ i, i ≠ n → d'.1 24 i = d.1 24 i ∧ d'.1 25 i = d.1 25 i ∧ d'.1 26 i = d.1 26 i
theorem Opn.fc {d d' d2 : DS} {j n te ag : Nat} (h : Opn d d' j n te ag) (hf : FrC d' d2) : Opn d d2 j n te ag := by
  obtain ⟨h1, h2, h3, h4, h5, h6, h7, h8⟩ := h
  have a24 := hf.1 24 (by decide) (by decide)
  have a25 := hf.1 25 (by decide) (by decide)
  have a26 := hf.1 26 (by decide) (by decide)
  refine ⟨fun i a b c e g => (hf.1 i a b).trans (h1 i a b c e g), fun i a b c => (hf.2 i a).trans (h2 i a b c), (hf.2 7 (by decide)).trans h3, (hf.2 9 (by decide)).trans h4, by rw [a24]; exact h5, by rw [a25]; exact h6, by rw [a26]; exact h7, ?_⟩
  rw [a24, a25, a26]; exact h8
theorem pm_m1 {n : Nat} (h : n ≤ 2147483647) : (pm n = -1) = (n = 0) := by
  cases n with
  | zero => simp [pm]
  | succ n =>
    show (Int32.ofNat n = -1) = _
    rw [o_nm1 (by omega)]; simp
theorem open_ok {cl nm : Nat → Nat} {N f m : Nat} {d : DS} {j n te ag : Nat} {cs : List Nat} {ρ γ : Nat → Nat} {w X : Cds} {a1 a2 : Int32} (hK : TK cl nm N) (hG : GTk cl nm N f m d j cs ρ γ) (hC : CD d w) (hw : w.length + X.length ≤ j + 1) (h9 : d.2 9 = Int32.ofNat n) (hn : n < 4) (hj : j < m) (hc : cl j = 123) (hcase : a1 = 0 ∧ a2 = -1 ∧ te = 0 ∧ ag = 0 ∧ X = [] ∨ a1 = 1 ∧ a2 = pm ag ∧ ag ≤ 240 ∧ te = w.length + 1 ∧ X = [(4, 0)] ++ (if ag = 0 then [] else [(5, 0)])) : ∃ d', f_Gr_openBlock a1 a2 d = some (1, d') ∧ CD d' (w ++ X) ∧ Opn d d' j n te ag := by
  have hN := hK.1
  obtain ⟨hT, hfj, hjm, hmN, h7, h8, -⟩ := id hG
  have bi : inb (Int32.ofNat n) 4 = true := o_inb hn (by omega)
  have h9' : va_up d.2 7 (Int32.ofNat (j + 1)) 9 = Int32.ofNat n := h9
  have h6' : va_up d.2 7 (Int32.ofNat (j + 1)) 6 = Int32.ofNat w.length := hC.1
  have h7' : va_up d.2 7 (Int32.ofNat (j + 1)) 7 - 1 = Int32.ofNat j := by
    rw [up_eq]
    exact o_sub (a := j + 1) (b := 1) (by omega)
  unfold f_Gr_openBlock
  rw [if_neg (show ¬ (4 : Int32) ≤ d.2 9 by rw [h9, i_le, onat (by omega), n4]; omega), ts_yes (a1 := 123) (t := 123) hK hT h7 h8 hmN rfl hj hc (by omega) (by omega), Option.bind_some]
  simp only [h9', h6', h7', bi, ↓reduceIte, ne10, o_nat (show n < 2147483648 by omega), onat1 (show n < 2147483647 by omega)]
  rcases hcase with ⟨rfl, rfl, rfl, rfl, rfl⟩ | ⟨rfl, rfl, hag, rfl, rfl⟩
  · rw [if_pos rfl, if_pos rfl]
    refine ⟨_, rfl, ?_, ?_⟩
    · rw [List.append_nil]
      exact hC.cg rfl rfl rfl
    · refine ⟨fun i _ _ a b c => (up_ne b).trans ((up_ne c).trans (up_ne a)), fun i _ b c => (up_ne c).trans (up_ne b), rfl, rfl, ?_, ?_, ?_, fun i hi => ⟨?_, ?_, ?_⟩⟩
      · exact ud_eq
      · exact ud_eq
      · exact ud_eq
      · exact ud_ne hi
      · exact ud_ne hi
      · exact ud_ne hi
  · rw [if_neg ne10]
    have hw' : w.length + 1 ≤ j + 1 := by
      rw [List.length_append] at hw
      have : ([((4 : Int32), (0 : Int32))] : Cds).length = 1 := rfl
      omega
    obtain ⟨d2, k1, k2, k3⟩ := cd_add (a := 4) (b := 0) (d := (va_up (va_up (va_up (va_up d.1 24 (upd (d.1 24) n (Int32.ofNat j))) 26 (upd (d.1 26) n (pm ag))) 25 (upd (d.1 25) n (-1))) 25 (upd (upd (d.1 25) n (-1)) n (Int32.ofNat w.length)), va_up d.2 7 (Int32.ofNat (j + 1)))) (c := w) (hC.cg rfl rfl rfl) (by omega)
    have op2 : Opn d (va_up (va_up (va_up (va_up d.1 24 (upd (d.1 24) n (Int32.ofNat j))) 26 (upd (d.1 26) n (pm ag))) 25 (upd (d.1 25) n (-1))) 25 (upd (upd (d.1 25) n (-1)) n (Int32.ofNat w.length)), va_up (va_up d.2 7 (Int32.ofNat (j + 1))) 9 (Int32.ofNat (n + 1))) j n (w.length + 1) ag := by
      refine ⟨fun i _ _ a b c => (up_ne b).trans ((up_ne b).trans ((up_ne c).trans (up_ne a))), fun i _ b c => (up_ne c).trans (up_ne b), rfl, rfl, ?_, ?_, ?_, fun i hi => ⟨?_, ?_, ?_⟩⟩
      · exact ud_eq
      · exact ud_eq
      · exact ud_eq
      · exact ud_ne hi
      · exact (ud_ne hi).trans (ud_ne hi)
      · exact ud_ne hi
    have tail : ∀ {d3 : DS}, FrC (va_up (va_up (va_up (va_up d.1 24 (upd (d.1 24) n (Int32.ofNat j))) 26 (upd (d.1 26) n (pm ag))) 25 (upd (d.1 25) n (-1))) 25 (upd (upd (d.1 25) n (-1)) n (Int32.ofNat w.length)), va_up d.2 7 (Int32.ofNat (j + 1))) d3 → Opn d (d3.1, va_up d3.2 9 (d3.2 9 + 1)) j n (w.length + 1) ag := by
      intro d3 hf
      have e9 : d3.2 9 + 1 = Int32.ofNat (n + 1) := by
        rw [hf.2 9 (by decide)]
        show va_up d.2 7 (Int32.ofNat (j + 1)) 9 + 1 = _
        rw [h9', onat1 (by omega)]
      rw [e9]
      refine op2.fc ⟨fun i a b => hf.1 i a b, fun i a => ?_⟩
      by_cases hi : i = 9
      · subst hi; exact rfl
      · exact (up_ne hi).trans ((hf.2 i a).trans (up_ne hi).symm)
    rw [k1, Option.bind_some]
    by_cases hz : ag = 0
    · subst hz
      rw [if_pos rfl]
      refine ⟨_, rfl, ?_, tail k3⟩
      exact k2.cg rfl rfl rfl
    · rw [if_neg (show ¬ pm ag = -1 by rw [pm_m1 (by omega)]; exact hz)]
      have hw2 : w.length + 2 ≤ j + 1 := by
        rw [if_neg hz, List.length_append] at hw
        have : ([((4 : Int32), (0 : Int32))] : Cds).length = 1 := rfl
        have : ([((5 : Int32), (0 : Int32))] : Cds).length = 1 := rfl
        omega
      obtain ⟨d3, z1, z2, z3⟩ := cd_add (a := 5) (b := 0) k2 (by rw [lenc]; omega)
      rw [z1, Option.bind_some]
      refine ⟨_, rfl, ?_, tail ⟨fun i a b => (z3.1 i a b).trans (k3.1 i a b), fun i a => (z3.2 i a).trans (k3.2 i a)⟩⟩
      rw [if_neg hz, ← List.append_assoc]
      exact z2.cg rfl rfl rfl
