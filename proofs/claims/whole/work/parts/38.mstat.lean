/-! the model's steps between expressions -/
/-- What the walk itself keeps. -/
def Wf (x : XS) : Prop := (6 ≤ x.1 → x.1 ≤ 12 → x.2.2.2.2.2.1 ≠ []) ∧ (x.1 ≤ 8 ∨ 13 ≤ x.1 → x.2.1 = []) ∧ (9 ≤ x.1 → x.1 ≤ 12 → x.2.1 ≠ []) ∧ x.1 ≤ 13 ∧ (x.1 = 10 → 2 ≤ x.2.1.length)
theorem stp_wf {cl nm : Nat → Nat} {f k : Nat} {x x' : XS} (hw : Wf x) (h : stp cl nm f k x = some x') : Wf x' := by
  obtain ⟨w1, w2, w3, w4, w5⟩ := hw
  have mk6 : ∀ {st : Nat} {ρ γ : Nat → Nat} {c : Cds} {V : VS}, st ≤ 8 → (6 ≤ st → V.1 ≠ []) → Wf (st, [], ρ, γ, c, V) := fun h1 h2 => ⟨fun a _ => h2 a, fun _ => rfl, fun a _ => absurd (show 9 ≤ _ from a) (by omega), by show _ ≤ 13; omega, fun a => absurd (show _ = 10 from a) (by omega)⟩
  have mk9 : ∀ {st : Nat} {y : Fm} {F : List Fm} {ρ γ : Nat → Nat} {c : Cds} {V : VS}, 9 ≤ st → st ≤ 12 → st ≠ 10 → V.1 ≠ [] → Wf (st, y :: F, ρ, γ, c, V) := fun h1 h2 h10 h3 => ⟨fun _ _ => h3, fun a => by have : _ ≤ 8 ∨ 13 ≤ _ := a; exact absurd this (by dsimp only; omega), fun _ _ => List.cons_ne_nil _ _, by show _ ≤ 13; omega, fun a => absurd a h10⟩
  unfold stp at h
  split at h
  · unfold xHd at h
    repeat' split at h
    all_goals first | (have h := Option.some.inj h; subst h; exact mk6 (by omega) (fun h => by first | omega | exact List.cons_ne_nil _ _)) | exact absurd h (by simp)
  split at h
  · have hbl := w1 (by omega) (by omega)
    unfold xSt at h
    split at h
    · split at h
      · have h := Option.some.inj h; subst h; exact mk6 (by omega) (fun _ => List.cons_ne_nil _ _)
      · exact absurd h (by simp)
    split at h
    · split at h
      · exact absurd h (by simp)
      · rename_i o te ag B _
        have h := Option.some.inj h
        subst h
        by_cases hB : B = []
        · rw [if_pos hB]
          exact ⟨fun _ a => absurd (show 13 ≤ 12 from a) (by omega), fun _ => rfl, fun _ a => absurd (show 13 ≤ 12 from a) (by omega), by show 13 ≤ 13; omega, fun a => absurd (show 13 = 10 from a) (by omega)⟩
        · rw [if_neg hB]
          exact mk6 (by omega) (fun _ => hB)
    split at h
    · have h := Option.some.inj h; subst h; exact mk6 (by omega) (fun _ => hbl)
    split at h
    · have h := Option.some.inj h; subst h; exact mk6 (by omega) (fun _ => hbl)
    repeat' split at h
    all_goals first | (have h := Option.some.inj h; subst h; exact mk9 (by omega) (by omega) (by omega) hbl) | exact absurd h (by simp)
  split at h
  · have hbl := w1 (by omega) (by omega)
    unfold xLet at h
    split at h
    · have h := Option.some.inj h; subst h; exact mk6 (by omega) (fun _ => hbl)
    · exact absurd h (by simp)
  split at h
  · have hbl := w1 (by omega) (by omega)
    split at h
    · have h := Option.some.inj h; subst h; exact mk9 (by omega) (by omega) (by omega) hbl
    · exact absurd h (by simp)
  split at h
  · exact absurd h (by simp)
  rename_i ca le cn o F hfr
  have hst : x.1 ≤ 12 := by
    by_cases h13 : 13 ≤ x.1
    · have := w2 (Or.inr h13)
      rw [hfr] at this
      exact absurd this (List.cons_ne_nil _ _)
    · omega
  have hbl := w1 (by omega) hst
  split at h
  · unfold xOpd at h
    split at h
    · rename_i h10
      have h := Option.some.inj h; subst h
      have h2 := w5 h10.1
      rw [hfr, List.length_cons] at h2
      cases F with
      | nil => exact absurd h2 (by decide)
      | cons y F => exact mk9 (by omega) (by omega) (by omega) hbl
    split at h
    · have h := Option.some.inj h; subst h; exact mk9 (by omega) (by omega) (by omega) hbl
    split at h
    · have h := Option.some.inj h; subst h; exact mk9 (by omega) (by omega) (by omega) hbl
    split at h
    · have h := Option.some.inj h; subst h; exact mk9 (by omega) (by omega) (by omega) hbl
    · exact absurd h (by simp)
  split at h
  · split at h
    · have h := Option.some.inj h; subst h
      exact ⟨fun _ _ => hbl, fun a => absurd (show 10 ≤ 8 ∨ 13 ≤ 10 from a) (by omega), fun _ _ => List.cons_ne_nil _ _, by show 10 ≤ 13; omega, fun _ => by show 2 ≤ F.length + 1 + 1; omega⟩
    · exact absurd h (by simp)
  split at h
  · unfold xOpr at h
    split at h
    · have h := Option.some.inj h; subst h; exact mk9 (by omega) (by omega) (by omega) hbl
    split at h
    · split at h
      · have h := Option.some.inj h; subst h; exact mk9 (by omega) (by omega) (by omega) hbl
      · exact absurd h (by simp)
    split at h
    · unfold xEnd at h
      split at h
      · split at h
        · split at h
          · have h := Option.some.inj h; subst h; exact mk6 (by omega) (fun _ => List.cons_ne_nil _ _)
          · exact absurd h (by simp)
        · have h := Option.some.inj h; subst h; exact mk6 (by omega) (fun _ => hbl)
      · exact absurd h (by simp)
    rename_i hF
    split at h
    · have h := Option.some.inj h; subst h
      cases F with
      | nil => exact absurd rfl hF
      | cons y F => exact mk9 (by omega) (by omega) (by omega) hbl
    split at h
    · have h := Option.some.inj h; subst h; exact mk9 (by omega) (by omega) (by omega) hbl
    · exact absurd h (by simp)
  · exact absurd h (by simp)
theorem aut_wf {cl nm : Nat → Nat} {f : Nat} {c0 : Cds} : ∀ (i : Nat) (x : XS), aut0 cl nm f c0 i = some x → Wf x := by
  intro i
  induction i with
  | zero =>
    intro x h
    have h := Option.some.inj h
    subst h
    exact ⟨fun a => absurd (show 6 ≤ 0 from a) (by omega), fun _ => rfl, fun a => absurd (show 9 ≤ 0 from a) (by omega), by show 0 ≤ 13; omega, fun a => absurd (show 0 = 10 from a) (by omega)⟩
  | succ i ih =>
    intro x h
    have h : (aut0 cl nm f c0 i).bind (stp cl nm f (f + 1 + i)) = some x := h
    cases h3 : aut0 cl nm f c0 i with
    | none => rw [h3] at h; exact absurd h (by simp)
    | some y =>
      rw [h3] at h
      exact stp_wf (ih y h3) h
theorem cb_loop {N : Nat} {j o n : Nat} (hj : j ≤ 240) (hn : n < 4) : ∀ (z q : Nat) (r : RS) (M : Nat), j - q = z → q ≤ j → r.2.1 7 = Int32.ofNat n → ∃ r' : RS, lpN BMo_closeBlock_22 (M + z + 1) (Int32.ofNat j, Int32.ofNat o, Int32.ofNat q, r) = some (1, r') ∧ (∀ i, i ≠ 15 → r'.1 i = r.1 i) ∧ (∀ k, r'.1 15 k = if q ≤ k ∧ k < j ∧ r.1 9 k = 3 ∧ r.1 13 k = Int32.ofNat o then Int32.ofNat j else r.1 15 k) ∧ r'.2.1 = va_up r.2.1 6 (if n = 0 then 13 else 6) ∧ r'.2.2 = r.2.2 := by
  intro z
  induction z with
  | zero =>
    intro q r M h1 h2 h7
    have : q = j := by omega
    subst this
    rw [Nat.add_zero, lp_succ]
    unfold BMo_closeBlock_22 f_Mo_goesTo
    dsimp only
    rw [if_pos (by rw [i_le]; omega), h7]
    refine ⟨(r.1, va_up r.2.1 6 (if n = 0 then 13 else 6), r.2.2), ?_, fun _ _ => rfl, fun k => ?_, rfl, rfl⟩
    · by_cases h0 : n = 0
      · rw [if_pos (show Int32.ofNat n = 0 by rw [h0]; rfl), if_pos h0]; rfl
      · rw [if_neg (show ¬ Int32.ofNat n = 0 by intro h; exact h0 ((o_eq (b := 0) (by omega) (by omega)).mp h)), if_neg h0]; rfl
    · show r.1 15 k = _
      rw [if_neg (show ¬ (q ≤ k ∧ k < q ∧ r.1 9 k = 3 ∧ r.1 13 k = Int32.ofNat o) from fun h => by omega)]
  | succ z ih =>
    intro q r M h1 h2 h7
    have ib : inb (Int32.ofNat q) 240 = true := o_inb (by omega) (by omega)
    rw [show M + (z + 1) + 1 = (M + z + 1) + 1 by omega, lp_succ]
    unfold BMo_closeBlock_22
    simp only [ib, ↓reduceIte, o_nat (show q < 2147483648 by omega), o_p1]
    rw [if_neg (by rw [o_le (by omega) (by omega)]; omega)]
    by_cases hc : r.1 9 q = 3 ∧ r.1 13 q = Int32.ofNat o
    · rw [if_pos hc.1, if_pos hc.2]
      obtain ⟨r', e1, e2, e3, e4, e5⟩ := ih (q + 1) (va_up r.1 15 (upd (r.1 15) q (Int32.ofNat j)), r.2.1, r.2.2) M (by omega) (by omega) h7
      refine ⟨r', e1, fun i hi => (e2 i hi).trans (up_ne hi), fun k => ?_, e4, e5⟩
      rw [e3 k]
      show (if q + 1 ≤ k ∧ k < j ∧ r.1 9 k = 3 ∧ r.1 13 k = Int32.ofNat o then Int32.ofNat j else upd (r.1 15) q (Int32.ofNat j) k) = _
      by_cases hk : k = q
      · subst hk
        rw [ud_eq, if_pos (show k ≤ k ∧ k < j ∧ r.1 9 k = 3 ∧ r.1 13 k = Int32.ofNat o from ⟨by omega, by omega, hc⟩), ite_self]
      · rw [ud_ne hk]
        by_cases hq : q + 1 ≤ k ∧ k < j ∧ r.1 9 k = 3 ∧ r.1 13 k = Int32.ofNat o
        · rw [if_pos hq, if_pos ⟨by omega, hq.2⟩]
        · rw [if_neg hq, if_neg (fun h => hq ⟨by omega, h.2⟩)]
    · obtain ⟨r', e1, e2, e3, e4, e5⟩ := ih (q + 1) r M (by omega) (by omega) h7
      refine ⟨r', ?_, e2, fun k => ?_, e4, e5⟩
      · by_cases h9 : r.1 9 q = 3
        · rw [if_pos h9, if_neg (fun h => hc ⟨h9, h⟩)]; exact e1
        · rw [if_neg h9]; exact e1
      · rw [e3 k]
        by_cases hk : k = q
        · subst hk
          rw [if_neg (fun h => by omega), if_neg (fun h => hc h.2.2)]
        · by_cases hq : q + 1 ≤ k ∧ k < j ∧ r.1 9 k = 3 ∧ r.1 13 k = Int32.ofNat o
          · rw [if_pos hq, if_pos ⟨by omega, hq.2⟩]
          · rw [if_neg hq, if_neg (fun h => hq ⟨by omega, h.2⟩)]
