/-! a function has fewer than 96 variables -/
theorem cnt_one {Q : Nat → Bool} : ∀ n, (∀ i j, i < n → j < n → Q i = true → Q j = true → i = j) → cnt Q n ≤ 1
  | 0, _ => Nat.zero_le _
  | n + 1, h => by
    show cnt Q n + (if Q n then 1 else 0) ≤ 1
    by_cases hn : Q n = true
    · rw [if_pos hn]
      have : cnt Q n = 0 := by
        have z : ∀ m, m ≤ n → cnt Q m = 0 := by
          intro m
          induction m with
          | zero => intro _; rfl
          | succ m ih =>
            intro hm
            show cnt Q m + (if Q m then 1 else 0) = 0
            rw [ih (by omega), if_neg (fun e => by have := h m n (by omega) (by omega) e hn; omega)]
        exact z n (Nat.le_refl _)
      omega
    · rw [if_neg hn]
      exact cnt_one n (fun i j hi hj => h i j (by omega) (by omega))
theorem cnt_sp {Q R : Nat → Bool} : ∀ n, cnt Q n = cnt (fun i => Q i && R i) n + cnt (fun i => Q i && !R i) n
  | 0 => rfl
  | n + 1 => by
    show cnt Q n + (if Q n then 1 else 0) = (cnt (fun i => Q i && R i) n + (if (Q n && R n) then 1 else 0)) + (cnt (fun i => Q i && !R i) n + (if (Q n && !R n) then 1 else 0))
    rw [cnt_sp n (Q := Q) (R := R)]
    cases Q n <;> cases R n <;> simp <;> omega
theorem pigeon {nm : Nat → Nat} {n : Nat} : ∀ (V : Nat) (Q : Nat → Bool), (∀ i, i < n → Q i = true → nm i < V) → (∀ i j, i < n → j < n → Q i = true → Q j = true → nm i = nm j → i = j) → cnt Q n ≤ V
  | 0, Q, h, _ => by
    have z : ∀ m, m ≤ n → cnt Q m = 0 := by
      intro m
      induction m with
      | zero => intro _; rfl
      | succ m ih =>
        intro hm
        show cnt Q m + (if Q m then 1 else 0) = 0
        rw [ih (by omega), if_neg (fun e => by have := h m (by omega) e; omega)]
    rw [z n (Nat.le_refl _)]
    omega
  | V + 1, Q, h, hi => by
    rw [cnt_sp (Q := Q) (R := fun i => decide (nm i = V)) n]
    have h1 : cnt (fun i => Q i && decide (nm i = V)) n ≤ 1 := cnt_one n (fun i j a b c d => by
      rw [Bool.and_eq_true, decide_eq_true_eq] at c d
      exact hi i j a b c.1 d.1 (c.2.trans d.2.symm))
    have h2 : cnt (fun i => Q i && !decide (nm i = V)) n ≤ V := pigeon (nm := nm) V _ (fun i a c => by
      rw [Bool.and_eq_true, Bool.not_eq_true', decide_eq_false_iff_not] at c
      have := h i a c.1
      omega) (fun i j a b c d e => by
      rw [Bool.and_eq_true] at c d
      exact hi i j a b c.1 d.1 e)
    omega
theorem dn_bnd {cl nm sk ek R : Nat → Nat} {N f m : Nat} (hS : TS sk ek N) (hmN : m ≤ N) (hfm : f ≤ m) (h200 : ∀ k, k < N → R k ≠ 0 → cl k = 200) (hl1 : ∀ k, k < N → cl k = 200 → ek k = sk k + 1 → nm k < 27) (hl2 : ∀ k, k < N → cl k = 401 → sk k + 2 ≤ ek k) (h3 : ∀ k, f ≤ k → k < m → R k = 3 → f < k ∧ cl (k - 1) = 401) (h2 : ∀ k, f ≤ k → k < m → R k = 2 → f < k ∧ R (k - 1) ≠ 2 ∧ R (k - 1) ≠ 3) (hinj : ∀ q1 q2, f ≤ q1 → q1 < q2 → q2 < m → R q1 = 2 → R q2 = 2 → nm q1 ≠ nm q2) : dn R f m ≤ 95 := by
  have hpg : cnt (fun q => decide (f ≤ q ∧ q < m ∧ R q = 2 ∧ nm q < 27)) m ≤ 27 := pigeon (nm := nm) 27 _ (fun i _ h => by
    rw [decide_eq_true_eq] at h
    exact h.2.2.2) (fun i j _ _ hi hj e => by
    rw [decide_eq_true_eq] at hi hj
    rcases Nat.lt_trichotomy i j with w | w | w
    · exact absurd e (hinj i j hi.1 w hj.2.1 hi.2.2.1 hj.2.2.1)
    · exact w
    · exact absurd e.symm (hinj j i hj.1 w hi.2.1 hj.2.2.1 hi.2.2.1))
  have main : ∀ z, f + z ≤ m → 3 * dn R f (f + z) + (if 0 < z ∧ cl (f + z - 1) = 401 then 1 else 0) ≤ (if f + z = 0 then 0 else ek (f + z - 1)) + cnt (fun q => decide (f ≤ q ∧ q < m ∧ R q = 2 ∧ nm q < 27)) (f + z) + (if 0 < z ∧ (R (f + z - 1) = 2 ∨ R (f + z - 1) = 3) then 1 else 0) := by
    intro z
    induction z with
    | zero =>
      intro _
      rw [Nat.add_zero, dn_0 R f f (Nat.le_refl _), if_neg (fun h => absurd h.1 (by omega))]
      omega
    | succ z ih =>
      intro hz
      have ih := ih (by omega)
      have hkN : f + z < N := by omega
      obtain ⟨t1, t2⟩ := hS.1 (f + z) hkN
      have hE : (if f + z = 0 then 0 else ek (f + z - 1)) ≤ sk (f + z) := by
        split
        · omega
        · have := hS.2 (f + z - 1) (by omega)
          rw [show f + z - 1 + 1 = f + z by omega] at this
          exact this
      have hd : dn R f (f + (z + 1)) = dn R f (f + z) + (if f ≤ f + z ∧ (R (f + z) = 2 ∨ R (f + z) = 3) then 1 else 0) := rfl
      have hc : cnt (fun q => decide (f ≤ q ∧ q < m ∧ R q = 2 ∧ nm q < 27)) (f + (z + 1)) = cnt (fun q => decide (f ≤ q ∧ q < m ∧ R q = 2 ∧ nm q < 27)) (f + z) + (if decide (f ≤ f + z ∧ f + z < m ∧ R (f + z) = 2 ∧ nm (f + z) < 27) then 1 else 0) := rfl
      rw [hd, hc, show f + (z + 1) - 1 = f + z by omega, if_neg (show ¬ f + (z + 1) = 0 by omega)]
      by_cases r2 : R (f + z) = 2
      · obtain ⟨a1, a2, a3⟩ := h2 (f + z) (by omega) (by omega) r2
        have c200 := h200 (f + z) hkN (by omega)
        rw [if_pos (show f ≤ f + z ∧ (R (f + z) = 2 ∨ R (f + z) = 3) from ⟨by omega, Or.inl r2⟩), if_neg (show ¬ (0 < z + 1 ∧ cl (f + z) = 401) by omega), if_pos (show 0 < z + 1 ∧ (R (f + z) = 2 ∨ R (f + z) = 3) from ⟨by omega, Or.inl r2⟩)]
        rw [if_neg (show ¬ (0 < z ∧ (R (f + z - 1) = 2 ∨ R (f + z - 1) = 3)) by omega)] at ih
        by_cases hl : ek (f + z) = sk (f + z) + 1
        · have := hl1 (f + z) hkN c200 hl
          rw [if_pos (show decide (f ≤ f + z ∧ f + z < m ∧ R (f + z) = 2 ∧ nm (f + z) < 27) = true from decide_eq_true ⟨by omega, by omega, r2, this⟩)]
          omega
        · omega
      · by_cases r3 : R (f + z) = 3
        · obtain ⟨a1, a2⟩ := h3 (f + z) (by omega) (by omega) r3
          have c200 := h200 (f + z) hkN (by omega)
          have hno : ¬ (R (f + z - 1) = 2 ∨ R (f + z - 1) = 3) := fun h => by
            have := h200 (f + z - 1) (by omega) (by omega)
            omega
          rw [if_pos (show f ≤ f + z ∧ (R (f + z) = 2 ∨ R (f + z) = 3) from ⟨by omega, Or.inr r3⟩), if_neg (show ¬ (0 < z + 1 ∧ cl (f + z) = 401) by omega), if_pos (show 0 < z + 1 ∧ (R (f + z) = 2 ∨ R (f + z) = 3) from ⟨by omega, Or.inr r3⟩)]
          rw [if_neg (show ¬ (0 < z ∧ (R (f + z - 1) = 2 ∨ R (f + z - 1) = 3)) from fun h => hno h.2), if_pos (show 0 < z ∧ cl (f + z - 1) = 401 from ⟨by omega, a2⟩)] at ih
          omega
        · rw [if_neg (show ¬ (f ≤ f + z ∧ (R (f + z) = 2 ∨ R (f + z) = 3)) by omega), if_neg (show ¬ (0 < z + 1 ∧ (R (f + z) = 2 ∨ R (f + z) = 3)) by omega)]
          have hih : 3 * dn R f (f + z) ≤ (if f + z = 0 then 0 else ek (f + z - 1)) + cnt (fun q => decide (f ≤ q ∧ q < m ∧ R q = 2 ∧ nm q < 27)) (f + z) + 1 := by
            have : (if 0 < z ∧ (R (f + z - 1) = 2 ∨ R (f + z - 1) = 3) then 1 else 0) ≤ 1 := by split <;> omega
            omega
          by_cases hc4 : cl (f + z) = 401
          · have := hl2 (f + z) hkN hc4
            rw [if_pos (show 0 < z + 1 ∧ cl (f + z) = 401 from ⟨by omega, hc4⟩)]
            omega
          · rw [if_neg (show ¬ (0 < z + 1 ∧ cl (f + z) = 401) from fun h => hc4 h.2)]
            omega
  have hm := main (m - f) (by omega)
  rw [show f + (m - f) = m by omega] at hm
  have h1 : (if m = 0 then 0 else ek (m - 1)) ≤ 240 := by
    split
    · omega
    · exact (hS.1 (m - 1) (by omega)).2
  have h4 : (if 0 < m - f ∧ (R (m - 1) = 2 ∨ R (m - 1) = 3) then 1 else 0) ≤ 1 := by split <;> omega
  omega
theorem tok_len {T : Nat → Nat} {n k : Nat} (hL : TkL T n (LL T n)) (hT : ∀ i, i < n → T i ≤ 126) (hk : k < NN T n) : (CL T n k = 200 → EK T n k = SK T n k + 1 → NM T n k < 27) ∧ (CL T n k = 401 → SK T n k + 2 ≤ EK T n k) := by
  obtain ⟨l1, l2, l3, l4⟩ := hL k hk
  have l1' : SK T n k < EK T n k := l1
  have ha : T (SK T n k) ≤ 126 := hT _ (by have : EK T n k ≤ n := l2; omega)
  have hcl : CL T n k = ck T (SK T n k) (EK T n k) := if_pos hk
  have hnm : NM T n k = vlT T (SK T n k) (EK T n k) := if_pos hk
  have p1 : pk T (SK T n k) 1 ≤ 30 := by
    show 0 + (T (SK T n k + 0) - 96) * 32 ^ 0 ≤ 30
    rw [Nat.add_zero, Nat.pow_zero]
    omega
  refine ⟨fun h he => ?_, fun h => ?_⟩
  · rw [hcl] at h
    rw [hnm]
    unfold ck at h
    unfold vlT
    have e1 : EK T n k - SK T n k = 1 := by omega
    split at h
    · omega
    · split at h
      · rename_i h2
        rw [if_pos h2, e1]
        have hg : gr (T (SK T n k)) = 2 := by
          unfold kd at h2
          split at h2
          · assumption
          · split at h2
            · split at h2 <;> omega
            · rename_i g2 g3
              exact h2
        have := gq_2.mp hg
        show 0 + (T (SK T n k + 0) - 96) * 32 ^ 0 < 27
        rw [Nat.add_zero, Nat.pow_zero]
        omega
      · split at h
        · omega
        · split at h <;> omega
  · rw [hcl] at h
    unfold ck at h
    split at h
    · omega
    · split at h
      · omega
      · split at h
        · omega
        · split at h
          · have hw : kwN (pk T (SK T n k) (EK T n k - SK T n k)) = 1 := by omega
            by_cases e1 : EK T n k - SK T n k = 1
            · rw [e1] at hw
              unfold kwN at hw
              repeat' split at hw
              all_goals omega
            · omega
          · omega
def L3 (cl : Nat → Nat) (j : Nat) (x : XS) : Prop := (∀ q, xr x q = 3 → cl (q - 1) = 401) ∧ (x.1 = 7 → cl (j - 1) = 401)
theorem stp_l3 {cl nm : Nat → Nat} {f j : Nat} {x x' : XS} (hs : St cl nm f j x x') (h : L3 cl j x) : L3 cl (j + 1) x' := by
  obtain ⟨a, b⟩ := h
  have up : ∀ {ρ : Nat → Nat} {k v : Nat}, v ≠ 3 → (∀ q, ρ q = 3 → cl (q - 1) = 401) → ∀ q, upN ρ k v q = 3 → cl (q - 1) = 401 := fun {ρ k v} hv h q hq => by
    by_cases e : q = k
    · rw [e, uN_eq] at hq; exact absurd hq hv
    · rw [uN_ne e] at hq; exact h q hq
  refine hs _ ?_ ?_ ?_ ?_ ?_ ?_ ?_ ?_ ?_ ?_ ?_ ?_ ?_ ?_ ?_ ?_ ?_ ?_ ?_ ?_ ?_ ?_ ?_ ?_ ?_
  · intro _ _ _ _ _ eX eY _
    cases eX
    cases eY
    exact ⟨up (by decide) a, fun h => absurd h (by show (1 : Nat) ≠ 7; omega)⟩
  · intro _ _ _ _ _ eX eY _
    cases eX
    cases eY
    exact ⟨a, fun h => absurd h (by show (2 : Nat) ≠ 7; omega)⟩
  · intro _ _ _ _ _ _ _ _ _ _ _ _ _ eX eY _
    cases eX
    cases eY
    exact ⟨a, fun h => absurd h (by show (6 : Nat) ≠ 7; omega)⟩
  · intro _ _ _ _ _ _ eX eY _ _
    cases eX
    cases eY
    exact ⟨a, fun h => absurd h (by show (5 : Nat) ≠ 7; omega)⟩
  · intro _ _ _ _ _ eX eY _
    cases eX
    cases eY
    exact ⟨a, fun h => absurd h (by show (4 : Nat) ≠ 7; omega)⟩
  · intro _ _ _ _ _ _ _ _ _ _ _ _ _ _ eX eY _ _
    cases eX
    cases eY
    exact ⟨up (by decide) a, fun h => absurd h (by show (3 : Nat) ≠ 7; omega)⟩
  · intro _ _ _ _ _ _ _ _ _ _ _ _ _ eX eY _ _
    cases eX
    cases eY
    exact ⟨a, fun h => absurd h (by show (6 : Nat) ≠ 7; omega)⟩
  · intro _ _ _ _ _ _ _ _ _ _ _ _ _ _ _ _ eX eY _
    cases eX
    cases eY
    exact ⟨a, fun h => by
      dsimp only at h
      split at h <;> omega⟩
  · intro _ _ _ _ _ _ _ _ _ _ _ _ _ eX eY _
    cases eX
    cases eY
    exact ⟨up (by decide) a, fun h => absurd h (by show (8 : Nat) ≠ 7; omega)⟩
  · intro _ _ _ _ _ eX eY h
    cases eX
    cases eY
    exact ⟨a, fun _ => h⟩
  · intro _ _ _ _ _ _ _ _ _ _ _ _ _ _ eX eY _
    cases eX
    cases eY
    exact ⟨a, fun h => absurd h (by show (9 : Nat) ≠ 7; omega)⟩
  · intro _ _ _ _ _ _ _ _ _ _ _ _ _ _ eX eY _
    cases eX
    cases eY
    exact ⟨a, fun h => absurd h (by show (9 : Nat) ≠ 7; omega)⟩
  · intro fr ρ γ c bl en ln ag fin np σ α ω eX eY _
    cases eX
    cases eY
    refine ⟨fun q hq => ?_, fun h => absurd h (by show (8 : Nat) ≠ 7; omega)⟩
    have hq' : upN ρ j 3 q = 3 := hq
    by_cases e : q = j
    · rw [e]; exact b rfl
    · rw [uN_ne e] at hq'; exact a q hq'
  · intro _ _ _ _ _ eX eY _
    cases eX
    cases eY
    exact ⟨a, fun h => absurd h (by show (9 : Nat) ≠ 7; omega)⟩
  · intro _ _ _ _ _ _ _ _ _ eX eY _
    cases eX
    cases eY
    exact ⟨a, fun h => absurd h (by show (11 : Nat) ≠ 7; omega)⟩
  · intro _ _ _ _ _ _ _ _ _ _ eX eY _ _
    cases eX
    cases eY
    exact ⟨a, fun h => absurd h (by show (11 : Nat) ≠ 7; omega)⟩
  · intro _ _ _ _ _ _ _ _ _ _ eX eY _ _ _
    cases eX
    cases eY
    exact ⟨up (by decide) a, fun h => absurd h (by show (12 : Nat) ≠ 7; omega)⟩
  · intro _ _ _ _ _ _ _ _ _ _ eX eY _ _ _ _
    cases eX
    cases eY
    exact ⟨up (by decide) a, fun h => absurd h (by show (12 : Nat) ≠ 7; omega)⟩
  · intro _ _ _ _ _ _ _ _ _ _ eX eY _ _ _
    cases eX
    cases eY
    exact ⟨a, fun h => absurd h (by show (9 : Nat) ≠ 7; omega)⟩
  · intro _ _ _ _ _ _ _ _ _ eX eY _ _
    cases eX
    cases eY
    exact ⟨up (by decide) a, fun h => absurd h (by show (10 : Nat) ≠ 7; omega)⟩
  · intro _ _ _ _ _ _ _ _ _ _ _ _ eX eY _ _ _
    cases eX
    cases eY
    exact ⟨a, fun h => absurd h (by show (9 : Nat) ≠ 7; omega)⟩
  · intro _ _ _ _ _ _ _ _ _ _ _ _ _ _ _ _ eX eY _ _ _
    cases eX
    cases eY
    exact ⟨a, fun h => absurd h (by show (6 : Nat) ≠ 7; omega)⟩
  · intro _ _ _ _ _ _ _ _ _ _ _ _ _ _ _ _ _ eX eY _ _ _
    cases eX
    cases eY
    exact ⟨a, fun h => absurd h (by show (6 : Nat) ≠ 7; omega)⟩
  · intro _ _ _ _ _ _ _ _ _ _ eX eY _ _ _
    cases eX
    cases eY
    exact ⟨a, fun h => absurd h (by show (11 : Nat) ≠ 7; omega)⟩
  · intro _ _ _ _ _ _ _ _ _ _ eX eY _ _ _ _
    cases eX
    cases eY
    exact ⟨a, fun h => absurd h (by show (9 : Nat) ≠ 7; omega)⟩
theorem aut_l3 {cl nm : Nat → Nat} {f : Nat} {c0 : Cds} : ∀ (i : Nat) (x : XS), aut0 cl nm f c0 i = some x → L3 cl (f + 1 + i) x := by
  intro i
  induction i with
  | zero =>
    intro x h
    have h := Option.some.inj h
    subst h
    exact ⟨fun q hq => absurd (show 0 = 3 from hq) (by omega), fun h => absurd (show 0 = 7 from h) (by omega)⟩
  | succ i ih =>
    intro x h
    have h : (aut0 cl nm f c0 i).bind (stp cl nm f (f + 1 + i)) = some x := h
    cases h3 : aut0 cl nm f c0 i with
    | none => rw [h3] at h; exact absurd h (by simp)
    | some y =>
      rw [h3] at h
      exact stp_l3 (stp_st h) (ih y h3)
