/-! the reading of a whole text: its parts, one after another -/
def pt (cl : Nat → Nat) (N k : Nat) : Nat := if k < bd cl N 1 then 0 else if k < bd cl N 2 then 1 else if k < bd cl N 3 then 2 else 3
theorem bd_le {cl nm : Nat → Nat} {N : Nat} (hK : TK cl nm N) : ∀ (z i : Nat), bd cl N i ≤ bd cl N (i + z) := by
  intro z
  induction z with
  | zero => intro i; exact Nat.le_refl _
  | succ z ih =>
    intro i
    obtain ⟨b1, b2, b3, b4, b5, -⟩ := bd_ok hK
    have h1 := ih i
    by_cases h : i + z < (ps cl N).length
    · have := b3 (i + z) h
      rw [← Nat.add_assoc]; omega
    · rw [b4 (i + (z + 1)) (by omega)]; exact b5 i
theorem pt_in {cl nm : Nat → Nat} {N p k : Nat} (hK : TK cl nm N) (hp : p < (ps cl N).length) (h1 : bd cl N p ≤ k) (h2 : k < bd cl N (p + 1)) : pt cl N k = p := by
  obtain ⟨b1, -⟩ := bd_ok hK
  unfold pt
  have hp4 : p = 0 ∨ p = 1 ∨ p = 2 ∨ p = 3 := by omega
  have e12 : bd cl N 1 ≤ bd cl N 2 := bd_le hK 1 1
  have e23 : bd cl N 2 ≤ bd cl N 3 := bd_le hK 1 2
  rcases hp4 with rfl | rfl | rfl | rfl
  · rw [if_pos h2]
  · rw [if_neg (by omega), if_pos h2]
  · rw [if_neg (by omega), if_neg (by omega), if_pos h2]
  · rw [if_neg (by omega), if_neg (by omega), if_neg (by omega)]
theorem pt_ok {cl nm : Nat → Nat} {N k : Nat} (hK : TK cl nm N) (hk : k < N) : pt cl N k < (ps cl N).length ∧ bd cl N (pt cl N k) ≤ k ∧ k < bd cl N (pt cl N k + 1) := by
  obtain ⟨b1, b2, b3, b4, b5, b6, b7, b8⟩ := bd_ok hK
  have hpos := b8 (by omega)
  have hlen : ∀ i, k < bd cl N (i + 1) → bd cl N i ≤ k → i < (ps cl N).length := fun i h1 h2 => by
    by_cases h : i < (ps cl N).length
    · exact h
    · have := b4 i (by omega)
      omega
  unfold pt
  by_cases h1 : k < bd cl N 1
  · rw [if_pos h1]; exact ⟨hpos, by omega, h1⟩
  · rw [if_neg h1]
    by_cases h2 : k < bd cl N 2
    · rw [if_pos h2]; exact ⟨hlen 1 h2 (by omega), by omega, h2⟩
    · rw [if_neg h2]
      by_cases h3 : k < bd cl N 3
      · rw [if_pos h3]; exact ⟨hlen 2 h3 (by omega), by omega, h3⟩
      · rw [if_neg h3]
        have h4 : k < bd cl N 4 := by rw [b4 4 b1]; exact hk
        exact ⟨hlen 3 h4 (by omega), by omega, h4⟩
theorem stp_13 {cl nm : Nat → Nat} {f k : Nat} {x x' : XS} (h : stp cl nm f k x = some x') : x'.1 = 13 → x'.2.2.2.2.2.1 = [] := by
  intro hx
  unfold stp at h
  split at h
  · unfold xHd at h
    repeat' split at h
    all_goals first | (have h := Option.some.inj h; subst h; revert hx; dsimp only; omega) | exact absurd h (by simp)
  split at h
  · unfold xSt at h
    split at h
    · split at h
      · have h := Option.some.inj h; subst h; exact absurd (show 6 = 13 from hx) (by omega)
      · exact absurd h (by simp)
    split at h
    · split at h
      · exact absurd h (by simp)
      · rename_i o te ag B _
        have h := Option.some.inj h
        subst h
        have hx' : (if B = [] then 13 else 6) = 13 := hx
        split at hx'
        · rename_i hB
          exact hB
        · omega
    repeat' split at h
    all_goals first | (have h := Option.some.inj h; subst h; revert hx; dsimp only; omega) | exact absurd h (by simp)
  split at h
  · unfold xLet at h
    split at h
    · have h := Option.some.inj h; subst h; exact absurd (show 8 = 13 from hx) (by omega)
    · exact absurd h (by simp)
  split at h
  · split at h
    · have h := Option.some.inj h; subst h; exact absurd (show 9 = 13 from hx) (by omega)
    · exact absurd h (by simp)
  split at h
  · exact absurd h (by simp)
  split at h
  · unfold xOpd at h
    repeat' split at h
    all_goals first | (have h := Option.some.inj h; subst h; revert hx; dsimp only; omega) | exact absurd h (by simp)
  split at h
  · split at h
    · have h := Option.some.inj h; subst h; exact absurd (show 10 = 13 from hx) (by omega)
    · exact absurd h (by simp)
  split at h
  · unfold xOpr at h
    split at h
    · have h := Option.some.inj h; subst h; exact absurd (show 9 = 13 from hx) (by omega)
    split at h
    · split at h
      · have h := Option.some.inj h; subst h; exact absurd (show 9 = 13 from hx) (by omega)
      · exact absurd h (by simp)
    split at h
    · unfold xEnd at h
      repeat' split at h
      all_goals first | (have h := Option.some.inj h; subst h; revert hx; dsimp only; omega) | exact absurd h (by simp)
    repeat' split at h
    all_goals first | (have h := Option.some.inj h; subst h; revert hx; dsimp only; omega) | exact absurd h (by simp)
  · exact absurd h (by simp)
theorem aut_13 {cl nm : Nat → Nat} {f : Nat} {c0 : Cds} : ∀ (i : Nat) (x : XS), aut0 cl nm f c0 i = some x → x.1 = 13 → x.2.2.2.2.2.1 = [] := by
  intro i x h
  cases i with
  | zero =>
    have h := Option.some.inj h
    subst h
    exact fun a => absurd (show 0 = 13 from a) (by omega)
  | succ i =>
    have h : (aut0 cl nm f c0 i).bind (stp cl nm f (f + 1 + i)) = some x := h
    cases h3 : aut0 cl nm f c0 i with
    | none => rw [h3] at h; exact absurd h (by simp)
    | some y =>
      rw [h3] at h
      exact stp_13 h
def xd : XS := (0, [], fun _ => 0, fun _ => 0, [], [], 0, 0, 0, (0, 0), 0, fun _ => 0, fun _ => 0, fun _ => 0)
def Xp (cl nm : Nat → Nat) (N : Nat) (cs : Nat → Cds) (p : Nat) : XS := (aut cl nm (bd cl N p) (cs p) (bd cl N (p + 1))).getD xd
def okP (cl nm : Nat → Nat) (N : Nat) (cs : Nat → Cds) (p : Nat) : Bool := decide (cl (bd cl N p) = 400 ∧ (aut cl nm (bd cl N p) (cs p) (bd cl N (p + 1))).isSome ∧ (Xp cl nm N cs p).1 = 13)
theorem okP_t {cl nm : Nat → Nat} {N : Nat} {cs : Nat → Cds} {p : Nat} (h : okP cl nm N cs p = true) : cl (bd cl N p) = 400 ∧ aut cl nm (bd cl N p) (cs p) (bd cl N (p + 1)) = some (Xp cl nm N cs p) ∧ (Xp cl nm N cs p).1 = 13 := by
  obtain ⟨h1, h2, h3⟩ := of_decide_eq_true h
  refine ⟨h1, ?_, h3⟩
  unfold Xp
  cases h4 : aut cl nm (bd cl N p) (cs p) (bd cl N (p + 1)) with
  | none => rw [h4] at h2; exact absurd h2 (by decide)
  | some x => rfl
theorem okP_of {cl nm : Nat → Nat} {N : Nat} {cs : Nat → Cds} {p : Nat} {x : XS} (h1 : cl (bd cl N p) = 400) (h2 : aut cl nm (bd cl N p) (cs p) (bd cl N (p + 1)) = some x) (h3 : x.1 = 13) : okP cl nm N cs p = true ∧ Xp cl nm N cs p = x := by
  have hx : Xp cl nm N cs p = x := by
    unfold Xp
    rw [h2]; rfl
  refine ⟨?_, hx⟩
  unfold okP
  rw [decide_eq_true_eq, hx, h2]
  exact ⟨h1, rfl, h3⟩
theorem aut_none {cl nm : Nat → Nat} {f : Nat} {c0 : Cds} : ∀ (z j : Nat), f < j → aut cl nm f c0 j = none → aut cl nm f c0 (j + z) = none := by
  intro z
  induction z with
  | zero => intro j _ h; exact h
  | succ z ih =>
    intro j hf h
    rw [← Nat.add_assoc, aut_s (by omega), ih j hf h]; rfl
theorem autB_no {cl nm : Nat → Nat} {f m j' : Nat} {c0 : Cds} {x : XS} (h : AutB cl nm f m c0 j') (hm : aut cl nm f c0 m = some x) (h13 : x.1 = 13) : False := by
  obtain ⟨y, h1, h2, h3, h4, h5⟩ := h
  by_cases hj : j' < m
  · have := aut_none (m - (j' + 1)) (j' + 1) (by omega) (h5 hj)
    rw [show j' + 1 + (m - (j' + 1)) = m by omega, hm] at this
    exact absurd this (by simp)
  · have : j' = m := by omega
    subst this
    rw [hm] at h3
    have := Option.some.inj h3
    subst this
    exact hj (h4 h13)
theorem autB_un {cl nm : Nat → Nat} {f m j1 j2 : Nat} {c0 : Cds} (h1 : AutB cl nm f m c0 j1) (h2 : AutB cl nm f m c0 j2) : j1 = j2 := by
  obtain ⟨y, a1, a2, a3, a4, a5⟩ := h1
  obtain ⟨z, b1, b2, b3, b4, b5⟩ := h2
  by_cases h : j1 = j2
  · exact h
  · exfalso
    by_cases hlt : j1 < j2
    · have := aut_none (j2 - (j1 + 1)) (j1 + 1) (by omega) (a5 (by omega))
      rw [show j1 + 1 + (j2 - (j1 + 1)) = j2 by omega, b3] at this
      exact absurd this (by simp)
    · have := aut_none (j1 - (j2 + 1)) (j2 + 1) (by omega) (b5 (by omega))
      rw [show j2 + 1 + (j1 - (j2 + 1)) = j1 by omega, a3] at this
      exact absurd this (by simp)
/-- Where a part is broken. -/
def Brk (cl nm sk ek : Nat → Nat) (N : Nat) (cs : Nat → Cds) (p b : Nat) : Prop := cl (bd cl N p) ≠ 400 ∧ b = sk (bd cl N p) ∨ cl (bd cl N p) = 400 ∧ ∃ j', AutB cl nm (bd cl N p) (bd cl N (p + 1)) (cs p) j' ∧ b = if j' < bd cl N (p + 1) then sk j' else ek (bd cl N (p + 1) - 1)
theorem Brk.un {cl nm sk ek : Nat → Nat} {N : Nat} {cs : Nat → Cds} {p b b' : Nat} (h : Brk cl nm sk ek N cs p b) (h' : Brk cl nm sk ek N cs p b') : b = b' := by
  rcases h with ⟨h1, h2⟩ | ⟨h1, j, h2, h3⟩
  · rcases h' with ⟨g1, g2⟩ | ⟨g1, -⟩
    · omega
    · exact absurd g1 h1
  · rcases h' with ⟨g1, -⟩ | ⟨g1, j2, g2, g3⟩
    · exact absurd h1 g1
    · have := autB_un h2 g2
      subst this
      rw [h3, g3]
theorem Brk.no {cl nm sk ek : Nat → Nat} {N : Nat} {cs : Nat → Cds} {p b : Nat} (h : Brk cl nm sk ek N cs p b) : okP cl nm N cs p = false := by
  cases ho : okP cl nm N cs p with
  | false => rfl
  | true =>
    obtain ⟨o1, o2, o3⟩ := okP_t ho
    rcases h with ⟨h1, -⟩ | ⟨h1, j, h2, -⟩
    · exact absurd o1 h1
    · exact (autB_no h2 o2 o3).elim
def nfn (ok : Nat → Bool) : Nat → Nat
  | 0 => 0
  | p + 1 => nfn ok p + (if ok p then 1 else 0)
theorem nfn_le (ok : Nat → Bool) : ∀ p, nfn ok p ≤ p
  | 0 => Nat.le_refl _
  | p + 1 => by
    have := nfn_le ok p
    show nfn ok p + (if ok p then 1 else 0) ≤ p + 1
    split <;> omega
theorem nfn_mono (ok : Nat → Bool) : ∀ z p, nfn ok p ≤ nfn ok (p + z)
  | 0, _ => Nat.le_refl _
  | z + 1, p => by
    have := nfn_mono ok z p
    show nfn ok p ≤ nfn ok (p + z) + (if ok (p + z) then 1 else 0)
    omega
/-- What the desk has of a part that it has read. -/
def DF (cl nm sk ek : Nat → Nat) (N : Nat) (cs : Nat → Cds) (p : Nat) (d : DS) : Prop :=
  (okP cl nm N cs p = true → d.1 28 p = -1 ∧ (∀ k, bd cl N p ≤ k → k < bd cl N (p + 1) → d.1 13 k = Int32.ofNat (sw ((Xp cl nm N cs p).2.2.1 k)) ∧ ((Xp cl nm N cs p).2.2.1 k = 6 → d.1 19 k = Int32.ofNat ((Xp cl nm N cs p).2.2.2.1 k)) ∧ ((Xp cl nm N cs p).2.2.1 k = 2 → d.1 16 k = Int32.ofNat (bd cl N p + 2) ∧ d.1 17 k = Int32.ofNat (k + 1)) ∧ ((Xp cl nm N cs p).2.2.1 k = 3 → d.1 16 k = Int32.ofNat ((Xp cl nm N cs p).2.2.2.2.2.2.2.2.2.2.2.1 k) ∧ d.1 17 k = Int32.ofNat ((Xp cl nm N cs p).2.2.2.2.2.2.2.2.2.2.2.2.1 k) ∧ d.1 18 ((Xp cl nm N cs p).2.2.2.2.2.2.2.2.2.2.2.1 k) = Int32.ofNat ((Xp cl nm N cs p).2.2.2.2.2.2.2.2.2.2.2.2.2 ((Xp cl nm N cs p).2.2.2.2.2.2.2.2.2.2.2.1 k)))) ∧ d.1 18 (bd cl N p + 2) = Int32.ofNat (bd cl N (p + 1)) ∧ d.1 9 (nfn (okP cl nm N cs) p) = Int32.ofNat (bd cl N p + 1) ∧ d.1 10 (nfn (okP cl nm N cs) p) = Int32.ofNat (Xp cl nm N cs p).2.2.2.2.2.2.2.2.2.2.1 ∧ d.1 11 (nfn (okP cl nm N cs) p) = Int32.ofNat (cs p).length ∧ cs (p + 1) = (Xp cl nm N cs p).2.2.2.2.1 ++ [(0, 0)] ++ [(8, 0)]) ∧
  (okP cl nm N cs p = false → ∃ b, Brk cl nm sk ek N cs p b ∧ b ≤ 240 ∧ d.1 28 p = Int32.ofNat b)
theorem DF.keep {cl nm sk ek : Nat → Nat} {N : Nat} {cs : Nat → Cds} {p : Nat} {d d' : DS} (hK : TK cl nm N) (h : DF cl nm sk ek N cs p d) (hp : p < (ps cl N).length) (ha : ∀ k, k < bd cl N (p + 1) → d'.1 13 k = d.1 13 k ∧ d'.1 16 k = d.1 16 k ∧ d'.1 17 k = d.1 17 k ∧ d'.1 18 k = d.1 18 k ∧ d'.1 19 k = d.1 19 k) (h28 : d'.1 28 p = d.1 28 p) (hn : okP cl nm N cs p = true → ∀ q, q < nfn (okP cl nm N cs) (p + 1) → d'.1 9 q = d.1 9 q ∧ d'.1 10 q = d.1 10 q ∧ d'.1 11 q = d.1 11 q) : DF cl nm sk ek N cs p d' := by
  refine ⟨fun ho => ?_, fun ho => ?_⟩
  · obtain ⟨o1, o2, o3⟩ := okP_t ho
    obtain ⟨g1, g2, g3, g4, g5, g6, g7⟩ := h.1 ho
    have hlt := (bd_ok hK).2.2.1 p hp
    have hai := (aut_ai _ _ (show aut0 cl nm (bd cl N p) (cs p) (bd cl N (p + 1) - (bd cl N p + 1)) = _ from o2)).1
    rw [show bd cl N p + 1 + (bd cl N (p + 1) - (bd cl N p + 1)) = bd cl N (p + 1) by omega] at hai
    obtain ⟨a, b, c, p1, e, -, -, -, l, -⟩ := hai
    have hp5 := p1.2.2.2.2.2.2 (by rw [o3]; omega)
    have hq := hn ho (nfn (okP cl nm N cs) p) (by show _ < nfn (okP cl nm N cs) p + (if okP cl nm N cs p then 1 else 0); rw [if_pos ho]; omega)
    refine ⟨h28.trans g1, fun k k1 k2 => ?_, (ha _ (by omega)).2.2.2.1.trans g3, hq.1.trans g4, hq.2.1.trans g5, hq.2.2.trans g6, g7⟩
    obtain ⟨y1, y2, y3, y4⟩ := g2 k k1 k2
    obtain ⟨a1, a2, a3, a4, a5⟩ := ha k k2
    refine ⟨a1.trans y1, fun h => a5.trans (y2 h), fun h => ⟨a2.trans (y3 h).1, a3.trans (y3 h).2⟩, fun h => ⟨a2.trans (y4 h).1, a3.trans (y4 h).2.1, ?_⟩⟩
    have := (l k h).2.1
    exact (ha _ (by omega)).2.2.2.1.trans (y4 h).2.2
  · obtain ⟨b, b1, b2, b3⟩ := h.2 ho
    exact ⟨b, b1, b2, h28.trans b3⟩
