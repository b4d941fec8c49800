/-! the model's two passes over its names -/
theorem noteK {sk ek : Nat → Nat} {N k : Nat} {F : Nat → Nat} {B : Nat → Prop} {S : Nat → Prop} {r : RS} {l : List Nat} {a1 a2 : Int32} (hS : TS sk ek N) (hF : FL r l) (hs : l.Pairwise (· < ·)) (hl : l.length < 400) (hB : ∀ x, B x → x % 8 = 1 ∧ x ≤ 1921) (hm : ∀ x, x ∈ l ↔ B x ∨ ∃ q, S q ∧ x = F q + 8 * sk q) (hSq : ∀ q, S q → q < N ∧ 2 ≤ F q ∧ F q ≤ 6 ∧ q ≠ k) (hk : k < N) (hfk : 2 ≤ F k ∧ F k ≤ 6) (ha1 : a1 = Int32.ofNat (F k)) (ha2 : a2 = Int32.ofNat (sk k)) : ∃ (r' : RS) (l' : List Nat), f_Mo_note a1 a2 r = some r' ∧ FL r' l' ∧ l'.Pairwise (· < ·) ∧ l'.length = l.length + 1 ∧ (∀ x, x ∈ l' ↔ B x ∨ ∃ q, (S q ∨ q = k) ∧ x = F q + 8 * sk q) ∧ (∀ i, i ≠ 20 → r'.1 i = r.1 i) ∧ (∀ i, i ≠ 5 → r'.2.1 i = r.2.1 i) ∧ r'.2.2 = r.2.2 := by
  have hsk : ∀ q, q < N → sk q < 240 := fun q hq => by
    have := hS.1 q hq
    omega
  have hinj : ∀ q, q < N → q ≠ k → sk q ≠ sk k := fun q hq hqk => by
    by_cases h : q < k
    · have := (hS.lt h hk).2
      omega
    · have := (hS.lt (show k < q by omega) hq).2
      omega
  have hbnd : ∀ x, x ∈ l → x < 2147483648 := fun x hx => by
    rcases (hm x).mp hx with h | ⟨q, h1, h2⟩
    · have := hB x h
      omega
    · obtain ⟨g1, g2, g3, g4⟩ := hSq q h1
      have := hsk q g1
      omega
  have hnew : F k + 8 * sk k ∉ l := fun hx => by
    rcases (hm _).mp hx with h | ⟨q, h1, h2⟩
    · have := (hB _ h).1
      omega
    · obtain ⟨g1, g2, g3, g4⟩ := hSq q h1
      have := hinj q g1 g4
      omega
  obtain ⟨r', l', n1, n2, n3, n4, n5, n6, n7, n8⟩ := noteM (a := F k) (b := sk k) hF hs hl hbnd (by omega) (by have := hsk k hk; omega) hnew
  refine ⟨r', l', by rw [ha1, ha2]; exact n1, n2, n3, n4, fun x => ?_, n6, n7, n8⟩
  rw [n5 x, hm x]
  constructor
  · rintro (h | h | ⟨q, h1, h2⟩)
    · exact Or.inr ⟨k, Or.inr rfl, h⟩
    · exact Or.inl h
    · exact Or.inr ⟨q, Or.inl h1, h2⟩
  · rintro (h | ⟨q, h1 | h1, h2⟩)
    · exact Or.inr (Or.inl h)
    · exact Or.inr (Or.inr ⟨q, h1, h2⟩)
    · subst h1; exact Or.inl h2
def d13 (R : Nat → Nat) (k : Nat) : Bool := decide (R k = 1 ∨ R k = 2 ∨ R k = 3)
def d46 (R : Nat → Nat) (k : Nat) : Bool := decide (R k = 4 ∨ R k = 5 ∨ R k = 6)
theorem pass1 {cl nm sk ek : Nat → Nat} {N : Nat} {R G Sc Si Un np : Nat → Nat} {ok : Nat → Bool} {B : Nat → Prop} (hK : TK cl nm N) (hS : TS sk ek N) (hB : ∀ x, B x → x % 8 = 1 ∧ x ≤ 1921) : ∀ (z k : Nat) (r : RS) (l : List Nat) (M : Nat), N - k = z → k ≤ N → MW cl nm sk N R G Sc Si Un np ok r → (∀ q, q < N → r.1 10 q = if q < k ∧ (R q = 1 ∨ R q = 2 ∨ R q = 3) then pm (wB cl nm N R Sc Si Un q) else -1) → FL r l → l.Pairwise (· < ·) → l.length ≤ 4 + cnt (d13 R) k → (∀ x, x ∈ l ↔ B x ∨ ∃ q, (q < k ∧ (R q = 1 ∨ R q = 2 ∨ R q = 3) ∧ wF cl nm N R G Sc Si Un np q ≠ 0) ∧ x = wF cl nm N R G Sc Si Un np q + 8 * sk q) → ∃ (r' : RS) (l' : List Nat), lpN BMo_bind_2 (M + z + 1) (Int32.ofNat k, r) = lpN BMo_bind_82 100000 (0, r') ∧ MW cl nm sk N R G Sc Si Un np ok r' ∧ (∀ q, q < N → r'.1 10 q = if R q = 1 ∨ R q = 2 ∨ R q = 3 then pm (wB cl nm N R Sc Si Un q) else -1) ∧ FL r' l' ∧ l'.Pairwise (· < ·) ∧ l'.length ≤ 4 + cnt (d13 R) N ∧ (∀ x, x ∈ l' ↔ B x ∨ ∃ q, (q < N ∧ (R q = 1 ∨ R q = 2 ∨ R q = 3) ∧ wF cl nm N R G Sc Si Un np q ≠ 0) ∧ x = wF cl nm N R G Sc Si Un np q + 8 * sk q) ∧ (∀ i, i ≠ 10 → i ≠ 20 → r'.1 i = r.1 i) ∧ (∀ i, i ≠ 5 → r'.2.1 i = r.2.1 i) ∧ r'.2.2 = r.2.2 := by
  intro z
  have hN := hK.1
  induction z with
  | zero =>
    intro k r l M h1 h2 hW h10 hL hs hll hm
    have : k = N := by omega
    subst this
    rw [Nat.add_zero, lp_succ]
    unfold BMo_bind_2
    dsimp only
    rw [hW.1.1, if_pos (by rw [i_le]; omega)]
    refine ⟨r, l, rfl, hW, fun q hq => ?_, hL, hs, hll, hm, fun _ _ _ => rfl, fun _ _ => rfl, rfl⟩
    rw [h10 q hq]
    by_cases h : R q = 1 ∨ R q = 2 ∨ R q = 3
    · rw [if_pos ⟨hq, h⟩, if_pos h]
    · rw [if_neg (fun h2 => h h2.2), if_neg h]
  | succ z ih =>
    intro k r l M h1 h2 hW h10 hL hs hll hm
    obtain ⟨c9, c6, c200, -, c13⟩ := hW.2.1 k (by omega)
    have ik : inb (Int32.ofNat k) 240 = true := o_inb (by omega) (by omega)
    have u1 : (Int32.ofNat (R k) < 1) = (R k < 1) := o_lt (b := 1) (by omega) (by omega)
    have u3 : ((3 : Int32) < Int32.ofNat (R k)) = (3 < R k) := o_lt (a := 3) (by omega) (by omega)
    have s1 : (Int32.ofNat (R k) = 1) = (R k = 1) := o_eq (b := 1) (by omega) (by omega)
    have hsk : r.1 6 k = Int32.ofNat (sk k) := (hW.1.2.2 k (by omega)).2.1
    have hcn : cnt (d13 R) (k + 1) = cnt (d13 R) k + (if d13 R k then 1 else 0) := rfl
    have hc240 := cnt2 (P := d13 R) (Q := fun _ => false) (fun _ _ h => absurd h (by decide)) k
    rw [show M + (z + 1) + 1 = (M + z + 1) + 1 by omega, lp_succ]
    unfold BMo_bind_2
    simp only [hW.1.1, ik, ↓reduceIte, o_nat (show k < 2147483648 by omega), c9, u1, u3, o_p1]
    rw [if_neg (by rw [o_le (by omega) (by omega)]; omega)]
    have skip : ¬ (R k = 1 ∨ R k = 2 ∨ R k = 3) → ∃ (r' : RS) (l' : List Nat), lpN BMo_bind_2 (M + z + 1) (Int32.ofNat (k + 1), r) = lpN BMo_bind_82 100000 (0, r') ∧ MW cl nm sk N R G Sc Si Un np ok r' ∧ (∀ q, q < N → r'.1 10 q = if R q = 1 ∨ R q = 2 ∨ R q = 3 then pm (wB cl nm N R Sc Si Un q) else -1) ∧ FL r' l' ∧ l'.Pairwise (· < ·) ∧ l'.length ≤ 4 + cnt (d13 R) N ∧ (∀ x, x ∈ l' ↔ B x ∨ ∃ q, (q < N ∧ (R q = 1 ∨ R q = 2 ∨ R q = 3) ∧ wF cl nm N R G Sc Si Un np q ≠ 0) ∧ x = wF cl nm N R G Sc Si Un np q + 8 * sk q) ∧ (∀ i, i ≠ 10 → i ≠ 20 → r'.1 i = r.1 i) ∧ (∀ i, i ≠ 5 → r'.2.1 i = r.2.1 i) ∧ r'.2.2 = r.2.2 := by
      intro hn
      refine ih (k + 1) r l M (by omega) (by omega) hW (fun q hq => ?_) hL hs (by omega) (fun x => ?_)
      · rw [h10 q hq]
        by_cases h : q < k ∧ (R q = 1 ∨ R q = 2 ∨ R q = 3)
        · rw [if_pos h, if_pos ⟨by omega, h.2⟩]
        · rw [if_neg h, if_neg (fun h3 => h ⟨by
            by_cases hqk : q = k
            · subst hqk; exact absurd h3.2 hn
            · omega, h3.2⟩)]
      · rw [hm x]
        constructor
        · rintro (h | ⟨q, ⟨q1, q2⟩, q3⟩)
          · exact Or.inl h
          · exact Or.inr ⟨q, ⟨by omega, q2⟩, q3⟩
        · rintro (h | ⟨q, ⟨q1, q2⟩, q3⟩)
          · exact Or.inl h
          · refine Or.inr ⟨q, ⟨?_, q2⟩, q3⟩
            by_cases hqk : q = k
            · subst hqk; exact absurd q2.1 hn
            · omega
    by_cases hlt : R k < 1
    · rw [if_pos hlt]; exact skip (by omega)
    rw [if_neg hlt]
    by_cases hgt : 3 < R k
    · rw [if_pos hgt]; exact skip (by omega)
    rw [if_neg hgt]
    clear skip
    have hr13 : R k = 1 ∨ R k = 2 ∨ R k = 3 := by omega
    have hd13 : d13 R k = true := decide_eq_true hr13
    rw [hd13, if_pos rfl] at hcn
    rw [repM hK hW (by omega) hr13, Option.bind_some]
    dsimp only
    cases hrp : rp R nm Sc k with
    | false =>
      simp only [Bool.false_eq_true, ↓reduceIte]
      have hb : wB cl nm N R Sc Si Un k = k + 1 := by
        unfold wB
        rw [if_pos hr13, hrp]; rfl
      have hf0 : wF cl nm N R G Sc Si Un np k = 0 := by
        unfold wF
        by_cases h1' : R k = 1
        · rw [if_pos h1', hrp]; rfl
        · rw [if_neg h1', if_pos (by omega), hrp]; rfl
      obtain ⟨r', l', k1, k2, k3, k4, k5, k6, k7, k8, k9, k10⟩ := ih (k + 1) (va_up r.1 10 (upd (r.1 10) k (Int32.ofNat k)), r.2.1, r.2.2) l M (by omega) (by omega) (hW.cg (fun i a _ => up_ne a) (fun _ _ => rfl) rfl) (fun q hq => by
        show upd (r.1 10) k (Int32.ofNat k) q = _
        by_cases hqk : q = k
        · subst hqk
          rw [ud_eq, if_pos ⟨by omega, hr13⟩, hb]; rfl
        · rw [ud_ne hqk, h10 q hq]
          by_cases h : q < k ∧ (R q = 1 ∨ R q = 2 ∨ R q = 3)
          · rw [if_pos h, if_pos ⟨by omega, h.2⟩]
          · rw [if_neg h, if_neg (fun h3 => h ⟨by omega, h3.2⟩)]) ⟨hL.1, hL.2⟩ hs (by omega) (fun x => by
        rw [hm x]
        constructor
        · rintro (h | ⟨q, ⟨q1, q2⟩, q3⟩)
          · exact Or.inl h
          · exact Or.inr ⟨q, ⟨by omega, q2⟩, q3⟩
        · rintro (h | ⟨q, ⟨q1, q2⟩, q3⟩)
          · exact Or.inl h
          · refine Or.inr ⟨q, ⟨?_, q2⟩, q3⟩
            by_cases hqk : q = k
            · subst hqk; exact absurd hf0 q2.2
            · omega)
      exact ⟨r', l', k1, k2, k3, k4, k5, k6, k7, fun i a b => (k8 i a b).trans (up_ne a), k9, k10⟩
    | true =>
      simp only [↓reduceIte, ne10, c9, s1]
      have hb : wB cl nm N R Sc Si Un k = 0 := by
        unfold wB
        rw [if_pos hr13, hrp]; rfl
      have hf : wF cl nm N R G Sc Si Un np k = if R k = 1 then 6 else 2 := by
        unfold wF
        by_cases h1' : R k = 1
        · rw [if_pos h1', hrp, if_pos h1']; rfl
        · rw [if_neg h1', if_pos (by omega), hrp, if_neg h1']; rfl
      have hf2 : 2 ≤ wF cl nm N R G Sc Si Un np k ∧ wF cl nm N R G Sc Si Un np k ≤ 6 := by
        rw [hf]
        split <;> omega
      have main : ∀ a1 : Int32, a1 = Int32.ofNat (wF cl nm N R G Sc Si Un np k) → ∃ (r' : RS) (l' : List Nat), (f_Mo_note a1 (r.1 6 k) r).bind (fun q50 => lpN BMo_bind_2 (M + z + 1) (Int32.ofNat (k + 1), q50)) = lpN BMo_bind_82 100000 (0, r') ∧ MW cl nm sk N R G Sc Si Un np ok r' ∧ (∀ q, q < N → r'.1 10 q = if R q = 1 ∨ R q = 2 ∨ R q = 3 then pm (wB cl nm N R Sc Si Un q) else -1) ∧ FL r' l' ∧ l'.Pairwise (· < ·) ∧ l'.length ≤ 4 + cnt (d13 R) N ∧ (∀ x, x ∈ l' ↔ B x ∨ ∃ q, (q < N ∧ (R q = 1 ∨ R q = 2 ∨ R q = 3) ∧ wF cl nm N R G Sc Si Un np q ≠ 0) ∧ x = wF cl nm N R G Sc Si Un np q + 8 * sk q) ∧ (∀ i, i ≠ 10 → i ≠ 20 → r'.1 i = r.1 i) ∧ (∀ i, i ≠ 5 → r'.2.1 i = r.2.1 i) ∧ r'.2.2 = r.2.2 := by
        intro a1 ha1
        obtain ⟨r2, l2, n1, n2, n3, n4, n5, n6, n7, n8⟩ := noteK (k := k) (F := wF cl nm N R G Sc Si Un np) (B := B) (a1 := a1) (a2 := r.1 6 k) hS hL hs (by omega) hB hm (fun q hq => by
          have := wF_le (cl := cl) (nm := nm) (N := N) (R := R) (G := G) (Sc := Sc) (Si := Si) (Un := Un) (np := np) q
          exact ⟨by omega, by omega, by omega, by omega⟩) (by omega) hf2 ha1 hsk
        rw [n1, Option.bind_some]
        obtain ⟨r', l', k1, k2, k3, k4, k5, k6, k7, k8, k9, k10⟩ := ih (k + 1) r2 l2 M (by omega) (by omega) (hW.cg (fun i _ b => n6 i b) n7 n8) (fun q hq => by
          rw [n6 10 (by decide), h10 q hq]
          by_cases hqk : q = k
          · subst hqk
            rw [if_neg (fun h => by omega), if_pos ⟨by omega, hr13⟩, hb]; rfl
          · by_cases h : q < k ∧ (R q = 1 ∨ R q = 2 ∨ R q = 3)
            · rw [if_pos h, if_pos ⟨by omega, h.2⟩]
            · rw [if_neg h, if_neg (fun h3 => h ⟨by omega, h3.2⟩)]) n2 n3 (by omega) (fun x => by
          rw [n5 x]
          constructor
          · rintro (h | ⟨q, ⟨q1, q2, q4⟩ | q1, q3⟩)
            · exact Or.inl h
            · exact Or.inr ⟨q, ⟨by omega, q2, q4⟩, q3⟩
            · subst q1; exact Or.inr ⟨q, ⟨by omega, hr13, by omega⟩, q3⟩
          · rintro (h | ⟨q, ⟨q1, q2, q4⟩, q3⟩)
            · exact Or.inl h
            · by_cases hqk : q = k
              · exact Or.inr ⟨q, Or.inr hqk, q3⟩
              · exact Or.inr ⟨q, Or.inl ⟨by omega, q2, q4⟩, q3⟩)
        exact ⟨r', l', k1, k2, k3, k4, k5, k6, k7, fun i a b => (k8 i a b).trans (n6 i b), fun i a => (k9 i a).trans (n7 i a), k10.trans n8⟩
      by_cases h1' : R k = 1
      · rw [if_pos h1']
        exact main 6 (by rw [hf, if_pos h1']; rfl)
      · rw [if_neg h1']
        exact main 2 (by rw [hf, if_neg h1']; rfl)
