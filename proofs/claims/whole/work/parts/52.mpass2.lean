/-! the second pass, and both together -/
theorem pass2 {cl nm sk ek : Nat → Nat} {N : Nat} {R G Sc Si Un np : Nat → Nat} {ok : Nat → Bool} {B : Nat → Prop} (hK : TK cl nm N) (hS : TS sk ek N) (hB : ∀ x, B x → x % 8 = 1 ∧ x ≤ 1921) (hmono : ∀ w k q1 q2, k < N → q1 < q2 → q2 < N → ftB R nm Sc Si Un w k q1 = true → ftB R nm Sc Si Un w k q2 = true → Si q1 ≤ Si q2) (hok : ∀ k, k < N → R k = 1 → ok (pt cl N k) = true) : ∀ (z k : Nat) (r : RS) (l : List Nat) (M : Nat), N - k = z → k ≤ N → MW cl nm sk N R G Sc Si Un np ok r → (∀ q, q < N → r.1 10 q = if q < k ∨ R q = 1 ∨ R q = 2 ∨ R q = 3 then pm (wB cl nm N R Sc Si Un q) else -1) → FL r l → l.Pairwise (· < ·) → l.length ≤ 4 + cnt (d13 R) N + cnt (d46 R) k → (∀ x, x ∈ l ↔ B x ∨ ∃ q, (q < N ∧ (q < k ∨ R q = 1 ∨ R q = 2 ∨ R q = 3) ∧ wF cl nm N R G Sc Si Un np q ≠ 0) ∧ x = wF cl nm N R G Sc Si Un np q + 8 * sk q) → ∃ (r' : RS) (l' : List Nat), lpN BMo_bind_82 (M + z + 1) (Int32.ofNat k, r) = some r' ∧ MW cl nm sk N R G Sc Si Un np ok r' ∧ (∀ q, q < N → r'.1 10 q = pm (wB cl nm N R Sc Si Un q)) ∧ FL r' l' ∧ l'.Pairwise (· < ·) ∧ l'.length ≤ 244 ∧ (∀ x, x ∈ l' ↔ B x ∨ ∃ q, (q < N ∧ wF cl nm N R G Sc Si Un np q ≠ 0) ∧ x = wF cl nm N R G Sc Si Un np q + 8 * sk q) ∧ (∀ i, i ≠ 10 → i ≠ 20 → r'.1 i = r.1 i) ∧ (∀ i, i ≠ 5 → r'.2.1 i = r.2.1 i) ∧ r'.2.2 = r.2.2 := by
  intro z
  have hN := hK.1
  have hc2 := cnt2 (P := d13 R) (Q := d46 R) (fun k h1 h2 => by
    have h1 := of_decide_eq_true h1
    have h2 := of_decide_eq_true h2
    omega) N
  induction z with
  | zero =>
    intro k r l M h1 h2 hW h10 hL hs hll hm
    have : k = N := by omega
    subst this
    rw [Nat.add_zero, lp_succ]
    unfold BMo_bind_82
    dsimp only
    rw [hW.1.1, if_pos (by rw [i_le]; omega)]
    refine ⟨r, l, rfl, hW, fun q hq => ?_, hL, hs, by omega, fun x => ?_, fun _ _ _ => rfl, fun _ _ => rfl, rfl⟩
    · rw [h10 q hq, if_pos (Or.inl hq)]
    · rw [hm x]
      constructor
      · rintro (h | ⟨q, ⟨q1, q2, q3⟩, q4⟩)
        · exact Or.inl h
        · exact Or.inr ⟨q, ⟨q1, q3⟩, q4⟩
      · rintro (h | ⟨q, ⟨q1, q3⟩, q4⟩)
        · exact Or.inl h
        · exact Or.inr ⟨q, ⟨q1, Or.inl q1, q3⟩, q4⟩
  | succ z ih =>
    intro k r l M h1 h2 hW h10 hL hs hll hm
    obtain ⟨c9, c6, c200, c12, c13⟩ := hW.2.1 k (by omega)
    have ik : inb (Int32.ofNat k) 240 = true := o_inb (by omega) (by omega)
    have s4 : (Int32.ofNat (R k) = 4) = (R k = 4) := o_eq (b := 4) (by omega) (by omega)
    have s5 : (Int32.ofNat (R k) = 5) = (R k = 5) := o_eq (b := 5) (by omega) (by omega)
    have s6 : (Int32.ofNat (R k) = 6) = (R k = 6) := o_eq (b := 6) (by omega) (by omega)
    have hsk : r.1 6 k = Int32.ofNat (sk k) := (hW.1.2.2 k (by omega)).2.1
    have hcn : cnt (d46 R) (k + 1) = cnt (d46 R) k + (if d46 R k then 1 else 0) := rfl
    have hcm := cnt_mono (P := d46 R) (N - k) k
    rw [show k + (N - k) = N by omega] at hcm
    have hcm1 := cnt_mono (P := d46 R) (N - (k + 1)) (k + 1)
    rw [show k + 1 + (N - (k + 1)) = N by omega] at hcm1
    have hnk := hK.2.2.1 k
    have u10 : ∀ v : Int32, upd (r.1 10) k v k = v := fun v => ud_eq
    have hBd : BdA N R nm Sc r := fun q hq hr => by
      rw [h10 q hq, if_pos (by omega)]
      unfold wB
      rw [if_pos (by omega)]
      cases rp R nm Sc q <;> rfl
    rw [show M + (z + 1) + 1 = (M + z + 1) + 1 by omega, lp_succ]
    unfold BMo_bind_82
    simp only [hW.1.1, ik, ↓reduceIte, o_nat (show k < 2147483648 by omega), c9, s4, s5, s6, o_p1, u10, bindv]
    rw [if_neg (by rw [o_le (by omega) (by omega)]; omega)]
    have go : ∀ (r2 : RS) (l2 : List Nat), (∀ i, i ≠ 10 → i ≠ 20 → r2.1 i = r.1 i) → (∀ i, i ≠ 5 → r2.2.1 i = r.2.1 i) → r2.2.2 = r.2.2 → (∀ q, q < N → q ≠ k → r2.1 10 q = r.1 10 q) → r2.1 10 k = pm (wB cl nm N R Sc Si Un k) → FL r2 l2 → l2.Pairwise (· < ·) → l2.length ≤ 4 + cnt (d13 R) N + cnt (d46 R) (k + 1) → (∀ x, x ∈ l2 ↔ B x ∨ ∃ q, (q < N ∧ (q < k + 1 ∨ R q = 1 ∨ R q = 2 ∨ R q = 3) ∧ wF cl nm N R G Sc Si Un np q ≠ 0) ∧ x = wF cl nm N R G Sc Si Un np q + 8 * sk q) → ∃ (r' : RS) (l' : List Nat), lpN BMo_bind_82 (M + z + 1) (Int32.ofNat (k + 1), r2) = some r' ∧ MW cl nm sk N R G Sc Si Un np ok r' ∧ (∀ q, q < N → r'.1 10 q = pm (wB cl nm N R Sc Si Un q)) ∧ FL r' l' ∧ l'.Pairwise (· < ·) ∧ l'.length ≤ 244 ∧ (∀ x, x ∈ l' ↔ B x ∨ ∃ q, (q < N ∧ wF cl nm N R G Sc Si Un np q ≠ 0) ∧ x = wF cl nm N R G Sc Si Un np q + 8 * sk q) ∧ (∀ i, i ≠ 10 → i ≠ 20 → r'.1 i = r.1 i) ∧ (∀ i, i ≠ 5 → r'.2.1 i = r.2.1 i) ∧ r'.2.2 = r.2.2 := by
      intro r2 l2 hA hI hl hq hk2 hL2 hs2 hl2 hm2
      obtain ⟨r', l', k1, k2, k3, k4, k5, k6, k7, k8, k9, k10⟩ := ih (k + 1) r2 l2 M (by omega) (by omega) (hW.cg hA hI hl) (fun q hqN => by
        by_cases hqk : q = k
        · subst hqk
          rw [if_pos (Or.inl (by omega))]; exact hk2
        · rw [hq q hqN hqk, h10 q hqN]
          by_cases h : q < k ∨ R q = 1 ∨ R q = 2 ∨ R q = 3
          · rw [if_pos h, if_pos (by omega)]
          · rw [if_neg h, if_neg (by omega)]) hL2 hs2 hl2 hm2
      exact ⟨r', l', k1, k2, k3, k4, k5, k6, k7, fun i a b => (k8 i a b).trans (hA i a b), fun i a => (k9 i a).trans (hI i a), k10.trans hl⟩
    -- members stay as they are where the token has no fault of the second pass
    have same : ∀ x, wF cl nm N R G Sc Si Un np k = 0 ∨ (R k = 1 ∨ R k = 2 ∨ R k = 3) → (x ∈ l ↔ B x ∨ ∃ q, (q < N ∧ (q < k + 1 ∨ R q = 1 ∨ R q = 2 ∨ R q = 3) ∧ wF cl nm N R G Sc Si Un np q ≠ 0) ∧ x = wF cl nm N R G Sc Si Un np q + 8 * sk q) := fun x hz => by
      rw [hm x]
      constructor
      · rintro (h | ⟨q, ⟨q1, q2, q3⟩, q4⟩)
        · exact Or.inl h
        · exact Or.inr ⟨q, ⟨q1, by omega, q3⟩, q4⟩
      · rintro (h | ⟨q, ⟨q1, q2, q3⟩, q4⟩)
        · exact Or.inl h
        · refine Or.inr ⟨q, ⟨q1, ?_, q3⟩, q4⟩
          by_cases hqk : q = k
          · subst hqk
            rcases hz with hz | hz
            · exact absurd hz q3
            · exact Or.inr hz
          · omega
    have one : ∀ (r2 : RS) (a1 : Int32), d46 R k = true → (∀ i, i ≠ 10 → r2.1 i = r.1 i) → r2.2.1 = r.2.1 → r2.2.2 = r.2.2 → (∀ q, q < N → q ≠ k → r2.1 10 q = r.1 10 q) → r2.1 10 k = pm (wB cl nm N R Sc Si Un k) → wF cl nm N R G Sc Si Un np k ≠ 0 → a1 = Int32.ofNat (wF cl nm N R G Sc Si Un np k) → ∃ (r' : RS) (l' : List Nat), (f_Mo_note a1 (r.1 6 k) r2).bind (fun q12 => lpN BMo_bind_82 (M + z + 1) (Int32.ofNat (k + 1), q12)) = some r' ∧ MW cl nm sk N R G Sc Si Un np ok r' ∧ (∀ q, q < N → r'.1 10 q = pm (wB cl nm N R Sc Si Un q)) ∧ FL r' l' ∧ l'.Pairwise (· < ·) ∧ l'.length ≤ 244 ∧ (∀ x, x ∈ l' ↔ B x ∨ ∃ q, (q < N ∧ wF cl nm N R G Sc Si Un np q ≠ 0) ∧ x = wF cl nm N R G Sc Si Un np q + 8 * sk q) ∧ (∀ i, i ≠ 10 → i ≠ 20 → r'.1 i = r.1 i) ∧ (∀ i, i ≠ 5 → r'.2.1 i = r.2.1 i) ∧ r'.2.2 = r.2.2 := by
      intro r2 a1 hd hA hI hl hq hk2 hf0 ha1
      have hd' := of_decide_eq_true hd
      rw [hd, if_pos rfl] at hcn
      have hf2 := wF_le (cl := cl) (nm := nm) (N := N) (R := R) (G := G) (Sc := Sc) (Si := Si) (Un := Un) (np := np) k
      have hL2 : FL r2 l := ⟨by rw [hI]; exact hL.1, fun i hi => by rw [hA 20 (by decide)]; exact hL.2 i hi⟩
      obtain ⟨r3, l3, n1, n2, n3, n4, n5, n6, n7, n8⟩ := noteK (k := k) (F := wF cl nm N R G Sc Si Un np) (B := B) (a1 := a1) (a2 := r.1 6 k) hS hL2 hs (by omega) hB hm (fun q hq => by
        have := wF_le (cl := cl) (nm := nm) (N := N) (R := R) (G := G) (Sc := Sc) (Si := Si) (Un := Un) (np := np) q
        obtain ⟨y1, y2, y3⟩ := hq
        refine ⟨y1, by omega, by omega, fun h => ?_⟩
        subst h
        omega) (by omega) (by omega) ha1 hsk
      rw [n1, Option.bind_some]
      refine go r3 l3 (fun i a b => (n6 i b).trans (hA i a)) (fun i a => (n7 i a).trans (by rw [hI])) (n8.trans hl) (fun q h1 h2 => by rw [n6 10 (by decide)]; exact hq q h1 h2) (by rw [n6 10 (by decide)]; exact hk2) n2 n3 (by omega) (fun x => ?_)
      rw [n5 x]
      constructor
      · rintro (h | ⟨q, ⟨q1, q2, q3⟩ | q1, q4⟩)
        · exact Or.inl h
        · exact Or.inr ⟨q, ⟨q1, by omega, q3⟩, q4⟩
        · subst q1; exact Or.inr ⟨q, ⟨by omega, Or.inl (by omega), hf0⟩, q4⟩
      · rintro (h | ⟨q, ⟨q1, q2, q3⟩, q4⟩)
        · exact Or.inl h
        · by_cases hqk : q = k
          · exact Or.inr ⟨q, Or.inr hqk, q4⟩
          · exact Or.inr ⟨q, Or.inl ⟨q1, by omega, q3⟩, q4⟩
    have h45 : R k = 4 ∨ R k = 5 → ∃ (r' : RS) (l' : List Nat), ((f_Mo_meaning (r.2.2 8 k) (Int32.ofNat k) r).bind (fun q6 => if 0 ≤ upd (q6.2.1 10) k q6.1 k then lpN BMo_bind_82 (M + z + 1) (Int32.ofNat (k + 1), (va_up q6.2.1 10 (upd (q6.2.1 10) k q6.1), q6.2.2.1, q6.2.2.2)) else (f_Mo_note 3 (q6.2.1 6 k) (va_up q6.2.1 10 (upd (q6.2.1 10) k q6.1), q6.2.2.1, q6.2.2.2)).bind (fun q12 => lpN BMo_bind_82 (M + z + 1) (Int32.ofNat (k + 1), q12)))) = some r' ∧ MW cl nm sk N R G Sc Si Un np ok r' ∧ (∀ q, q < N → r'.1 10 q = pm (wB cl nm N R Sc Si Un q)) ∧ FL r' l' ∧ l'.Pairwise (· < ·) ∧ l'.length ≤ 244 ∧ (∀ x, x ∈ l' ↔ B x ∨ ∃ q, (q < N ∧ wF cl nm N R G Sc Si Un np q ≠ 0) ∧ x = wF cl nm N R G Sc Si Un np q + 8 * sk q) ∧ (∀ i, i ≠ 10 → i ≠ 20 → r'.1 i = r.1 i) ∧ (∀ i, i ≠ 5 → r'.2.1 i = r.2.1 i) ∧ r'.2.2 = r.2.2 := by
      intro hr
      have hd : d46 R k = true := decide_eq_true (by omega)
      have hb : wB cl nm N R Sc Si Un k = mean R nm Sc Si Un N (nm k) k := by
        unfold wB
        rw [if_neg (by omega), if_pos hr]
      have hf : wF cl nm N R G Sc Si Un np k = if mean R nm Sc Si Un N (nm k) k = 0 then 3 else 0 := by
        unfold wF
        rw [if_neg (by omega), if_neg (by omega), if_pos hr]
      rw [hW.wd (show k < N by omega) (by omega), meanM hK hW hBd hnk (by omega) (fun q1 q2 => hmono (nm k) k q1 q2 (by omega)), Option.bind_some]
      dsimp only
      rw [ud_eq]
      rcases lsB_ok (P := ftB R nm Sc Si Un (nm k) k) N with ⟨g1, -⟩ | ⟨q', g1, g2, g3, g4⟩
      · have g1 : mean R nm Sc Si Un N (nm k) k = 0 := g1
        rw [g1] at hf hb
        rw [g1, if_neg (show ¬ (0 : Int32) ≤ pm 0 by decide)]
        exact one _ 3 hd (fun i a => up_ne a) rfl rfl (fun q _ hqk => ud_ne hqk) (by rw [hb]; exact ud_eq) (by rw [hf]; decide) (by rw [hf]; rfl)
      · have g1 : mean R nm Sc Si Un N (nm k) k = q' + 1 := g1
        rw [g1] at hf hb
        rw [if_neg (by omega)] at hf
        rw [g1, if_pos (show (0 : Int32) ≤ pm (q' + 1) by show (0 : Int32) ≤ Int32.ofNat q'; rw [i_le, onat (by omega), n0]; omega)]
        exact go _ l (fun i a _ => up_ne a) (fun _ _ => rfl) rfl (fun q _ hqk => ud_ne hqk) (by rw [hb]; exact ud_eq) ⟨hL.1, hL.2⟩ hs (by omega) (fun x => same x (Or.inl hf))
    by_cases h4' : R k = 4
    · rw [if_pos h4']
      exact h45 (Or.inl h4')
    rw [if_neg h4']
    by_cases h5' : R k = 5
    · rw [if_pos h5']
      exact h45 (Or.inr h5')
    rw [if_neg h5']
    clear h45
    by_cases h6' : R k = 6
    · rw [if_pos h6']
      have hdd : d46 R k = true := decide_eq_true (by omega)
      have hb : wB cl nm N R Sc Si Un k = hd R nm N (nm k) := by
        unfold wB
        rw [if_neg (by omega), if_neg (by omega), if_pos h6']
      have hf : wF cl nm N R G Sc Si Un np k = if hd R nm N (nm k) = 0 then 4 else if Int32.ofNat (np (pt cl N (hd R nm N (nm k) - 1))) = Int32.ofNat (G k) then 0 else 5 := by
        unfold wF
        rw [if_neg (by omega), if_neg (by omega), if_neg (by omega), if_pos h6']
      rw [hW.wd (show k < N by omega) (by omega), hdM hK hW hnk, Option.bind_some]
      dsimp only
      rw [ud_eq]
      rcases fsB_ok (P := hdB R nm (nm k)) N with ⟨g1, -⟩ | ⟨q', g1, g2, g3, g4⟩
      · have g1 : hd R nm N (nm k) = 0 := g1
        rw [g1] at hb
        rw [g1, if_pos rfl] at hf
        rw [g1, if_neg (show ¬ (0 : Int32) ≤ pm 0 by decide)]
        exact one _ 4 hdd (fun i a => up_ne a) rfl rfl (fun q _ hqk => ud_ne hqk) (by rw [hb]; exact ud_eq) (by rw [hf]; decide) (by rw [hf]; rfl)
      · have g1 : hd R nm N (nm k) = q' + 1 := g1
        rw [g1] at hb
        rw [g1, if_neg (by omega), Nat.add_sub_cancel] at hf
        have hW2 : MW cl nm sk N R G Sc Si Un np ok (va_up r.1 10 (upd (r.1 10) k (Int32.ofNat q')), r.2.1, r.2.2) := hW.cg (fun i a _ => up_ne a) (fun _ _ => rfl) rfl
        obtain ⟨pp1, pp2, pp3⟩ := pt_ok hK g2
        have hp4 := (bd_ok hK).1
        have h19 := (hW.2.2.2 _ pp1).2 (hok q' g2 (of_decide_eq_true g3).1)
        have c12' := c12 h6'
        have e19 : va_up r.1 10 (upd (r.1 10) k (Int32.ofNat q')) 19 (pt cl N q') = Int32.ofNat (np (pt cl N q')) := h19
        have e12 : va_up r.1 10 (upd (r.1 10) k (Int32.ofNat q')) 12 k = Int32.ofNat (G k) := c12'
        rw [g1, show pm (q' + 1) = Int32.ofNat q' from rfl, if_pos (show (0 : Int32) ≤ Int32.ofNat q' by rw [i_le, onat (by omega), n0]; omega), ptM hK hW2 g2, Option.bind_some]
        simp only [o_inb (show pt cl N q' < 122 by omega) (show pt cl N q' < 2147483648 by omega), o_nat (show pt cl N q' < 2147483648 by omega), ↓reduceIte, e19, e12]
        by_cases heq : Int32.ofNat (np (pt cl N q')) = Int32.ofNat (G k)
        · rw [if_pos heq] at hf
          rw [if_pos heq]
          exact go _ l (fun i a _ => up_ne a) (fun _ _ => rfl) rfl (fun q _ hqk => ud_ne hqk) (by rw [hb]; exact ud_eq) ⟨hL.1, hL.2⟩ hs (by omega) (fun x => same x (Or.inl hf))
        · rw [if_neg heq] at hf
          rw [if_neg heq]
          exact one (va_up r.1 10 (upd (r.1 10) k (Int32.ofNat q')), r.2.1, r.2.2) 5 hdd (fun i a => up_ne a) rfl rfl (fun q _ hqk => ud_ne hqk) (by rw [hb]; exact ud_eq) (by rw [hf]; decide) (by rw [hf]; rfl)
    · rw [if_neg h6']
      have hb : ¬ (R k = 1 ∨ R k = 2 ∨ R k = 3) → wB cl nm N R Sc Si Un k = 0 := fun h => by
        unfold wB
        rw [if_neg h, if_neg (by omega), if_neg h6']
      refine go r l (fun _ _ _ => rfl) (fun _ _ => rfl) rfl (fun _ _ _ => rfl) ?_ hL hs (by omega) (fun x => same x ?_)
      · rw [h10 k (by omega)]
        by_cases h : R k = 1 ∨ R k = 2 ∨ R k = 3
        · rw [if_pos (Or.inr h)]
        · rw [if_neg (by omega), hb h]; rfl
      · by_cases h : R k = 1 ∨ R k = 2 ∨ R k = 3
        · exact Or.inr h
        · refine Or.inl ?_
          unfold wF
          rw [if_neg (by omega), if_neg (by omega), if_neg (by omega), if_neg h6']
theorem bindM {cl nm sk ek : Nat → Nat} {N : Nat} {R G Sc Si Un np : Nat → Nat} {ok : Nat → Bool} {B : Nat → Prop} {r : RS} {l : List Nat} (hK : TK cl nm N) (hS : TS sk ek N) (hB : ∀ x, B x → x % 8 = 1 ∧ x ≤ 1921) (hmono : ∀ w k q1 q2, k < N → q1 < q2 → q2 < N → ftB R nm Sc Si Un w k q1 = true → ftB R nm Sc Si Un w k q2 = true → Si q1 ≤ Si q2) (hok : ∀ k, k < N → R k = 1 → ok (pt cl N k) = true) (hW : MW cl nm sk N R G Sc Si Un np ok r) (h10 : ∀ q, q < N → r.1 10 q = -1) (hL : FL r l) (hs : l.Pairwise (· < ·)) (hll : l.length ≤ 4) (hm : ∀ x, x ∈ l ↔ B x) : ∃ (r' : RS) (l' : List Nat), f_Mo_bind r = some r' ∧ MW cl nm sk N R G Sc Si Un np ok r' ∧ (∀ q, q < N → r'.1 10 q = pm (wB cl nm N R Sc Si Un q)) ∧ FL r' l' ∧ l'.Pairwise (· < ·) ∧ l'.length ≤ 244 ∧ (∀ x, x ∈ l' ↔ B x ∨ ∃ q, (q < N ∧ wF cl nm N R G Sc Si Un np q ≠ 0) ∧ x = wF cl nm N R G Sc Si Un np q + 8 * sk q) ∧ (∀ i, i ≠ 10 → i ≠ 20 → r'.1 i = r.1 i) ∧ (∀ i, i ≠ 5 → r'.2.1 i = r.2.1 i) ∧ r'.2.2 = r.2.2 := by
  have hN := hK.1
  obtain ⟨r1, l1, a1, a2, a3, a4, a5, a6, a7, a8, a9, a10⟩ := pass1 hK hS hB N 0 r l (99999 - N) rfl (by omega) hW (fun q hq => by rw [h10 q hq, if_neg (fun h => by omega)]) hL hs (by show l.length ≤ 4 + 0; omega) (fun x => by
    rw [hm x]
    constructor
    · exact Or.inl
    · rintro (h | ⟨q, ⟨q1, -⟩, -⟩)
      · exact h
      · exact absurd q1 (Nat.not_lt_zero _))
  obtain ⟨r', l', b1, b2, b3, b4, b5, b6, b7, b8, b9, b10⟩ := pass2 hK hS hB hmono hok N 0 r1 l1 (99999 - N) rfl (by omega) a2 (fun q hq => by
    rw [a3 q hq]
    by_cases h : R q = 1 ∨ R q = 2 ∨ R q = 3
    · rw [if_pos h, if_pos (Or.inr h)]
    · rw [if_neg h, if_neg (by omega)]) a4 a5 (by show l1.length ≤ 4 + cnt (d13 R) N + 0; omega) (fun x => by
    rw [a7 x]
    constructor
    · rintro (h | ⟨q, ⟨q1, q2, q3⟩, q4⟩)
      · exact Or.inl h
      · exact Or.inr ⟨q, ⟨q1, Or.inr q2, q3⟩, q4⟩
    · rintro (h | ⟨q, ⟨q1, q2, q3⟩, q4⟩)
      · exact Or.inl h
      · exact Or.inr ⟨q, ⟨q1, by omega, q3⟩, q4⟩)
  rw [show 99999 - N + N + 1 = 100000 by omega] at a1 b1
  exact ⟨r', l', a1.trans b1, b2, b3, b4, b5, b6, b7, fun i x y => (b8 i x y).trans (a8 i x y), fun i x => (b9 i x).trans (a9 i x), b10.trans a10⟩
