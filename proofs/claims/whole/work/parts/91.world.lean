/-! the world of the machines: a text without faults -/
section
variable {T : Nat → Nat} {n : Nat} {cs : Nat → Cds} {d : DS}
abbrev zP (T : Nat → Nat) (n : Nat) : Nat := (ps (CL T n) (NN T n)).length
abbrev zb0 (T : Nat → Nat) (n : Nat) : Nat → Nat := bd (CL T n) (NN T n)
abbrev zX (T : Nat → Nat) (n : Nat) (cs : Nat → Cds) : Nat → XS := Xp (CL T n) (NM T n) (NN T n) cs
abbrev zp (T : Nat → Nat) (n : Nat) : Nat → Nat := pt (CL T n) (NN T n)
abbrev zl (T : Nat → Nat) (n : Nat) (cs : Nat → Cds) (q : Nat) : Nat := dn (zR T n cs) (zb0 T n (zp T n q)) q
abbrev zNp (T : Nat → Nat) (n : Nat) (cs : Nat → Cds) : Nat → Nat := gN (CL T n) (NM T n) (NN T n) cs
abbrev zDc (T : Nat → Nat) (n : Nat) (cs : Nat → Cds) (p q : Nat) : Prop := p < zP T n ∧ zb0 T n p ≤ q ∧ q < zb0 T n (p + 1) ∧ (zR T n cs q = 2 ∨ zR T n cs q = 3)
/-- What holds for every part of a text without faults. -/
theorem part_f (h : Red T n cs [] d) {p : Nat} (hp : p < zP T n) : CL T n (zb0 T n p) = 400 ∧ aut (CL T n) (NM T n) (zb0 T n p) (cs p) (zb0 T n (p + 1)) = some (zX T n cs p) ∧ (zX T n cs p).1 = 13 ∧ zb0 T n p < zb0 T n (p + 1) ∧ zb0 T n (p + 1) ≤ NN T n ∧ cs (p + 1) = xc (zX T n cs p) ++ [(0, 0)] ++ [(8, 0)] ∧ d.1 9 p = Int32.ofNat (zb0 T n p + 1) ∧ d.1 10 p = Int32.ofNat (zNp T n cs p) ∧ d.1 11 p = Int32.ofNat (cs p).length ∧ AIx (CL T n) (zb0 T n p) (zb0 T n (p + 1)) (zX T n cs p) := by
  have hK := h.tk.2.2.1
  have ho := (all_ok h).1 p hp
  obtain ⟨o1, o2, o3⟩ := okP_t ho
  obtain ⟨b1, b2, b3, b4, b5, b6, b7, b8⟩ := bd_ok hK
  have hnf := nfn_all (all_ok h).1 p (Nat.le_of_lt hp)
  obtain ⟨-, -, g3, g4, g5, g6, g7⟩ := (h.2.2.2.2.2.2.2.2.1 p hp).1 ho
  rw [hnf] at g4 g5 g6
  exact ⟨o1, o2, o3, b3 p hp, b5 _, g7, g4, g5, g6, (end_ok hK hp ho).1⟩
theorem part_R (h : Red T n cs [] d) {p k : Nat} (hp : p < zP T n) (h1 : zb0 T n p ≤ k) (h2 : k < zb0 T n (p + 1)) : zp T n k = p ∧ zR T n cs k = xr (zX T n cs p) k := by
  have hK := h.tk.2.2.1
  have e := pt_in hK hp h1 h2
  refine ⟨e, ?_⟩
  have ho := (all_ok h).1 p hp
  rw [← e] at ho
  have := gR_ok ho
  rw [e] at this
  exact this
theorem part_in (h : Red T n cs [] d) {p t : Nat} (hp : p < zP T n) (ht : xr (zX T n cs p) t ≠ 0) : zb0 T n p < t ∧ t < zb0 T n (p + 1) ∧ t < NN T n ∧ zp T n t = p ∧ zR T n cs t = xr (zX T n cs p) t := by
  obtain ⟨-, -, -, -, g5, -, -, -, -, g10⟩ := part_f h hp
  obtain ⟨a1, a2, a3⟩ := g10.1 t ht
  obtain ⟨e1, e2⟩ := part_R h hp (by omega) a3
  exact ⟨a2, a3, by omega, e1, e2⟩
theorem cs_len (h : Red T n cs [] d) : ∀ p, p ≤ zP T n → (cs p).length ≤ zb0 T n p
  | 0, _ => by
    have : cs 0 = [] := h.2.2.2.2.2.2.2.2.2.2
    rw [this]
    exact Nat.zero_le _
  | p + 1, hp => by
    have ih := cs_len h p (by omega)
    have hN := h.tk.2.1
    obtain ⟨g1, g2, g3, g4, g5, g6, -, -, -, -⟩ := part_f h (show p < zP T n by omega)
    have hc := (part_co g4 (by omega) g2 g3 ih).1
    rw [g6, lenc, lenc]
    omega
theorem part_A (h : Red T n cs [] d) : ∃ A : Nat → Nat → Ant, ∀ p, p < zP T n → PCo (zX T n cs p) (cs p) (cs (p + 1)) (A p) := by
  have hN := h.tk.2.1
  have ex : ∀ p, ∃ A : Nat → Ant, p < zP T n → PCo (zX T n cs p) (cs p) (cs (p + 1)) A := fun p => by
    by_cases hp : p < zP T n
    · obtain ⟨g1, g2, g3, g4, g5, g6, -, -, -, -⟩ := part_f h hp
      obtain ⟨A, hA⟩ := (part_co g4 (by omega) g2 g3 (cs_len h p (by omega))).2
      rw [← g6] at hA
      exact ⟨A, fun _ => hA⟩
    · exact ⟨fun _ => (0, 0, fun _ => True), fun h => absurd h hp⟩
  exact ⟨fun p => Classical.choose (ex p), fun p => Classical.choose_spec (ex p)⟩
theorem cs_pre {A : Nat → Nat → Ant} (hA : ∀ p, p < zP T n → PCo (zX T n cs p) (cs p) (cs (p + 1)) (A p)) : ∀ z p, p + z ≤ zP T n → (cs p).length ≤ (cs (p + z)).length ∧ ∀ i, i < (cs p).length → (cs (p + z)).getD i (0, 0) = (cs p).getD i (0, 0)
  | 0, p, _ => ⟨Nat.le_refl _, fun _ _ => rfl⟩
  | z + 1, p, hz => by
    obtain ⟨i1, i2⟩ := cs_pre hA z p (by omega)
    obtain ⟨a1, a2, -⟩ := hA (p + z) (by omega)
    have a1' : (cs (p + z)).length + 2 ≤ (cs (p + (z + 1))).length := a1
    exact ⟨by omega, fun i hi => (a2 i (by omega)).trans (i2 i hi)⟩
theorem zF0 (h : Red T n cs [] d) {t : Nat} (ht : t < NN T n) : zF T n cs t = 0 := (all_ok h).2 t ht
/-- A variable that is used: where it was declared. -/
theorem use_vis (h : Red T n cs [] d) {p t : Nat} (hp : p < zP T n) (ht : xr (zX T n cs p) t = 4 ∨ xr (zX T n cs p) t = 5) : ∃ q, zB T n cs t = q + 1 ∧ zDc T n cs p q ∧ Vis (zX T n cs p) q t := by
  have hK := h.tk.2.2.1
  obtain ⟨t1, t2, t3, t4, t5⟩ := part_in h hp (t := t) (by omega)
  have hz := zF0 h t3
  have hb : zB T n cs t = zM T n cs (NM T n t) t := by
    show wB _ _ _ _ _ _ _ t = _
    unfold wB
    have e : gR (CL T n) (NM T n) (NN T n) cs t = 4 ∨ gR (CL T n) (NM T n) (NN T n) cs t = 5 := by
      have : zR T n cs t = 4 ∨ zR T n cs t = 5 := by omega
      exact this
    rw [if_neg (by omega), if_pos e]
  have hne : zM T n cs (NM T n t) t ≠ 0 := fun e0 => by
    have hz' : wF (CL T n) (NM T n) (NN T n) (gR (CL T n) (NM T n) (NN T n) cs) (gG (CL T n) (NM T n) (NN T n) cs) (gSc (CL T n) (NM T n) (NN T n) cs) (gSi (CL T n) (NM T n) (NN T n) cs) (gUn (CL T n) (NM T n) (NN T n) cs) (gN (CL T n) (NM T n) (NN T n) cs) t = 0 := hz
    unfold wF at hz'
    have e : gR (CL T n) (NM T n) (NN T n) cs t = 4 ∨ gR (CL T n) (NM T n) (NN T n) cs t = 5 := by
      have : zR T n cs t = 4 ∨ zR T n cs t = 5 := by omega
      exact this
    rw [if_neg (by omega), if_neg (by omega), if_pos e, if_pos e0] at hz'
    omega
  rcases lsB_ok (P := ftB (gR (CL T n) (NM T n) (NN T n) cs) (NM T n) (gSc (CL T n) (NM T n) (NN T n) cs) (gSi (CL T n) (NM T n) (NN T n) cs) (gUn (CL T n) (NM T n) (NN T n) cs) (NM T n t) t) (NN T n) with ⟨e0, -⟩ | ⟨q, q1, q2, q3, -⟩
  · exact absurd e0 hne
  · refine ⟨q, hb.trans q1, ?_⟩
    unfold ftB at q3
    rw [Bool.and_eq_true, Bool.and_eq_true, decide_eq_true_eq, decide_eq_true_eq] at q3
    obtain ⟨⟨r1, -⟩, -, s1, s2⟩ := q3
    have r1' : zR T n cs q = 2 ∨ zR T n cs q = 3 := r1
    obtain ⟨p1, p2, p3⟩ := pt_ok hK q2
    have hAW := (gAW cs hK).1 q q2
    have hle : zb0 T n (zp T n q) ≤ t ∧ t < zb0 T n (zp T n q + 1) := by
      rcases r1 with r1 | r1
      · obtain ⟨w1, w2, w3, w4⟩ := hAW.2.2.2.1 r1
        rw [w3] at s1
        rw [w4] at s2
        exact ⟨s1, s2⟩
      · obtain ⟨w1, w2, w3, w4, w5⟩ := hAW.2.2.2.2.1 r1
        exact ⟨Nat.le_trans (Nat.le_trans p2 (Nat.le_of_lt w3)) s1, Nat.lt_of_lt_of_le s2 w5⟩
    have epq : zp T n q = p := by
      have := pt_in hK p1 hle.1 hle.2
      exact this.symm.trans t4
    have p2' : zb0 T n (zp T n q) ≤ q := p2
    have p3' : q < zb0 T n (zp T n q + 1) := p3
    rw [epq] at p2' p3'
    obtain ⟨-, eR⟩ := part_R h hp p2' p3'
    refine ⟨⟨hp, p2', p3', r1'⟩, ?_⟩
    rcases r1' with r1 | r1
    · exact Or.inl (eR.symm.trans r1)
    · refine Or.inr ⟨eR.symm.trans r1, ?_, ?_⟩
      · have s1' : gSi (CL T n) (NM T n) (NN T n) cs q ≤ t := s1
        unfold gSi at s1'
        rw [if_neg (by have : gR (CL T n) (NM T n) (NN T n) cs q = 3 := r1; omega)] at s1'
        have e : pt (CL T n) (NN T n) q = p := epq
        rw [e] at s1'
        exact s1'
      · have s2' : t < gUn (CL T n) (NM T n) (NN T n) cs q := s2
        unfold gUn gSc at s2'
        rw [if_neg (by have : gR (CL T n) (NM T n) (NN T n) cs q = 3 := r1; omega)] at s2'
        have e : pt (CL T n) (NN T n) q = p := epq
        rw [e] at s2'
        exact s2'
theorem dec_own (h : Red T n cs [] d) {t : Nat} (ht : t < NN T n) (hr : zR T n cs t = 2 ∨ zR T n cs t = 3) : rp (zR T n cs) (NM T n) (gSc (CL T n) (NM T n) (NN T n) cs) t = false ∧ zB T n cs t = t + 1 := by
  have hz := zF0 h ht
  have hz' : wF (CL T n) (NM T n) (NN T n) (gR (CL T n) (NM T n) (NN T n) cs) (gG (CL T n) (NM T n) (NN T n) cs) (gSc (CL T n) (NM T n) (NN T n) cs) (gSi (CL T n) (NM T n) (NN T n) cs) (gUn (CL T n) (NM T n) (NN T n) cs) (gN (CL T n) (NM T n) (NN T n) cs) t = 0 := hz
  unfold wF at hz'
  have e : gR (CL T n) (NM T n) (NN T n) cs t = 2 ∨ gR (CL T n) (NM T n) (NN T n) cs t = 3 := hr
  rw [if_neg (by omega), if_pos e] at hz'
  have hrp : rp (zR T n cs) (NM T n) (gSc (CL T n) (NM T n) (NN T n) cs) t = false := by
    cases hv : rp (zR T n cs) (NM T n) (gSc (CL T n) (NM T n) (NN T n) cs) t with
    | false => rfl
    | true =>
      have hv' : rp (gR (CL T n) (NM T n) (NN T n) cs) (NM T n) (gSc (CL T n) (NM T n) (NN T n) cs) t = true := hv
      rw [hv', if_pos rfl] at hz'
      omega
  refine ⟨hrp, ?_⟩
  rw [zB_decl hr, hrp]
  rfl
theorem call_of (h : Red T n cs [] d) {p t : Nat} (hp : p < zP T n) (ht : xr (zX T n cs p) t = 6) : ∃ g, g < zP T n ∧ f_Fn_find (d.1 5 t) d = some (Int32.ofNat g, d) ∧ zB T n cs t = zb0 T n g + 1 + 1 ∧ zp T n (zB T n cs t - 1) = g ∧ Int32.ofNat (zNp T n cs g) = Int32.ofNat (xg (zX T n cs p) t) := by
  have hK := h.tk.2.2.1
  obtain ⟨t1, t2, t3, t4, t5⟩ := part_in h hp (t := t) (by omega)
  have hz := zF0 h t3
  have e6 : gR (CL T n) (NM T n) (NN T n) cs t = 6 := by
    have : zR T n cs t = 6 := by omega
    exact this
  have hz' : wF (CL T n) (NM T n) (NN T n) (gR (CL T n) (NM T n) (NN T n) cs) (gG (CL T n) (NM T n) (NN T n) cs) (gSc (CL T n) (NM T n) (NN T n) cs) (gSi (CL T n) (NM T n) (NN T n) cs) (gUn (CL T n) (NM T n) (NN T n) cs) (gN (CL T n) (NM T n) (NN T n) cs) t = 0 := hz
  unfold wF at hz'
  rw [if_neg (by omega), if_neg (by omega), if_neg (by omega), if_pos e6] at hz'
  have hb : zB T n cs t = hd (gR (CL T n) (NM T n) (NN T n) cs) (NM T n) (NN T n) (NM T n t) := by
    show wB _ _ _ _ _ _ _ t = _
    unfold wB
    rw [if_neg (by omega), if_neg (by omega), if_pos e6]
  have h5 : d.1 5 t = Int32.ofNat (NM T n t) := (h.at t3).2.2.2.2 (by omega)
  rcases findD (w := NM T n t) hK (gAW cs hK) h.2.1 (hK.2.2.1 t) with ⟨x1, -⟩ | ⟨g, x0, xo, -, x1, x2⟩
  · rw [if_pos x1] at hz'
    omega
  · rw [nfn_all (all_ok h).1 g (by omega)] at x2
    rw [if_neg (by omega), x1] at hz'
    obtain ⟨w1, w2⟩ := (gAW cs hK).2.1 g x0 xo
    have ept : zp T n (zb0 T n g + 1) = g := pt_in hK x0 (Nat.le_succ _) w1
    have hbe : zB T n cs t = zb0 T n g + 1 + 1 := hb.trans x1
    refine ⟨g, x0, by rw [h5]; exact x2, hbe, by rw [hbe]; exact ept, ?_⟩
    have ept' : pt (CL T n) (NN T n) (bd (CL T n) (NN T n) g + 1 + 1 - 1) = g := ept
    rw [ept'] at hz'
    have hG : gG (CL T n) (NM T n) (NN T n) cs t = xg (zX T n cs p) t := by
      unfold gG
      have e : pt (CL T n) (NN T n) t = p := t4
      rw [e]
    rw [hG] at hz'
    by_cases hq : Int32.ofNat (zNp T n cs g) = Int32.ofNat (xg (zX T n cs p) t)
    · exact hq
    · have hq' : ¬ Int32.ofNat (gN (CL T n) (NM T n) (NN T n) cs g) = Int32.ofNat (xg (zX T n cs p) t) := hq
      rw [if_neg hq'] at hz'
      omega
theorem dn_par (h : Red T n cs [] d) {p : Nat} (hp : p < zP T n) : ∀ j, j ≤ zNp T n cs p → dn (zR T n cs) (zb0 T n p) (zb0 T n p + 3 + 2 * j) = j ∧ zb0 T n p + 3 + 2 * j ≤ zb0 T n (p + 1) := by
  obtain ⟨g1, g2, g3, g4, g5, g6, -, -, -, g10⟩ := part_f h hp
  obtain ⟨a, bb, cc, pp, e, -, -, -, -, -, -, -⟩ := id g10
  have hpp : zb0 T n p + 3 + 2 * zNp T n cs p ≤ zb0 T n (p + 1) ∧ zb0 T n p + 4 ≤ zb0 T n (p + 1) := pp.2.2.2.2.2.2 (by omega)
  have hRe : ∀ k, zb0 T n p ≤ k → k < zb0 T n (p + 1) → zR T n cs k = xr (zX T n cs p) k := fun k h1 h2 => (part_R h hp h1 h2).2
  have h2 : ∀ k, zb0 T n p ≤ k → k < zb0 T n (p + 1) → zR T n cs k = 2 → (zb0 T n p + 3 ≤ k ∧ (k - (zb0 T n p + 3)) % 2 = 0) ∧ k < zb0 T n p + 3 + 2 * zNp T n cs p := fun k k1 k2 k3 => by
    obtain ⟨w1, w2, -⟩ := cc.1 k ((hRe k k1 k2).symm.trans k3)
    exact ⟨w1, w2⟩
  have h3 : ∀ k, zb0 T n p ≤ k → k < zb0 T n (p + 1) → zR T n cs k = 3 → zb0 T n p + 3 + 2 * zNp T n cs p ≤ k := fun k k1 k2 k3 => (e k (by show 3 ≤ xr (zX T n cs p) k; rw [← hRe k k1 k2]; omega)).1
  have hset : ∀ i, i < zNp T n cs p → zR T n cs (zb0 T n p + 3 + 2 * i) = 2 := fun i hi => (hRe _ (by omega) (by omega)).trans (cc.2 i hi)
  have none : ∀ k, zb0 T n p ≤ k → k < zb0 T n (p + 1) → ¬ (zR T n cs k = 2 ∨ zR T n cs k = 3) → dn (zR T n cs) (zb0 T n p) (k + 1) = dn (zR T n cs) (zb0 T n p) k := fun k k1 k2 k3 => by
    show dn (zR T n cs) (zb0 T n p) k + (if _ then 1 else 0) = _
    rw [if_neg (fun w => k3 w.2), Nat.add_zero]
  intro j
  induction j with
  | zero =>
    intro _
    refine ⟨?_, by omega⟩
    have n1 := none (zb0 T n p) (by omega) (by omega) (fun w => by rcases w with w | w; have := h2 _ (by omega) (by omega) w; omega; have := h3 _ (by omega) (by omega) w; omega)
    have n2 := none (zb0 T n p + 1) (by omega) (by omega) (fun w => by rcases w with w | w; have := h2 _ (by omega) (by omega) w; omega; have := h3 _ (by omega) (by omega) w; omega)
    have n3 := none (zb0 T n p + 2) (by omega) (by omega) (fun w => by rcases w with w | w; have := h2 _ (by omega) (by omega) w; omega; have := h3 _ (by omega) (by omega) w; omega)
    have n0 := dn_0 (zR T n cs) (zb0 T n p) (zb0 T n p) (Nat.le_refl _)
    show dn (zR T n cs) (zb0 T n p) (zb0 T n p + 2 + 1) = 0
    rw [n3]
    show dn (zR T n cs) (zb0 T n p) (zb0 T n p + 1 + 1) = 0
    rw [n2, n1, n0]
  | succ j ih =>
    intro hj
    obtain ⟨i1, i2⟩ := ih (by omega)
    refine ⟨?_, by omega⟩
    have hs := hset j (by omega)
    have d1 : dn (zR T n cs) (zb0 T n p) (zb0 T n p + 3 + 2 * j + 1) = j + 1 := by
      show dn (zR T n cs) (zb0 T n p) (zb0 T n p + 3 + 2 * j) + (if _ then 1 else 0) = j + 1
      rw [if_pos ⟨by omega, Or.inl hs⟩, i1]
    have n1 := none (zb0 T n p + 3 + 2 * j + 1) (by omega) (by omega) (fun w => by rcases w with w | w; have := h2 _ (by omega) (by omega) w; omega; have := h3 _ (by omega) (by omega) w; omega)
    rw [show zb0 T n p + 3 + 2 * (j + 1) = zb0 T n p + 3 + 2 * j + 1 + 1 by omega, n1, d1]
theorem dn_mono (R : Nat → Nat) (f : Nat) : ∀ z q, dn R f q ≤ dn R f (q + z)
  | 0, _ => Nat.le_refl _
  | z + 1, q => by
    have := dn_mono R f z q
    show dn R f q ≤ dn R f (q + z) + (if _ then 1 else 0)
    omega
theorem dn_95 (h : Red T n cs [] d) {p : Nat} (hp : p < zP T n) : dn (zR T n cs) (zb0 T n p) (zb0 T n (p + 1)) ≤ 95 := by
  obtain ⟨hTk, hN, hK, hS⟩ := h.tk
  obtain ⟨g1, g2, g3, g4, g5, g6, -, -, -, g10⟩ := part_f h hp
  obtain ⟨a, bb, cc, pp, e, -, -, -, -, -, -, -⟩ := id g10
  have hT : ∀ i, i < n → T i ≤ 126 := fun i hi => (h.1.2.2 i hi).2.2
  have hRe : ∀ k, zb0 T n p ≤ k → k < zb0 T n (p + 1) → zR T n cs k = xr (zX T n cs p) k := fun k h1 h2 => (part_R h hp h1 h2).2
  have hAW := gAW cs hK
  refine dn_bnd (cl := CL T n) (nm := NM T n) (sk := SK T n) (ek := EK T n) (N := NN T n) hS g5 (by omega) (fun k hk h0 => ((hAW.1 k hk).2.1 h0).2.1) (fun k hk => (tok_len hTk hT hk).1) (fun k hk => (tok_len hTk hT hk).2) (fun k k1 k2 k3 => ?_) (fun k k1 k2 k3 => ?_) (fun q1 q2 k1 k2 k3 k4 k5 => ?_)
  · have k3' := (hRe k k1 k2).symm.trans k3
    have hl := (aut_l3 _ _ (show aut0 (CL T n) (NM T n) (zb0 T n p) (cs p) (zb0 T n (p + 1) - (zb0 T n p + 1)) = _ from g2)).1 k k3'
    exact ⟨(a k (by show xr (zX T n cs p) k ≠ 0; omega)).2.1, hl⟩
  · obtain ⟨w1, w2, -⟩ := cc.1 k ((hRe k k1 k2).symm.trans k3)
    have w2' : k < zb0 T n p + 3 + 2 * zNp T n cs p := w2
    refine ⟨by omega, fun w => ?_, fun w => ?_⟩
    · obtain ⟨v1, v2, -⟩ := cc.1 (k - 1) ((hRe (k - 1) (by omega) (by omega)).symm.trans w)
      omega
    · have hh := (e (k - 1) (by show 3 ≤ xr (zX T n cs p) (k - 1); rw [← hRe (k - 1) (by omega) (by omega)]; omega)).1
      have hh' : zb0 T n p + 3 + 2 * zNp T n cs p ≤ k - 1 := hh
      omega
  · intro en
    have hq2 : q2 < NN T n := by omega
    have hf := (dec_own h hq2 (Or.inl k5)).1
    have ep1 := (part_R h hp k1 (by omega)).1
    have ep2 := (part_R h hp (by omega) k3).1
    have s1 := ((hAW.1 q1 (by omega)).2.2.2.1 k4).2.1
    have s2 := ((hAW.1 q2 hq2).2.2.2.1 k5).2.1
    have ep1' : pt (CL T n) (NN T n) q1 = p := ep1
    have ep2' : pt (CL T n) (NN T n) q2 = p := ep2
    rw [ep1'] at s1
    rw [ep2'] at s2
    have : rp (zR T n cs) (NM T n) (gSc (CL T n) (NM T n) (NN T n) cs) q2 = true := by
      unfold rp
      rw [exB_t]
      refine ⟨q1, k2, ?_⟩
      unfold rpB
      rw [decide_eq_true_eq, if_neg (by omega)]
      exact ⟨⟨Or.inl k4, s1.trans s2.symm⟩, en⟩
    rw [hf] at this
    exact absurd this (by decide)
theorem world (h : Red T n cs [] d) {A : Nat → Nat → Ant} (hA : ∀ p, p < zP T n → PCo (zX T n cs p) (cs p) (cs (p + 1)) (A p)) : Wd A (zDc T n cs) (zl T n cs) (zB T n cs) (zp T n) (fun p => Vis (zX T n cs p)) (fun p => xr (zX T n cs p)) (fun p => xg (zX T n cs p)) (zP T n) (fun p => (cs p).length) (zNp T n cs) (fun p => zb0 T n p + 1) (cs (zP T n)) d := by
  obtain ⟨hTk, hN, hK, hS⟩ := h.tk
  obtain ⟨b1, b2, b3, b4, b5, b6, b7, b8⟩ := bd_ok hK
  have pre : ∀ p, p < zP T n → (cs (p + 1)).length ≤ (cs (zP T n)).length ∧ ∀ i, i < (cs (p + 1)).length → (cs (zP T n)).getD i (0, 0) = (cs (p + 1)).getD i (0, 0) := fun p hp => by
    have := cs_pre hA (zP T n - (p + 1)) (p + 1) (by omega)
    rw [show p + 1 + (zP T n - (p + 1)) = zP T n by omega] at this
    exact this
  have hsl : ∀ p q, zDc T n cs p q → zp T n q = p ∧ zl T n cs q = dn (zR T n cs) (zb0 T n p) q ∧ zl T n cs q < 96 := fun p q hq => by
    obtain ⟨q1, q2, q3, q4⟩ := hq
    have e := (part_R h q1 q2 q3).1
    have e2 : zl T n cs q = dn (zR T n cs) (zb0 T n p) q := by
      show dn (zR T n cs) (zb0 T n (zp T n q)) q = _
      rw [e]
    refine ⟨e, e2, ?_⟩
    have h1 := dn_lt (R := zR T n cs) q2 q4 (zb0 T n (p + 1) - (q + 1))
    rw [show q + 1 + (zb0 T n (p + 1) - (q + 1)) = zb0 T n (p + 1) by omega] at h1
    have h2 := dn_95 h q1
    rw [e2]
    omega
  refine ⟨b1, fun p hp => ?_, fun p hp => (pre p hp).1, ?_, fun p i hp h1 h2 => ?_, fun p hp => ?_, fun p hp => ?_, fun p hp => ?_, h.2.2.2.2.2.2.2.2.2.1, fun p hp => ?_, fun p t hp ht => ?_, fun p t hp ht hG => ?_, fun p q q' hq hq' e => ?_, fun p q hq => ?_⟩
  · have := (hA p hp).1
    show (cs p).length < (cs (p + 1)).length
    omega
  · have h1 := cs_len h (zP T n) (Nat.le_refl _)
    have h2 := b5 (zP T n)
    have h2' : zb0 T n (zP T n) ≤ NN T n := h2
    omega
  · rw [(pre p hp).2 i h2]
    exact (hA p hp).2.2.2.1 i h1 h2
  · have h1 := (hA p hp).1
    show (cs (zP T n)).getD ((cs (p + 1)).length - 1) (0, 0) = (8, 0)
    rw [(pre p hp).2 _ (by omega)]
    exact (hA p hp).2.2.1
  · obtain ⟨e1, e2, e3⟩ := (hA p hp).2.2.2.2
    refine ⟨e1, e2, fun q hq hD => ?_⟩
    obtain ⟨-, -, -, -, -, -, -, -, -, g10⟩ := part_f h hp
    obtain ⟨w1, w2, -⟩ := g10.2.2.1.1 q (e3 q hq)
    have w2' : q < zb0 T n p + 3 + 2 * zNp T n cs p := w2
    exact ⟨(q - (zb0 T n p + 3)) / 2, by omega, by show q = zb0 T n p + 1 + 2 + 2 * ((q - (zb0 T n p + 3)) / 2); omega⟩
  · obtain ⟨d1, d2⟩ := dn_par h hp (zNp T n cs p) (Nat.le_refl _)
    have d3 := dn_mono (zR T n cs) (zb0 T n p) (zb0 T n (p + 1) - (zb0 T n p + 3 + 2 * zNp T n cs p)) (zb0 T n p + 3 + 2 * zNp T n cs p)
    rw [show zb0 T n p + 3 + 2 * zNp T n cs p + (zb0 T n (p + 1) - (zb0 T n p + 3 + 2 * zNp T n cs p)) = zb0 T n (p + 1) by omega] at d3
    have d4 := dn_95 h hp
    have d5 : zb0 T n (p + 1) ≤ NN T n := b5 (p + 1)
    refine ⟨by omega, fun j hj => ?_⟩
    obtain ⟨j1, j2⟩ := dn_par h hp j (by omega)
    have ej : zb0 T n p + 1 + 2 + 2 * j = zb0 T n p + 3 + 2 * j := by omega
    obtain ⟨j3, j4⟩ := dn_par h hp (j + 1) (by omega)
    refine ⟨?_, by show zb0 T n p + 1 + 2 + 2 * j < 240; omega⟩
    show zl T n cs (zb0 T n p + 1 + 2 + 2 * j) = j
    rw [ej]
    show dn (zR T n cs) (zb0 T n (zp T n (zb0 T n p + 3 + 2 * j))) _ = j
    rw [(part_R h hp (by omega) (by omega)).1]
    exact j1
  · obtain ⟨-, -, -, -, -, -, g7, g8, g9, -⟩ := part_f h hp
    exact ⟨g7, g8, g9⟩
  · have ht' : xr (zX T n cs p) t = 3 ∨ xr (zX T n cs p) t = 4 ∨ xr (zX T n cs p) t = 5 := ht
    obtain ⟨t1, t2, t3, t4, t5⟩ := part_in h hp (t := t) (by omega)
    have e14 : d.1 14 t = pm (zB T n cs t) := h.2.2.2.1 t t3
    by_cases h3 : xr (zX T n cs p) t = 3
    · have eb := (dec_own h t3 (Or.inr (t5.trans h3))).2
      exact ⟨t, eb, by rw [e14, eb]; rfl, ⟨hp, by omega, t2, Or.inr (t5.trans h3)⟩, fun h5 => absurd (h3.symm.trans h5) (by decide), fun _ => rfl⟩
    · obtain ⟨q, q1, q2, q3⟩ := use_vis h hp (show xr (zX T n cs p) t = 4 ∨ xr (zX T n cs p) t = 5 by omega)
      exact ⟨q, q1, by rw [e14, q1]; rfl, q2, fun _ => q3, fun e => absurd e h3⟩
  · obtain ⟨g, g1, g2, g3, g4, g5⟩ := call_of h hp ht
    refine ⟨g, g1, g2, g4, ?_⟩
    have d2 := (dn_par h g1 (zNp T n cs g) (Nat.le_refl _)).2
    have d5 : zb0 T n (g + 1) ≤ NN T n := b5 (g + 1)
    have hG' : xg (zX T n cs p) t ≤ 118 := hG
    rw [o_eq (by omega) (by omega)] at g5
    exact g5.symm
  · obtain ⟨-, e1, -⟩ := hsl p q hq
    obtain ⟨-, e2, -⟩ := hsl p q' hq'
    rw [e1, e2] at e
    obtain ⟨q1, q2, q3, q4⟩ := hq
    obtain ⟨q1', q2', q3', q4'⟩ := hq'
    rcases Nat.lt_trichotomy q q' with w | w | w
    · have := dn_lt (R := zR T n cs) q2 q4 (q' - (q + 1))
      rw [show q + 1 + (q' - (q + 1)) = q' by omega] at this
      omega
    · exact w
    · have := dn_lt (R := zR T n cs) q2' q4' (q - (q' + 1))
      rw [show q' + 1 + (q - (q' + 1)) = q by omega] at this
      omega
  · obtain ⟨-, -, e3⟩ := hsl p q hq
    have d5 : zb0 T n (p + 1) ≤ NN T n := b5 (p + 1)
    have hq3 := hq.2.2.1
    exact ⟨by omega, e3⟩
theorem MW.ff {cl nm sk : Nat → Nat} {N : Nat} {R G Sc Si Un np : Nat → Nat} {ok : Nat → Bool} {r r' : RS} (h : MW cl nm sk N R G Sc Si Un np ok r) (hf : FrF r r') : MW cl nm sk N R G Sc Si Un np ok r' := by
  obtain ⟨h1, h2, h3, h4⟩ := h
  refine ⟨h1.cg (hf.2.1 3 (by omega)) hf.2.2 (hf.1 5 (by omega)) (hf.1 6 (by omega)) (hf.1 2 (by omega)), ?_, (hf.2.1 4 (by omega)).trans h3, ?_⟩
  · rw [hf.1 9 (by omega), hf.1 12 (by omega), hf.1 13 (by omega), hf.1 14 (by omega), hf.1 15 (by omega)]
    exact h2
  · rw [hf.1 17 (by omega), hf.1 19 (by omega)]
    exact h4
theorem mq_of (h : Red T n cs [] d) {r : RS} (hr : RedM T n cs [] r) : MQt (CL T n) (NM T n) (SK T n) (NN T n) (zR T n cs) (zB T n cs) r := by
  have hK := h.tk.2.2.1
  refine ⟨hr.2.1.1, fun k hk => ?_, fun k hk r' hf => ptM hK (hr.2.1.ff hf) hk⟩
  obtain ⟨m1, m2, m3, -⟩ := hr.2.1.2.1 k hk
  exact ⟨m1, m2, m3, hr.2.2.2.1 k hk, zB_le hk⟩
theorem pt_of (h : Red T n cs [] d) {p : Nat} (hp : p < zP T n) : Pt (CL T n) (NM T n) (SK T n) (NN T n) (zR T n cs) (zB T n cs) (zl T n cs) (zb0 T n p) (zb0 T n (p + 1)) (cs p) (zX T n cs p) := by
  obtain ⟨hTk, hN, hK, hS⟩ := h.tk
  obtain ⟨g1, g2, g3, g4, g5, g6, -, -, -, g10⟩ := part_f h hp
  refine ⟨hK, g4, g5, g2, g3, cs_len h p (by omega), fun k h1 h2 => (part_R h hp h1 h2).2, fun k h1 h2 h3 => ⟨?_, zB_le (by omega)⟩⟩
  have e := (part_R h hp h1 h2).2
  have h6 := ((gAW cs hK).1 k (by omega)).1
  have h6' : zR T n cs k ≤ 6 := h6
  by_cases c3 : zR T n cs k = 3
  · rw [(dec_own h (by omega) (Or.inr c3)).2]; omega
  · by_cases c6 : zR T n cs k = 6
    · obtain ⟨g, -, -, hb, -, -⟩ := call_of h hp (e.symm.trans c6)
      omega
    · obtain ⟨q, hq, -, -⟩ := use_vis h hp (t := k) (by omega)
      omega
end
