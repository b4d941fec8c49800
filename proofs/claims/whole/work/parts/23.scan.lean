/-! keywords -/
theorem o_p1 {a : Nat} : Int32.ofNat a + 1 = Int32.ofNat (a + 1) := o_add (b := 1)
theorem kx_step {a : Int32} {k : Nat} (h : k < 6) {K : Int32 × Int32 → Option Int32} : BX_keyword_2 K (a, Int32.ofNat k) = if tabW k = a then some (Int32.ofNat k) else K (a, Int32.ofNat (k + 1)) := by
  unfold BX_keyword_2
  dsimp only
  rw [if_neg (by rw [o_lel (by omega) (by omega)]; omega), if_pos (o_inb (by omega) (by omega)), o_nat (by omega), o_addl]
theorem kx_end {a : Int32} {K : Int32 × Int32 → Option Int32} : BX_keyword_2 K (a, Int32.ofNat 6) = some (-1) := by
  unfold BX_keyword_2
  dsimp only
  rw [if_pos (by decide)]
theorem kwX {v : Nat} (hv : v < 2147483648) : f_X_keyword (Int32.ofNat v) = some (if kwN v < 6 then Int32.ofNat (kwN v) else -1) := by
  unfold f_X_keyword
  show lpN BX_keyword_2 (99993 + 1 + 1 + 1 + 1 + 1 + 1 + 1) (Int32.ofNat v, Int32.ofNat 0) = _
  rw [lp_succ, kx_step (by omega), lp_succ, kx_step (by omega), lp_succ, kx_step (by omega), lp_succ, kx_step (by omega), lp_succ, kx_step (by omega), lp_succ, kx_step (by omega), lp_succ, kx_end]
  have t0 : (tabW 0 = Int32.ofNat v) = (v = 454) := by rw [show tabW 0 = Int32.ofNat 454 from rfl, o_eq (by omega) hv]; exact propext eq_comm
  have t1 : (tabW (0 + 1) = Int32.ofNat v) = (v = 20652) := by rw [show tabW (0 + 1) = Int32.ofNat 20652 from rfl, o_eq (by omega) hv]; exact propext eq_comm
  have t2 : (tabW (0 + 1 + 1) = Int32.ofNat v) = (v = 201) := by rw [show tabW (0 + 1 + 1) = Int32.ofNat 201 from rfl, o_eq (by omega) hv]; exact propext eq_comm
  have t3 : (tabW (0 + 1 + 1 + 1) = Int32.ofNat v) = (v = 5645591) := by rw [show tabW (0 + 1 + 1 + 1) = Int32.ofNat 5645591 from rfl, o_eq (by omega) hv]; exact propext eq_comm
  have t4 : (tabW (0 + 1 + 1 + 1 + 1) = Int32.ofNat v) = (v = 21440080) := by rw [show tabW (0 + 1 + 1 + 1 + 1) = Int32.ofNat 21440080 from rfl, o_eq (by omega) hv]; exact propext eq_comm
  have t5 : (tabW (0 + 1 + 1 + 1 + 1 + 1) = Int32.ofNat v) = (v = 489345202) := by rw [show tabW (0 + 1 + 1 + 1 + 1 + 1) = Int32.ofNat 489345202 from rfl, o_eq (by omega) hv]; exact propext eq_comm
  simp only [t0, t1, t2, t3, t4, t5, kwN]
  repeat' split
  all_goals first | rfl | omega
theorem kwM {v : Nat} (hv : v < 2147483648) {w : Int64} (hw : w.toInt = v) {r : RS} (hr : r.2.2 1 = r0.2.2 1) : f_Mo_keyword w r = some (if kwN v < 6 then Int32.ofNat (kwN v) else -1, r) := by
  obtain ⟨c, h1, h2, -⟩ := kw_loop w (Int32.ofNat v) (by rw [onat hv, hw]) r hr 6 0 100000 100000 (by omega) (by omega) (by omega) (by omega)
  have h3 : f_X_keyword (Int32.ofNat v) = some c := h1
  rw [kwX hv] at h3
  have h4 : f_Mo_keyword w r = some (c, r) := h2
  rw [h4, ← Option.some.inj h3]
/-! the desk reads its tokens -/
def TxD (T : Nat → Nat) (n : Nat) (d : DS) : Prop := d.2 3 = Int32.ofNat n ∧ n ≤ 240 ∧ ∀ i, i < n → d.1 2 i = Int32.ofNat (T i) ∧ 32 ≤ T i ∧ T i ≤ 126
def TP (T : Nat → Nat) (d : DS) (k a e : Nat) : Prop := d.1 4 k = Int32.ofNat (gr (T a)) ∧ d.1 6 k = Int32.ofNat a ∧ d.1 7 k = Int32.ofNat e ∧ (gr (T a) = 2 → d.1 5 k = Int32.ofNat (pk T a (min (e - a) 6))) ∧ (gr (T a) = 3 → e - a ≤ 4 → d.1 5 k = Int32.ofNat (dg T a (e - a))) ∧ (gr (T a) ≠ 2 → gr (T a) ≠ 3 → d.1 5 k = Int32.ofNat (T a))
def PD (T : Nat → Nat) (l : List (Nat × Nat)) (d : DS) : Prop := d.2 4 = Int32.ofNat l.length ∧ ∀ k, k < l.length → TP T d k (l.getD k (0, 0)).1 (l.getD k (0, 0)).2
def FrT (d d' : DS) : Prop := (∀ j, j ≠ 4 → j ≠ 5 → j ≠ 6 → j ≠ 7 → d'.1 j = d.1 j) ∧ ∀ j, j ≠ 4 → d'.2 j = d.2 j
theorem FrT.rf {d : DS} : FrT d d := ⟨fun _ _ _ _ _ => rfl, fun _ _ => rfl⟩
theorem FrT.tr {d d' d2 : DS} (h : FrT d d') (h2 : FrT d' d2) : FrT d d2 := ⟨fun j a b c e => (h2.1 j a b c e).trans (h.1 j a b c e), fun j a => (h2.2 j a).trans (h.2 j a)⟩
theorem TxD.fr {T : Nat → Nat} {n : Nat} {d d' : DS} (h : TxD T n d) (h2 : FrT d d') : TxD T n d' := ⟨(h2.2 3 (by decide)).trans h.1, h.2.1, fun i hi => by rw [h2.1 2 (by decide) (by decide) (by decide) (by decide)]; exact h.2.2 i hi⟩
theorem TP.cg {T : Nat → Nat} {d d' : DS} {k a e : Nat} (h : TP T d k a e) (h4 : d'.1 4 k = d.1 4 k) (h5 : d'.1 5 k = d.1 5 k) (h6 : d'.1 6 k = d.1 6 k) (h7 : d'.1 7 k = d.1 7 k) : TP T d' k a e := by
  unfold TP at *
  rw [h4, h5, h6, h7]; exact h
theorem gd_old {l : List (Nat × Nat)} {x : Nat × Nat} {k : Nat} (h : k < l.length) : (l ++ [x]).getD k (0, 0) = l.getD k (0, 0) := by
  rw [List.getD_eq_getElem?_getD, List.getD_eq_getElem?_getD, List.getElem?_append_left h]
theorem gd_new {l : List (Nat × Nat)} {x : Nat × Nat} : (l ++ [x]).getD l.length (0, 0) = x := by
  rw [List.getD_eq_getElem?_getD, List.getElem?_append_right (Nat.le_refl _), Nat.sub_self]; rfl
theorem len1 {l : List (Nat × Nat)} {x : Nat × Nat} : (l ++ [x]).length = l.length + 1 := by rw [List.length_append]; rfl
theorem PD.mk1 {T : Nat → Nat} {l : List (Nat × Nat)} {d d' : DS} {a e : Nat} (hP : ∀ k, k < l.length → TP T d k (l.getD k (0, 0)).1 (l.getD k (0, 0)).2) (h4 : d'.2 4 = Int32.ofNat (l.length + 1)) (h5 : ∀ k, k < l.length → d'.1 4 k = d.1 4 k ∧ d'.1 5 k = d.1 5 k ∧ d'.1 6 k = d.1 6 k ∧ d'.1 7 k = d.1 7 k) (h6 : TP T d' l.length a e) : PD T (l ++ [(a, e)]) d' := by
  refine ⟨by rw [len1]; exact h4, fun k hk => ?_⟩
  rw [len1] at hk
  by_cases h : k < l.length
  · rw [gd_old h]
    obtain ⟨g1, g2, g3, g4⟩ := h5 k h
    exact (hP k h).cg g1 g2 g3 g4
  · have : k = l.length := by omega
    subst this
    rw [gd_new]
    exact h6
theorem to_begin {T : Nat → Nat} {n : Nat} {l : List (Nat × Nat)} {d : DS} {p : Nat} (hX : TxD T n d) (hP : PD T l d) (hl : l.length ≤ p) (hp : p < n) : ∃ d', f_To_begin (Int32.ofNat p) (Int32.ofNat (gr (T p))) (Int32.ofNat (T p)) d = some d' ∧ PD T (l ++ [(p, p + 1)]) d' ∧ FrT d d' := by
  obtain ⟨x1, x2, x3⟩ := hX
  obtain ⟨-, c1, c2⟩ := x3 p hp
  have hg := gr_le (T p)
  have b : inb (Int32.ofNat l.length) 240 = true := o_inb (by omega) (by omega)
  have e1 : p + 1 - p = 1 := by omega
  unfold f_To_begin
  rw [hP.1, o_nat (by omega)]
  simp only [b, ↓reduceIte]
  by_cases h2 : gr (T p) = 2
  · have g2 := gq_2.mp h2
    rw [if_pos (show Int32.ofNat (gr (T p)) = 2 by rw [h2]; rfl)]
    refine ⟨_, rfl, PD.mk1 hP.2 ?_ (fun k hk => ⟨ud_ne (by omega), ?_, ud_ne (by omega), ud_ne (by omega)⟩) ⟨ud_eq, ud_eq, ?_, fun _ => ?_, fun h => by omega, fun h => absurd h2 h⟩, fun j h4 h5 h6 h7 => ?_, fun j h4 => up_ne h4⟩
    · exact o_addl
    · show upd (upd (d.1 5) l.length _) l.length _ k = _
      rw [ud_ne (by omega), ud_ne (by omega)]
    · exact ud_eq.trans o_addl
    · refine ud_eq.trans ?_
      rw [o_subl (by omega), o_addl, e1]
      show _ = Int32.ofNat (0 + (T (p + 0) - 96) * 32 ^ 0)
      congr 1; simp only [Nat.add_zero, Nat.pow_zero]; omega
    · show va_up (va_up (va_up (va_up (va_up _ _ _) _ _) _ _) _ _) _ _ _ = _
      rw [up_ne h5, up_ne h5, up_ne h7, up_ne h6, up_ne h4]
  · rw [if_neg (show ¬ Int32.ofNat (gr (T p)) = 2 by rw [o_eqr (by omega) (by omega)]; exact h2)]
    by_cases h3 : gr (T p) = 3
    · have g3 := gq_3.mp h3
      rw [if_pos (show Int32.ofNat (gr (T p)) = 3 by rw [h3]; rfl)]
      refine ⟨_, rfl, PD.mk1 hP.2 ?_ (fun k hk => ⟨ud_ne (by omega), ?_, ud_ne (by omega), ud_ne (by omega)⟩) ⟨ud_eq, ud_eq, ?_, fun h => by omega, fun _ _ => ?_, fun _ h => absurd h3 h⟩, fun j h4 h5 h6 h7 => ?_, fun j h4 => up_ne h4⟩
      · exact o_addl
      · show upd (upd (d.1 5) l.length _) l.length _ k = _
        rw [ud_ne (by omega), ud_ne (by omega)]
      · exact ud_eq.trans o_addl
      · refine ud_eq.trans ?_
        rw [o_subl (by omega), e1]
        show _ = Int32.ofNat (10 * 0 + (T (p + 0) - 48))
        congr 1; simp only [Nat.add_zero]; omega
      · show va_up (va_up (va_up (va_up (va_up _ _ _) _ _) _ _) _ _) _ _ _ = _
        rw [up_ne h5, up_ne h5, up_ne h7, up_ne h6, up_ne h4]
    · rw [if_neg (show ¬ Int32.ofNat (gr (T p)) = 3 by rw [o_eqr (by omega) (by omega)]; exact h3)]
      refine ⟨_, rfl, PD.mk1 hP.2 ?_ (fun k hk => ⟨ud_ne (by omega), ud_ne (by omega), ud_ne (by omega), ud_ne (by omega)⟩) ⟨ud_eq, ud_eq, ?_, fun h => absurd h h2, fun h => absurd h h3, fun _ _ => ud_eq⟩, fun j h4 h5 h6 h7 => ?_, fun j h4 => up_ne h4⟩
      · exact o_addl
      · exact ud_eq.trans o_addl
      · show va_up (va_up (va_up (va_up _ _ _) _ _) _ _) _ _ _ = _
        rw [up_ne h5, up_ne h7, up_ne h6, up_ne h4]
theorem to_lengthen {T : Nat → Nat} {n : Nat} {l : List (Nat × Nat)} {d : DS} {a q : Nat} (hX : TxD T n d) (hP : PD T (l ++ [(a, q)]) d) (ha : a < q) (hq : q < n) (hl : l.length ≤ a) (g23 : gr (T a) = 2 ∨ gr (T a) = 3) (hr : ∀ i, a ≤ i → i ≤ q → gr (T i) = gr (T a)) : ∃ d', f_To_lengthen (Int32.ofNat (T q)) d = some d' ∧ PD T (l ++ [(a, q + 1)]) d' ∧ FrT d d' := by
  obtain ⟨x1, x2, x3⟩ := hX
  obtain ⟨-, c1, c2⟩ := x3 q hq
  have hg := gr_le (T a)
  obtain ⟨p1, p2⟩ := hP
  rw [len1] at p1 p2
  have hold : ∀ k, k < l.length → TP T d k (l.getD k (0, 0)).1 (l.getD k (0, 0)).2 := fun k hk => by
    have := p2 k (by omega)
    rw [gd_old hk] at this
    exact this
  have hlast := p2 l.length (by omega)
  rw [gd_new] at hlast
  obtain ⟨t4, t6, t7, t2, t3, -⟩ := hlast
  dsimp only at t4 t6 t7 t2 t3
  have e1 : d.2 4 - 1 = Int32.ofNat l.length := by
    rw [p1]
    exact o_sub (a := l.length + 1) (b := 1) (by omega)
  have b : inb (Int32.ofNat l.length) 240 = true := o_inb (by omega) (by omega)
  have eq1 : q + 1 - a = (q - a) + 1 := by omega
  have eq2 : a + (q - a) = q := by omega
  have p4 : d.2 4 = Int32.ofNat (l.length + 1) := p1
  unfold f_To_lengthen
  rw [e1, o_nat (by omega)]
  simp only [b, ↓reduceIte, bindv]
  rw [t4, t6, t7, o_sub (by omega)]
  rcases g23 with h2 | h3
  · rw [if_neg (show ¬ Int32.ofNat (gr (T a)) = 3 by rw [o_eqr (by omega) (by omega)]; omega)]
    have gq := gq_2.mp ((hr q (by omega) (by omega)).trans h2)
    by_cases h6 : 6 ≤ q - a
    · rw [if_pos (show (6 : Int32) ≤ Int32.ofNat (q - a) by rw [o_lel (by omega) (by omega)]; exact h6)]
      refine ⟨_, rfl, PD.mk1 hold p4 (fun k hk => ⟨rfl, rfl, rfl, ud_ne (by omega)⟩) ⟨t4, t6, ud_eq.trans o_addl, fun _ => ?_, fun h => by omega, fun h => absurd h2 h⟩, fun j h4 h5 h6 h7 => up_ne h7, fun j h4 => rfl⟩
      show d.1 5 l.length = _
      rw [t2 h2]
      congr 2; omega
    · rw [if_neg (show ¬ (6 : Int32) ≤ Int32.ofNat (q - a) by rw [o_lel (by omega) (by omega)]; exact h6)]
      refine ⟨_, rfl, PD.mk1 hold p4 (fun k hk => ⟨rfl, ud_ne (by omega), rfl, ud_ne (by omega)⟩) ⟨t4, t6, ud_eq.trans o_addl, fun _ => ud_eq.trans ?_, fun h => by omega, fun h => absurd h2 h⟩, fun j h4 h5 h6 h7 => ?_, fun j h4 => rfl⟩
      · rw [t2 h2, o_subl (by omega), o_addl, Nat.min_eq_left (by omega), or_pk (by omega) (pq_lt T a (q - a) (fun i hi => (hr (a + i) (by omega) (by omega)).trans h2)) (by omega), Nat.min_eq_left (by omega), eq1]
        show _ = Int32.ofNat (pk T a (q - a) + (T (a + (q - a)) - 96) * 32 ^ (q - a))
        rw [eq2]
        congr 4; omega
      · show va_up (va_up _ _ _) _ _ _ = _
        rw [up_ne h7, up_ne h5]
  · rw [if_pos (show Int32.ofNat (gr (T a)) = 3 by rw [h3]; rfl)]
    have gq := gq_3.mp ((hr q (by omega) (by omega)).trans h3)
    refine ⟨_, rfl, PD.mk1 hold p4 (fun k hk => ⟨rfl, ud_ne (by omega), rfl, ud_ne (by omega)⟩) ⟨t4, t6, ud_eq.trans o_addl, fun h => by omega, fun _ h4 => ud_eq.trans ?_, fun _ h => absurd h3 h⟩, fun j h4 h5 h6 h7 => ?_, fun j h4 => rfl⟩
    · rw [t3 h3 (by omega), o_mulr, o_add, o_subl (by omega), eq1]
      show _ = Int32.ofNat (10 * dg T a (q - a) + (T (a + (q - a)) - 48))
      rw [eq2]
      congr 1; omega
    · show va_up (va_up _ _ _) _ _ _ = _
      rw [up_ne h7, up_ne h5]
theorem rd_un {T : Nat → Nat} {n : Nat} {d : DS} {p last : Nat} (hX : TxD T n d) (hp : p < n) (hl : last ≤ 5) {K : Int32 × Int32 × DS → Option DS} : BTo_readFrom_9 K (Int32.ofNat last, Int32.ofNat p, d) = if gr (T p) = last ∧ (gr (T p) = 2 ∨ gr (T p) = 3) then (f_To_lengthen (Int32.ofNat (T p)) d).bind (fun q => K (Int32.ofNat (gr (T p)), Int32.ofNat (p + 1), q)) else if gr (T p) = 0 then K (Int32.ofNat (gr (T p)), Int32.ofNat (p + 1), d) else (f_To_begin (Int32.ofNat p) (Int32.ofNat (gr (T p))) (Int32.ofNat (T p)) d).bind (fun q => K (Int32.ofNat (gr (T p)), Int32.ofNat (p + 1), q)) := by
  obtain ⟨x1, x2, x3⟩ := hX
  obtain ⟨c0, c1, c2⟩ := x3 p hp
  have hg := gr_le (T p)
  unfold BTo_readFrom_9
  dsimp only
  rw [x1, if_neg (by rw [o_le (by omega) (by omega)]; omega), if_pos (o_inb (by omega) (by omega)), o_nat (by omega), c0, gr_desk _ (by omega)]
  simp only [Option.bind_some, o_p1]
  have q1 : (Int32.ofNat (gr (T p)) = Int32.ofNat last) = (gr (T p) = last) := o_eq (by omega) (by omega)
  have q2 : (Int32.ofNat (gr (T p)) = 2) = (gr (T p) = 2) := o_eq (b := 2) (by omega) (by omega)
  have q3 : (Int32.ofNat (gr (T p)) = 3) = (gr (T p) = 3) := o_eq (b := 3) (by omega) (by omega)
  have q0 : (Int32.ofNat (gr (T p)) = 0) = (gr (T p) = 0) := o_eq (b := 0) (by omega) (by omega)
  simp only [q1, q2, q3, q0]
  by_cases h1 : gr (T p) = last
  · by_cases h2 : gr (T p) = 2
    · rw [if_pos h1, if_pos h2, if_pos ⟨h1, Or.inl h2⟩]
    · by_cases h3 : gr (T p) = 3
      · rw [if_pos h1, if_neg h2, if_pos h3, if_pos ⟨h1, Or.inr h3⟩]
      · rw [if_pos h1, if_neg h2, if_neg h3, if_neg (show ¬ (gr (T p) = last ∧ (gr (T p) = 2 ∨ gr (T p) = 3)) from fun h => by omega)]
  · rw [if_neg h1, if_neg (show ¬ (gr (T p) = last ∧ (gr (T p) = 2 ∨ gr (T p) = 3)) from fun h => h1 h.1)]
theorem rd_run {T : Nat → Nat} {n a : Nat} {l : List (Nat × Nat)} (hl : l.length ≤ a) (g23 : gr (T a) = 2 ∨ gr (T a) = 3) : ∀ (f q : Nat) (d : DS), n - q ≤ f → a < q → q ≤ n → TxD T n d → (∀ i, a ≤ i → i < q → gr (T i) = gr (T a)) → PD T (l ++ [(a, q)]) d → ∃ d', (∀ M, lpN BTo_readFrom_9 (M + (runE T n (gr (T a)) f q - q)) (Int32.ofNat (gr (T a)), Int32.ofNat q, d) = lpN BTo_readFrom_9 M (Int32.ofNat (gr (T a)), Int32.ofNat (runE T n (gr (T a)) f q), d')) ∧ PD T (l ++ [(a, runE T n (gr (T a)) f q)]) d' ∧ FrT d d' := by
  intro f
  induction f with
  | zero =>
    intro q d h1 h2 h3 hX hr hP
    unfold runE
    exact ⟨d, fun M => by rw [Nat.sub_self]; rfl, hP, FrT.rf⟩
  | succ f ih =>
    intro q d h1 h2 h3 hX hr hP
    unfold runE
    by_cases h : q < n ∧ gr (T q) = gr (T a)
    · rw [if_pos h]
      have hr2 : ∀ i, a ≤ i → i ≤ q → gr (T i) = gr (T a) := fun i h4 h5 => by
        by_cases h6 : i = q
        · rw [h6]; exact h.2
        · exact hr i h4 (by omega)
      obtain ⟨d1, e1, e2, e3⟩ := to_lengthen hX hP h2 h.1 hl g23 hr2
      obtain ⟨d2, f1, f2, f3⟩ := ih (q + 1) d1 (by omega) (by omega) (by omega) (hX.fr e3) (fun i h4 h5 => hr2 i h4 (by omega)) e2
      have hge := (runE_ok T n (gr (T a)) f (q + 1) (by omega) (by omega)).1
      refine ⟨d2, fun M => ?_, f2, e3.tr f3⟩
      rw [show M + (runE T n (gr (T a)) f (q + 1) - q) = (M + (runE T n (gr (T a)) f (q + 1) - (q + 1))) + 1 by omega, lp_succ, rd_un hX h.1 (gr_le _), if_pos ⟨h.2, by rw [h.2]; exact g23⟩, e1, Option.bind_some, h.2]
      exact f1 M
    · rw [if_neg h]
      exact ⟨d, fun M => by rw [Nat.sub_self]; rfl, hP, FrT.rf⟩
theorem rd_loop {T : Nat → Nat} {n : Nat} : ∀ (f p : Nat) (l : List (Nat × Nat)) (d : DS) (last M : Nat), n - p ≤ f → p ≤ n → TxD T n d → PD T l d → l.length ≤ p → last ≤ 5 → (p < n → gr (T p) = last → gr (T p) ≠ 2 ∧ gr (T p) ≠ 3) → ∃ (d' : DS) (z : Int32), lpN BTo_readFrom_9 (M + 1 + (n - p)) (Int32.ofNat last, Int32.ofNat p, d) = lpN BTo_readFrom_84 100000 (z, 0, d') ∧ PD T (l ++ scanL T n f p) d' ∧ FrT d d' := by
  intro f
  induction f with
  | zero =>
    intro p l d last M h1 h2 hX hP h3 h4 h5
    have : p = n := by omega
    subst this
    refine ⟨d, Int32.ofNat last, ?_, by unfold scanL; rw [List.append_nil]; exact hP, FrT.rf⟩
    rw [Nat.sub_self, Nat.add_zero, lp_succ]
    unfold BTo_readFrom_9
    dsimp only
    rw [hX.1, if_pos (by rw [i_le]; omega)]
  | succ f ih =>
    intro p l d last M h1 h2 hX hP h3 h4 h5
    by_cases hp : p < n
    · have hs : scanL T n (f + 1) p = if gr (T p) = 0 then scanL T n f (p + 1) else (p, tkE T n p) :: scanL T n f (tkE T n p) := by
        show (if p < n then _ else _) = _
        rw [if_pos hp]
      rw [hs]
      have hun := rd_un (K := lpN BTo_readFrom_9 (M + 1 + (n - (p + 1)))) hX hp h4
      have hnf : ¬ (gr (T p) = last ∧ (gr (T p) = 2 ∨ gr (T p) = 3)) := fun h => by
        have := h5 hp h.1
        omega
      rw [if_neg hnf] at hun
      have hM : M + 1 + (n - p) = (M + 1 + (n - (p + 1))) + 1 := by omega
      by_cases h0 : gr (T p) = 0
      · rw [if_pos h0] at hun
        rw [if_pos h0]
        obtain ⟨d', z, e1, e2, e3⟩ := ih (p + 1) l d 0 M (by omega) (by omega) hX hP (by omega) (by omega) (fun _ h => by omega)
        refine ⟨d', z, ?_, e2, e3⟩
        rw [hM, lp_succ, hun, h0]
        exact e1
      · rw [if_neg h0] at hun
        rw [if_neg h0]
        obtain ⟨d1, b1, b2, b3⟩ := to_begin hX hP h3 hp
        rw [b1, Option.bind_some] at hun
        obtain ⟨k1, k2, k3, k4, k5⟩ := tkE_ok T n p hp
        by_cases g23 : gr (T p) = 2 ∨ gr (T p) = 3
        · obtain ⟨d2, r1, r2, r3⟩ := rd_run h3 g23 (n - (p + 1)) (p + 1) d1 (by omega) (by omega) (by omega) (hX.fr b3) (fun i h6 h7 => by rw [show i = p by omega]) b2
          have hE : runE T n (gr (T p)) (n - (p + 1)) (p + 1) = tkE T n p := by
            unfold tkE
            rw [if_pos g23, show n - p = (n - (p + 1)) + 1 by omega]
            show _ = if p < n ∧ gr (T p) = gr (T p) then _ else _
            rw [if_pos ⟨hp, rfl⟩]
          rw [hE] at r1 r2
          obtain ⟨d', z, e1, e2, e3⟩ := ih (tkE T n p) (l ++ [(p, tkE T n p)]) d2 (gr (T p)) M (by omega) k2 ((hX.fr b3).fr r3) r2 (by rw [len1]; omega) (gr_le _) (fun h6 h7 => absurd h7 (k4 h6 g23))
          refine ⟨d', z, ?_, by rw [List.append_assoc] at e2; exact e2, (b3.tr r3).tr e3⟩
          rw [hM, lp_succ, hun]
          have := r1 (M + 1 + (n - tkE T n p))
          rw [show M + 1 + (n - tkE T n p) + (tkE T n p - (p + 1)) = M + 1 + (n - (p + 1)) by omega] at this
          rw [this]
          exact e1
        · have hE := k5 (fun h => g23 (Or.inl h)) (fun h => g23 (Or.inr h))
          rw [hE]
          obtain ⟨d', z, e1, e2, e3⟩ := ih (p + 1) (l ++ [(p, p + 1)]) d1 (gr (T p)) M (by omega) (by omega) (hX.fr b3) b2 (by rw [len1]; omega) (gr_le _) (fun _ h => by rw [h]; exact ⟨fun h => g23 (Or.inl h), fun h => g23 (Or.inr h)⟩)
          refine ⟨d', z, ?_, by rw [List.append_assoc] at e2; exact e2, b3.tr e3⟩
          rw [hM, lp_succ, hun]
          exact e1
    · have : p = n := by omega
      subst this
      refine ⟨d, Int32.ofNat last, ?_, ?_, FrT.rf⟩
      · rw [Nat.sub_self, Nat.add_zero, lp_succ]
        unfold BTo_readFrom_9
        dsimp only
        rw [hX.1, if_pos (by rw [i_le]; omega)]
      · have hs : scanL T p (f + 1) p = [] := by
          show (if p < p then _ else _) = _
          rw [if_neg hp]
        rw [hs, List.append_nil]; exact hP
