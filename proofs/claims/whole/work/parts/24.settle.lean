/-! the desk settles what its tokens are -/
def TF (T : Nat → Nat) (d : DS) (k a e : Nat) : Prop := d.1 4 k = Int32.ofNat (kd T a e) ∧ d.1 6 k = Int32.ofNat a ∧ d.1 7 k = Int32.ofNat e ∧ (kd T a e ≠ 5 → d.1 5 k = Int32.ofNat (sn T a e))
theorem TF.cg {T : Nat → Nat} {d d' : DS} {k a e : Nat} (h : TF T d k a e) (h4 : d'.1 4 k = d.1 4 k) (h5 : d'.1 5 k = d.1 5 k) (h6 : d'.1 6 k = d.1 6 k) (h7 : d'.1 7 k = d.1 7 k) : TF T d' k a e := by
  unfold TF at *
  rw [h4, h5, h6, h7]; exact h
theorem to_settle {T : Nat → Nat} {d : DS} {k a e : Nat} (hk : k < 240) (h1 : a < e) (h2 : e ≤ 240) (hP : TP T d k a e) (hr : ∀ i, a ≤ i → i < e → gr (T i) = gr (T a)) : ∃ d', f_To_settleKind (Int32.ofNat k) d = some d' ∧ TF T d' k a e ∧ (∀ j, j ≠ k → d'.1 4 j = d.1 4 j ∧ d'.1 5 j = d.1 5 j) ∧ (∀ j, j ≠ 4 → j ≠ 5 → d'.1 j = d.1 j) ∧ d'.2 = d.2 := by
  obtain ⟨t4, t6, t7, t2, t3, t5⟩ := hP
  have hg := gr_le (T a)
  have hg1 := gr_ne1 (T a)
  have b : inb (Int32.ofNat k) 240 = true := o_inb hk (by omega)
  unfold f_To_settleKind
  simp only [b, ↓reduceIte, bindv, o_nat (show k < 2147483648 by omega), t4, t6, t7, o_sub (show a ≤ e by omega)]
  have q2 : (Int32.ofNat (gr (T a)) = 2) = (gr (T a) = 2) := o_eq (b := 2) (by omega) (by omega)
  have q3 : (Int32.ofNat (gr (T a)) = 3) = (gr (T a) = 3) := o_eq (b := 3) (by omega) (by omega)
  have c6 : (Int32.ofNat (e - a) ≤ 6) = (e - a ≤ 6) := o_le (b := 6) (by omega) (by omega)
  have c4 : (4 < Int32.ofNat (e - a)) = (4 < e - a) := o_lt (a := 4) (by omega) (by omega)
  simp only [q2, q3, c6, c4]
  by_cases g2 : gr (T a) = 2
  · have g3 : ¬ gr (T a) = 3 := by omega
    simp only [g2, g3, ↓reduceIte]
    have s6 := t2 g2
    by_cases h6 : e - a ≤ 6
    · rw [Nat.min_eq_left h6] at s6
      have hv : pk T a (e - a) < 2147483648 := by
        have z1 := pq_lt T a (e - a) (fun i hi => (hr (a + i) (by omega) (by omega)).trans g2)
        have z2 := p32_le h6
        omega
      simp only [h6, ↓reduceIte, s6, kwX hv, Option.bind_some]
      by_cases hk6 : kwN (pk T a (e - a)) < 6
      · have n1 : (Int32.ofNat (kwN (pk T a (e - a))) = -1) = False := o_nm1 (by omega)
        simp only [hk6, ↓reduceIte, n1]
        refine ⟨_, rfl, ⟨?_, t6, t7, fun _ => ?_⟩, fun j hj => ⟨ud_ne hj, ud_ne hj⟩, fun j h4 h5 => ?_, rfl⟩
        · refine ud_eq.trans ?_
          unfold kd
          rw [if_pos g2, if_pos h6, if_pos hk6]; rfl
        · refine ud_eq.trans ?_
          unfold sn
          rw [if_pos g2, if_pos hk6]
        · show va_up (va_up _ _ _) _ _ _ = _
          rw [up_ne h5, up_ne h4]
      · simp only [hk6, ↓reduceIte]
        refine ⟨d, rfl, ⟨?_, t6, t7, fun _ => ?_⟩, fun j hj => ⟨rfl, rfl⟩, fun j h4 h5 => rfl, rfl⟩
        · rw [t4]
          unfold kd
          rw [if_pos g2, if_pos h6, if_neg hk6, g2]
        · rw [s6]
          unfold sn
          rw [if_pos g2, if_neg hk6]
    · simp only [h6, ↓reduceIte]
      have hkd : kd T a e = 5 := by
        unfold kd
        rw [if_pos g2, if_neg h6]
      refine ⟨_, rfl, ⟨?_, t6, t7, fun h => absurd hkd h⟩, fun j hj => ⟨ud_ne hj, rfl⟩, fun j h4 h5 => up_ne h4, rfl⟩
      refine ud_eq.trans ?_
      rw [hkd]; rfl
  · by_cases g3 : gr (T a) = 3
    · simp only [g3, ↓reduceIte]
      by_cases h4 : 4 < e - a
      · simp only [h4, ↓reduceIte]
        have hkd : kd T a e = 5 := by
          unfold kd
          rw [if_neg g2, if_pos g3, if_neg (by omega)]
        refine ⟨_, rfl, ⟨?_, t6, t7, fun h => absurd hkd h⟩, fun j hj => ⟨ud_ne hj, rfl⟩, fun j h4 h5 => up_ne h4, rfl⟩
        refine ud_eq.trans ?_
        rw [hkd]; rfl
      · simp only [h4, ↓reduceIte, show ¬ (3 : Nat) = 2 by omega]
        have hkd : kd T a e = 3 := by
          unfold kd
          rw [if_neg g2, if_pos g3, if_pos (by omega)]
        refine ⟨d, rfl, ⟨?_, t6, t7, fun _ => ?_⟩, fun j hj => ⟨rfl, rfl⟩, fun j h4 h5 => rfl, rfl⟩
        · rw [t4, hkd, g3]
        · rw [t3 g3 (by omega)]
          unfold sn
          rw [if_neg g2, if_pos g3]
    · simp only [g2, g3, ↓reduceIte]
      refine ⟨d, rfl, ⟨?_, t6, t7, fun _ => ?_⟩, fun j hj => ⟨rfl, rfl⟩, fun j h4 h5 => rfl, rfl⟩
      · rw [t4]
        unfold kd
        rw [if_neg g2, if_neg g3]
      · rw [t5 g2 g3]
        unfold sn
        rw [if_neg g2, if_neg g3]
def TkL (T : Nat → Nat) (n : Nat) (l : List (Nat × Nat)) : Prop := ∀ k, k < l.length → (l.getD k (0, 0)).1 < (l.getD k (0, 0)).2 ∧ (l.getD k (0, 0)).2 ≤ n ∧ gr (T (l.getD k (0, 0)).1) ≠ 0 ∧ ∀ i, (l.getD k (0, 0)).1 ≤ i → i < (l.getD k (0, 0)).2 → gr (T i) = gr (T (l.getD k (0, 0)).1)
theorem scanL_ok (T : Nat → Nat) (n : Nat) : ∀ f p, n - p ≤ f → p ≤ n → (scanL T n f p).length ≤ n - p ∧ TkL T n (scanL T n f p) := by
  intro f
  induction f with
  | zero =>
    intro p h1 h2
    exact ⟨Nat.zero_le _, fun k hk => absurd hk (Nat.not_lt_zero _)⟩
  | succ f ih =>
    intro p h1 h2
    unfold scanL
    by_cases hp : p < n
    · rw [if_pos hp]
      by_cases h0 : gr (T p) = 0
      · rw [if_pos h0]
        obtain ⟨g1, g2⟩ := ih (p + 1) (by omega) (by omega)
        exact ⟨by omega, g2⟩
      · rw [if_neg h0]
        obtain ⟨k1, k2, k3, k4, k5⟩ := tkE_ok T n p hp
        obtain ⟨g1, g2⟩ := ih (tkE T n p) (by omega) k2
        refine ⟨by rw [List.length_cons]; omega, fun k hk => ?_⟩
        rw [List.length_cons] at hk
        cases k with
        | zero => exact ⟨k1, k2, h0, k3⟩
        | succ k => exact g2 k (by omega)
    · rw [if_neg hp]
      exact ⟨Nat.zero_le _, fun k hk => absurd hk (Nat.not_lt_zero _)⟩
theorem st_loop {T : Nat → Nat} {n : Nat} {l : List (Nat × Nat)} (hn : n ≤ 240) (hll : l.length ≤ 240) (hl : TkL T n l) : ∀ (m k : Nat) (d : DS) (z : Int32) (M : Nat), l.length - k = m → k ≤ l.length → d.2 4 = Int32.ofNat l.length → (∀ i, i < k → TF T d i (l.getD i (0, 0)).1 (l.getD i (0, 0)).2) → (∀ i, k ≤ i → i < l.length → TP T d i (l.getD i (0, 0)).1 (l.getD i (0, 0)).2) → ∃ d', lpN BTo_readFrom_84 (M + 1 + m) (z, Int32.ofNat k, d) = some d' ∧ d'.2 4 = Int32.ofNat l.length ∧ (∀ i, i < l.length → TF T d' i (l.getD i (0, 0)).1 (l.getD i (0, 0)).2) ∧ FrT d d' := by
  intro m
  induction m with
  | zero =>
    intro k d z M h1 h2 h4 hF hP
    have : k = l.length := by omega
    subst this
    refine ⟨d, ?_, h4, hF, FrT.rf⟩
    rw [Nat.add_zero, lp_succ]
    unfold BTo_readFrom_84
    dsimp only
    rw [h4, if_pos (by rw [i_le]; omega)]
  | succ m ih =>
    intro k d z M h1 h2 h4 hF hP
    have hk : k < l.length := by omega
    obtain ⟨a1, a2, a3, a4⟩ := hl k hk
    obtain ⟨d1, e1, e2, e3, e4, e5⟩ := to_settle (by omega) a1 (by omega) (hP k (by omega) hk) a4
    have fr : FrT d d1 := ⟨fun j j4 j5 j6 j7 => e4 j j4 j5, fun j j4 => by rw [e5]⟩
    have hF1 : ∀ i, i < k + 1 → TF T d1 i (l.getD i (0, 0)).1 (l.getD i (0, 0)).2 := fun i hi => by
      by_cases h : i = k
      · subst h; exact e2
      · exact (hF i (by omega)).cg (e3 i h).1 (e3 i h).2 (by rw [e4 6 (by decide) (by decide)]) (by rw [e4 7 (by decide) (by decide)])
    have hP1 : ∀ i, k + 1 ≤ i → i < l.length → TP T d1 i (l.getD i (0, 0)).1 (l.getD i (0, 0)).2 := fun i hi hi2 => (hP i (by omega) hi2).cg (e3 i (by omega)).1 (e3 i (by omega)).2 (by rw [e4 6 (by decide) (by decide)]) (by rw [e4 7 (by decide) (by decide)])
    obtain ⟨d', f1, f2, f3, f4⟩ := ih (k + 1) d1 z M (by omega) (by omega) (by rw [e5]; exact h4) hF1 hP1
    refine ⟨d', ?_, f2, f3, fr.tr f4⟩
    rw [show M + 1 + (m + 1) = (M + 1 + m) + 1 by omega, lp_succ]
    unfold BTo_readFrom_84
    dsimp only
    rw [h4, if_neg (by rw [o_le (by omega) (by omega)]; omega), e1, Option.bind_some, o_addl]
    exact f1
theorem readFrom_ok {T : Nat → Nat} {n : Nat} {d : DS} (hX : TxD T n d) : ∃ d', f_To_readFrom d = some d' ∧ d'.2 4 = Int32.ofNat (scanL T n n 0).length ∧ (∀ k, k < (scanL T n n 0).length → TF T d' k ((scanL T n n 0).getD k (0, 0)).1 ((scanL T n n 0).getD k (0, 0)).2) ∧ FrT d d' := by
  have hn := hX.2.1
  have fr0 : FrT d (d.1, va_up d.2 4 0) := ⟨fun _ _ _ _ _ => rfl, fun j hj => up_ne hj⟩
  have p0 : PD T [] (d.1, va_up d.2 4 0) := ⟨rfl, fun k hk => absurd hk (Nat.not_lt_zero _)⟩
  obtain ⟨d1, z, e1, e2, e3⟩ := rd_loop n 0 [] (d.1, va_up d.2 4 0) 0 (99999 - n) (by omega) (by omega) (hX.fr fr0) p0 (Nat.zero_le _) (by omega) (fun _ h => by omega)
  obtain ⟨s1, s2⟩ := scanL_ok T n n 0 (by omega) (by omega)
  rw [List.nil_append] at e2
  obtain ⟨d2, f1, f2, f3, f4⟩ := st_loop hn (by omega) s2 (scanL T n n 0).length 0 d1 z (99999 - (scanL T n n 0).length) (by omega) (by omega) e2.1 (fun i hi => absurd hi (Nat.not_lt_zero _)) (fun i _ hi => e2.2 i hi)
  refine ⟨d2, ?_, f2, f3, (fr0.tr e3).tr f4⟩
  unfold f_To_readFrom
  rw [show 99999 - n + 1 + (n - 0) = 100000 by omega] at e1
  rw [show 99999 - (scanL T n n 0).length + 1 + (scanL T n n 0).length = 100000 by omega] at f1
  exact e1.trans f1
