/-! the model reads its tokens -/
theorem l_nat {a : Nat} (h : a < 2147483648) : (Int64.ofNat a).toInt = a := Int64.toInt_ofNat_of_lt (by omega)
theorem l_of {x : Nat} (h : x < 2147483648) : (Int32.ofNat x).toInt64 = Int64.ofNat x := by
  apply Int64.toInt_inj.mp
  rw [l64, onat h, l_nat h]
theorem l_eq {a b : Nat} (ha : a < 2147483648) (hb : b < 2147483648) : (Int64.ofNat a = Int64.ofNat b) = (a = b) := by
  rw [← Int64.toInt_inj, l_nat ha, l_nat hb]; simp only [Int.ofNat_inj]
theorem l_cmp {a b : Nat} (ha : a < 2147483648) (hb : b < 2147483648) : (lg_cmp (Int64.ofNat a) (Int64.ofNat b) = 0) = (a = b) := by
  rw [← l_eq ha hb]; exact propext lge
theorem l_sub {a b : Nat} (h : b ≤ a) : Int64.ofNat a - Int64.ofNat b = Int64.ofNat (a - b) := by
  have h1 : Int64.ofNat a = Int64.ofNat (a - b) + Int64.ofNat b := by rw [← Int64.ofNat_add]; congr 1; omega
  rw [h1, Int64.add_sub_cancel]
theorem or_pl {v x l : Nat} (hl : l < 6) (hv : v < 32 ^ l) (hx : x < 32) : Int64.ofNat v ||| ((Int32.ofNat x).toInt64 <<< ((5 * Int32.ofNat l).toInt64 &&& 63)) = Int64.ofNat (v + x * 32 ^ l) := by
  have hs : (((5 * Int32.ofNat l).toInt64 &&& 63).toBitVec.smod 64).toNat = 5 * l := by
    have : l = 0 ∨ l = 1 ∨ l = 2 ∨ l = 3 ∨ l = 4 ∨ l = 5 := by omega
    rcases this with rfl | rfl | rfl | rfl | rfl | rfl <;> decide
  have hp : (32 : Nat) ^ l = 2 ^ (5 * l) := by rw [Nat.pow_mul]
  have hq := p32_le (l := l) (by omega)
  have hxx : x * 32 ^ l ≤ 31 * 32 ^ l := Nat.mul_le_mul_right _ (by omega)
  have h32 : (32 : Nat) ^ l ≤ 33554432 := by
    have : (32 : Nat) ^ l ≤ 32 ^ 5 := Nat.pow_le_pow_right (by omega) (by omega)
    omega
  rw [l_of (by omega)]
  apply Int64.toBitVec_inj.mp
  apply BitVec.eq_of_toNat_eq
  show (BitVec.ofNat 64 v ||| (BitVec.ofNat 64 x <<< (((5 * Int32.ofNat l).toInt64 &&& 63).toBitVec.smod 64))).toNat = (BitVec.ofNat 64 (v + x * 32 ^ l)).toNat
  rw [BitVec.toNat_or, BitVec.shiftLeft_eq', hs, BitVec.toNat_shiftLeft, BitVec.toNat_ofNat, BitVec.toNat_ofNat, BitVec.toNat_ofNat, Nat.mod_eq_of_lt (a := v) (by omega), Nat.mod_eq_of_lt (a := x) (by omega), Nat.shiftLeft_eq, ← hp, Nat.mod_eq_of_lt (a := x * 32 ^ l) (by omega), Nat.mod_eq_of_lt (a := v + x * 32 ^ l) (by omega)]
  have h := Nat.shiftLeft_add_eq_or_of_lt (i := 5 * l) (b := v) (by rw [← hp]; exact hv) x
  rw [Nat.shiftLeft_eq, ← hp] at h
  rw [Nat.or_comm, ← h]; omega
def TxM (T : Nat → Nat) (n : Nat) (r : RS) : Prop := r.2.1 1 = Int32.ofNat n ∧ n ≤ 240 ∧ (∀ i, i < n → r.1 2 i = Int32.ofNat (T i) ∧ 32 ≤ T i ∧ T i ≤ 126) ∧ r.2.2 1 = r0.2.2 1
def MT (T : Nat → Nat) (r : RS) (k a e : Nat) : Prop := r.1 5 k = Int32.ofNat (kd T a e) ∧ r.1 6 k = Int32.ofNat a ∧ r.1 7 k = Int32.ofNat e ∧ (kd T a e = 1 ∨ kd T a e = 2 → r.2.2 8 k = Int64.ofNat (pk T a (e - a))) ∧ (kd T a e = 3 → r.2.2 8 k = Int64.ofNat (dg T a (e - a))) ∧ r.1 9 k = 0 ∧ r.1 10 k = -1 ∧ r.1 12 k = 0 ∧ r.1 14 k = 0 ∧ r.1 15 k = 0
def PM (T : Nat → Nat) (l : List (Nat × Nat)) (r : RS) : Prop := r.2.1 3 = Int32.ofNat l.length ∧ ∀ k, k < l.length → MT T r k (l.getD k (0, 0)).1 (l.getD k (0, 0)).2
def FrM (r r' : RS) : Prop := (∀ j, j ≠ 5 → j ≠ 6 → j ≠ 7 → j ≠ 9 → j ≠ 10 → j ≠ 12 → j ≠ 14 → j ≠ 15 → r'.1 j = r.1 j) ∧ (∀ j, j ≠ 3 → r'.2.1 j = r.2.1 j) ∧ ∀ j, j ≠ 8 → r'.2.2 j = r.2.2 j
theorem FrM.rf {r : RS} : FrM r r := ⟨fun _ _ _ _ _ _ _ _ _ => rfl, fun _ _ => rfl, fun _ _ => rfl⟩
theorem FrM.tr {r r' r2 : RS} (h : FrM r r') (h2 : FrM r' r2) : FrM r r2 := ⟨fun j a b c e f g i k => (h2.1 j a b c e f g i k).trans (h.1 j a b c e f g i k), fun j a => (h2.2.1 j a).trans (h.2.1 j a), fun j a => (h2.2.2 j a).trans (h.2.2 j a)⟩
theorem TxM.fr {T : Nat → Nat} {n : Nat} {r r' : RS} (h : TxM T n r) (h2 : FrM r r') : TxM T n r' := ⟨(h2.2.1 1 (by decide)).trans h.1, h.2.1, fun i hi => by rw [h2.1 2 (by decide) (by decide) (by decide) (by decide) (by decide) (by decide) (by decide) (by decide)]; exact h.2.2.1 i hi, (h2.2.2 1 (by decide)).trans h.2.2.2⟩
theorem MT.cg {T : Nat → Nat} {r r' : RS} {k a e : Nat} (h : MT T r k a e) (h5 : r'.1 5 k = r.1 5 k) (h6 : r'.1 6 k = r.1 6 k) (h7 : r'.1 7 k = r.1 7 k) (h8 : r'.2.2 8 k = r.2.2 8 k) (h9 : r'.1 9 k = r.1 9 k) (h10 : r'.1 10 k = r.1 10 k) (h12 : r'.1 12 k = r.1 12 k) (h14 : r'.1 14 k = r.1 14 k) (h15 : r'.1 15 k = r.1 15 k) : MT T r' k a e := by
  unfold MT at *
  rw [h5, h6, h7, h8, h9, h10, h12, h14, h15]; exact h
theorem br_loop {T : Nat → Nat} {n : Nat} {r : RS} (hX : TxM T n r) (z b : Int32) (g : Nat) (hb : b = 0 ∧ g = 3 ∨ b = 1 ∧ g = 2) : ∀ (f p M : Nat), n - p ≤ f → p ≤ n → lpN BMo_behindRun_2 (M + 1 + f) (z, b, Int32.ofNat p, r) = some (Int32.ofNat (runE T n g f p), r) := by
  intro f
  induction f with
  | zero =>
    intro p M h1 h2
    have : p = n := by omega
    subst this
    rw [Nat.add_zero, lp_succ]
    unfold BMo_behindRun_2 runE
    dsimp only
    rw [hX.1, if_pos (by rw [i_le]; omega)]
  | succ f ih =>
    intro p M h1 h2
    rw [show M + 1 + (f + 1) = (M + 1 + f) + 1 by omega, lp_succ]
    unfold BMo_behindRun_2 runE
    dsimp only
    rw [hX.1]
    by_cases hp : p < n
    · obtain ⟨c0, c1, c2⟩ := hX.2.2.1 p hp
      have hn := hX.2.1
      rw [if_neg (by rw [o_le (by omega) (by omega)]; omega), if_pos (o_inb (by omega) (by omega)), if_pos (o_inb (by omega) (by omega)), o_nat (by omega), c0, gr_digit _ (by omega), gr_letter _ (by omega)]
      simp only [Option.bind_some, o_p1]
      rcases hb with ⟨rfl, rfl⟩ | ⟨rfl, rfl⟩
      · rw [if_pos rfl]
        by_cases hg : gr (T p) = 3
        · rw [if_pos hg, if_neg ne10, if_pos ⟨hp, hg⟩]
          exact ih (p + 1) M (by omega) (by omega)
        · rw [if_neg hg, if_pos rfl, if_neg (fun h => hg h.2)]
      · rw [if_neg ne10]
        by_cases hg : gr (T p) = 2
        · rw [if_pos hg, if_neg ne10, if_pos ⟨hp, hg⟩]
          exact ih (p + 1) M (by omega) (by omega)
        · rw [if_neg hg, if_pos rfl, if_neg (fun h => hg h.2)]
    · have : p = n := by omega
      subst this
      rw [if_pos (by rw [i_le]; omega), if_neg (fun h => hp h.1)]
theorem behindRun_ok {T : Nat → Nat} {n : Nat} {r : RS} (hX : TxM T n r) {b : Int32} {g p : Nat} (hb : b = 0 ∧ g = 3 ∨ b = 1 ∧ g = 2) (hp : p ≤ n) : f_Mo_behindRun (Int32.ofNat p) b r = some (Int32.ofNat (runE T n g (n - p) p), r) := by
  have hn := hX.2.1
  have := br_loop hX (Int32.ofNat p) b g hb (n - p) p (99999 - (n - p)) (by omega) hp
  rw [show 99999 - (n - p) + 1 + (n - p) = 100000 by omega] at this
  exact this
theorem ml_loop {T : Nat → Nat} {n a e k : Nat} (c : Int32) (h1 : a < e) (h2 : e ≤ n) (h6 : e - a ≤ 6) (hk : k < 240) (hr : ∀ i, a ≤ i → i < e → gr (T i) = 2) : ∀ (m q : Nat) (r : RS) (M : Nat), e - q = m → a ≤ q → q ≤ e → TxM T n r → r.2.2 8 k = Int64.ofNat (pk T a (q - a)) → ∃ r', lpN BMo_makeToken_105 (M + 1 + m) (Int32.ofNat a, Int32.ofNat e, Int32.ofNat k, c, 1, Int32.ofNat q, r) = some r' ∧ r'.1 = va_up r.1 5 (upd (r.1 5) k (Int32.ofNat (if kwN (pk T a (e - a)) < 6 then 1 else 2))) ∧ r'.2.1 = r.2.1 ∧ (∀ j, j ≠ 8 → r'.2.2 j = r.2.2 j) ∧ (∀ j, j ≠ k → r'.2.2 8 j = r.2.2 8 j) ∧ r'.2.2 8 k = Int64.ofNat (pk T a (e - a)) := by
  intro m
  have bk : inb (Int32.ofNat k) 240 = true := o_inb hk (by omega)
  have hv : pk T a (e - a) < 2147483648 := by
    have z1 := pq_lt T a (e - a) (fun i hi => hr (a + i) (by omega) (by omega))
    have z2 := p32_le h6
    omega
  induction m with
  | zero =>
    intro q r M g1 g2 g3 hX hw
    have hn := hX.2.1
    have : q = e := by omega
    subst this
    rw [Nat.add_zero, lp_succ]
    unfold BMo_makeToken_105
    dsimp only
    rw [if_pos (by rw [i_le]; omega), if_neg ne10, if_pos bk, o_nat (by omega), hw]
    simp only [bindv, kwM hv (l_nat hv) hX.2.2.2, Option.bind_some, bk, ↓reduceIte]
    by_cases hk6 : kwN (pk T a (q - a)) < 6
    · simp only [hk6, ↓reduceIte]
      rw [if_neg (show ¬ Int32.ofNat (kwN (pk T a (q - a))) < 0 by rw [i_lt, onat (by omega), n0]; omega)]
      exact ⟨_, rfl, rfl, rfl, fun _ _ => rfl, fun _ _ => rfl, hw⟩
    · simp only [hk6, ↓reduceIte]
      rw [if_pos (show (-1 : Int32) < 0 by decide)]
      exact ⟨_, rfl, rfl, rfl, fun _ _ => rfl, fun _ _ => rfl, hw⟩
  | succ m ih =>
    intro q r M g1 g2 g3 hX hw
    have hn := hX.2.1
    have gq := gq_2.mp (hr q g2 (by omega))
    obtain ⟨c0, c1, c2⟩ := hX.2.2.1 q (by omega)
    have hX2 : TxM T n (r.1, r.2.1, va_up r.2.2 8 (vp_updL (r.2.2 8) k (Int64.ofNat (pk T a (q + 1 - a))))) := hX.fr ⟨fun _ _ _ _ _ _ _ _ _ => rfl, fun _ _ => rfl, fun j hj => up_ne hj⟩
    obtain ⟨r', f1, f2, f3, f4, f5, f6⟩ := ih (q + 1) (r.1, r.2.1, va_up r.2.2 8 (vp_updL (r.2.2 8) k (Int64.ofNat (pk T a (q + 1 - a))))) M (by omega) (by omega) (by omega) hX2 uL_eq
    refine ⟨r', ?_, f2, f3, fun j hj => (f4 j hj).trans (up_ne hj), fun j hj => (f5 j hj).trans (uL_ne hj), f6⟩
    rw [show M + 1 + (m + 1) = (M + 1 + m) + 1 by omega, lp_succ]
    unfold BMo_makeToken_105
    dsimp only
    rw [if_neg (by rw [o_le (by omega) (by omega)]; omega), if_neg ne10]
    simp only [bk, ↓reduceIte, bindv, o_inb (show q < 240 by omega) (show q < 2147483648 by omega), o_nat (show q < 2147483648 by omega), o_nat (show k < 2147483648 by omega), hw, c0, o_sub (show a ≤ q by omega), o_p1]
    have e1 : Int32.ofNat (T q) - 96 = Int32.ofNat (T q - 96) := o_sub (b := 96) (by omega)
    have e2 : pk T a (q + 1 - a) = pk T a (q - a) + (T q - 96) * 32 ^ (q - a) := by
      rw [show q + 1 - a = (q - a) + 1 by omega]
      show pk T a (q - a) + (T (a + (q - a)) - 96) * 32 ^ (q - a) = _
      rw [show a + (q - a) = q by omega]
    rw [e1, or_pl (by omega) (pq_lt T a (q - a) (fun i hi => hr (a + i) (by omega) (by omega))) (by omega), ← e2]
    exact f1
theorem md_loop {T : Nat → Nat} {n a e k : Nat} (c : Int32) (h1 : a < e) (h2 : e ≤ n) (h4 : e - a ≤ 4) (hk : k < 240) (hr : ∀ i, a ≤ i → i < e → gr (T i) = 3) : ∀ (m q : Nat) (r : RS) (M : Nat), e - q = m → a ≤ q → q ≤ e → TxM T n r → r.2.2 8 k = Int64.ofNat (dg T a (q - a)) → ∃ r', lpN BMo_makeToken_218 (M + 1 + m) (Int32.ofNat a, Int32.ofNat e, Int32.ofNat k, c, Int32.ofNat q, r) = some r' ∧ r'.1 = r.1 ∧ r'.2.1 = r.2.1 ∧ (∀ j, j ≠ 8 → r'.2.2 j = r.2.2 j) ∧ (∀ j, j ≠ k → r'.2.2 8 j = r.2.2 8 j) ∧ r'.2.2 8 k = Int64.ofNat (dg T a (e - a)) := by
  intro m
  have bk : inb (Int32.ofNat k) 240 = true := o_inb hk (by omega)
  induction m with
  | zero =>
    intro q r M g1 g2 g3 hX hw
    have hn := hX.2.1
    have : q = e := by omega
    subst this
    rw [Nat.add_zero, lp_succ]
    unfold BMo_makeToken_218
    dsimp only
    rw [if_pos (by rw [i_le]; omega)]
    exact ⟨_, rfl, rfl, rfl, fun _ _ => rfl, fun _ _ => rfl, hw⟩
  | succ m ih =>
    intro q r M g1 g2 g3 hX hw
    have hn := hX.2.1
    have gq := gq_3.mp (hr q g2 (by omega))
    obtain ⟨c0, c1, c2⟩ := hX.2.2.1 q (by omega)
    have hX2 : TxM T n (r.1, r.2.1, va_up r.2.2 8 (vp_updL (r.2.2 8) k (Int64.ofNat (dg T a (q + 1 - a))))) := hX.fr ⟨fun _ _ _ _ _ _ _ _ _ => rfl, fun _ _ => rfl, fun j hj => up_ne hj⟩
    obtain ⟨r', f1, f2, f3, f4, f5, f6⟩ := ih (q + 1) (r.1, r.2.1, va_up r.2.2 8 (vp_updL (r.2.2 8) k (Int64.ofNat (dg T a (q + 1 - a))))) M (by omega) (by omega) (by omega) hX2 uL_eq
    refine ⟨r', ?_, f2, f3, fun j hj => (f4 j hj).trans (up_ne hj), fun j hj => (f5 j hj).trans (uL_ne hj), f6⟩
    rw [show M + 1 + (m + 1) = (M + 1 + m) + 1 by omega, lp_succ]
    unfold BMo_makeToken_218
    dsimp only
    rw [o_sub (show a ≤ e by omega), if_neg (by rw [o_le (by omega) (by omega)]; omega), if_neg (show ¬ (4 : Int32) < Int32.ofNat (e - a) by rw [i_lt, onat (by omega), n4]; omega)]
    simp only [bk, ↓reduceIte, bindv, o_inb (show q < 240 by omega) (show q < 2147483648 by omega), o_nat (show q < 2147483648 by omega), o_nat (show k < 2147483648 by omega), hw, c0, o_p1, l_of (show T q < 2147483648 by omega)]
    have e1 : (10 : Int64) * Int64.ofNat (dg T a (q - a)) + Int64.ofNat (T q) - 48 = Int64.ofNat (10 * dg T a (q - a) + T q - 48) := by
      have z1 : (10 : Int64) * Int64.ofNat (dg T a (q - a)) = Int64.ofNat (10 * dg T a (q - a)) := (Int64.ofNat_mul 10 _).symm
      rw [z1, ← Int64.ofNat_add]
      exact l_sub (b := 48) (by omega)
    have e2 : dg T a (q + 1 - a) = 10 * dg T a (q - a) + T q - 48 := by
      rw [show q + 1 - a = (q - a) + 1 by omega]
      show 10 * dg T a (q - a) + (T (a + (q - a)) - 48) = _
      rw [show a + (q - a) = q by omega]
      omega
    rw [e1, ← e2]
    exact f1
theorem PM.mk1 {T : Nat → Nat} {l : List (Nat × Nat)} {r r' : RS} {a e : Nat} (hP : PM T l r) (h3 : r'.2.1 3 = Int32.ofNat (l.length + 1)) (hA : ∀ j k, k ≠ l.length → r'.1 j k = r.1 j k) (h8 : ∀ k, k ≠ l.length → r'.2.2 8 k = r.2.2 8 k) (h6 : MT T r' l.length a e) : PM T (l ++ [(a, e)]) r' := by
  refine ⟨by rw [len1]; exact h3, fun k hk => ?_⟩
  rw [len1] at hk
  by_cases h : k < l.length
  · rw [gd_old h]
    have hne : k ≠ l.length := by omega
    exact (hP.2 k h).cg (hA 5 k hne) (hA 6 k hne) (hA 7 k hne) (h8 k hne) (hA 9 k hne) (hA 10 k hne) (hA 12 k hne) (hA 14 k hne) (hA 15 k hne)
  · have : k = l.length := by omega
    subst this
    rw [gd_new]
    exact h6
/-- The rows as a token is begun. -/
abbrev mk7 (A : Nat → Nat → Int32) (k : Nat) (a e : Int32) : Nat → Nat → Int32 := va_up (va_up (va_up (va_up (va_up (va_up (va_up A 6 (upd (A 6) k a)) 7 (upd (A 7) k e)) 9 (upd (A 9) k 0)) 10 (upd (A 10) k (-1))) 12 (upd (A 12) k 0)) 14 (upd (A 14) k 0)) 15 (upd (A 15) k 0)
theorem mk7_far {A : Nat → Nat → Int32} {k : Nat} {a e : Int32} {j : Nat} (h6 : j ≠ 6) (h7 : j ≠ 7) (h9 : j ≠ 9) (h10 : j ≠ 10) (h12 : j ≠ 12) (h14 : j ≠ 14) (h15 : j ≠ 15) : mk7 A k a e j = A j := by
  show va_up (va_up (va_up (va_up (va_up (va_up (va_up _ _ _) _ _) _ _) _ _) _ _) _ _) _ _ _ = _
  rw [up_ne h15, up_ne h14, up_ne h12, up_ne h10, up_ne h9, up_ne h7, up_ne h6]
theorem mk8_old {A : Nat → Nat → Int32} {k i : Nat} {a e v : Int32} (h : i ≠ k) (j : Nat) : va_up (mk7 A k a e) 5 (upd (A 5) k v) j i = A j i := by
  by_cases h5 : j = 5
  · subst h5; exact ud_ne h
  rw [up_ne h5]
  by_cases h15 : j = 15
  · subst h15; exact ud_ne h
  by_cases h14 : j = 14
  · subst h14; exact ud_ne h
  by_cases h12 : j = 12
  · subst h12; exact ud_ne h
  by_cases h10 : j = 10
  · subst h10; exact ud_ne h
  by_cases h9 : j = 9
  · subst h9; exact ud_ne h
  by_cases h7 : j = 7
  · subst h7; exact ud_ne h
  by_cases h6 : j = 6
  · subst h6; exact ud_ne h
  rw [mk7_far h6 h7 h9 h10 h12 h14 h15]
theorem mk8_ok {T : Nat → Nat} {l : List (Nat × Nat)} {r r' : RS} {a e : Nat} (hP : PM T l r) (hA : r'.1 = va_up (mk7 r.1 l.length (Int32.ofNat a) (Int32.ofNat e)) 5 (upd (r.1 5) l.length (Int32.ofNat (kd T a e)))) (hI : r'.2.1 = va_up r.2.1 3 (Int32.ofNat (l.length + 1))) (h8 : ∀ k, k ≠ l.length → r'.2.2 8 k = r.2.2 8 k) (hL : ∀ j, j ≠ 8 → r'.2.2 j = r.2.2 j) (hw : kd T a e = 1 ∨ kd T a e = 2 → r'.2.2 8 l.length = Int64.ofNat (pk T a (e - a))) (hd : kd T a e = 3 → r'.2.2 8 l.length = Int64.ofNat (dg T a (e - a))) : PM T (l ++ [(a, e)]) r' ∧ FrM r r' := by
  refine ⟨PM.mk1 hP (by rw [hI]; exact up_eq) (fun j k hk => by rw [hA]; exact mk8_old hk j) h8 ⟨?_, ?_, ?_, hw, hd, ?_, ?_, ?_, ?_, ?_⟩, fun j h5 h6 h7 h9 h10 h12 h14 h15 => by rw [hA, up_ne h5]; exact mk7_far h6 h7 h9 h10 h12 h14 h15, fun j hj => by rw [hI]; exact up_ne hj, hL⟩
  all_goals rw [hA]
  all_goals exact ud_eq
theorem makeToken_ok {T : Nat → Nat} {n : Nat} {l : List (Nat × Nat)} {r : RS} {a e : Nat} (hX : TxM T n r) (hP : PM T l r) (hl : l.length ≤ a) (h1 : a < e) (h2 : e ≤ n) (h0 : gr (T a) ≠ 0) (hr : ∀ i, a ≤ i → i < e → gr (T i) = gr (T a)) : ∃ r', f_Mo_makeToken (Int32.ofNat a) (Int32.ofNat e) r = some r' ∧ PM T (l ++ [(a, e)]) r' ∧ FrM r r' := by
  have hn := hX.2.1
  obtain ⟨c0, c1, c2⟩ := hX.2.2.1 a (by omega)
  have hg := gr_le (T a)
  have hg1 := gr_ne1 (T a)
  have bk : inb (Int32.ofNat l.length) 240 = true := o_inb (by omega) (by omega)
  have ba : inb (Int32.ofNat a) 240 = true := o_inb (by omega) (by omega)
  unfold f_Mo_makeToken
  simp only [hP.1, bk, ba, ↓reduceIte, o_nat (show a < 2147483648 by omega), o_nat (show l.length < 2147483648 by omega), c0, gr_letter _ (show T a < 127 by omega), gr_digit _ (show T a < 127 by omega), Option.bind_some, o_sub (show a ≤ e by omega), o_p1]
  have q6 : (6 < Int32.ofNat (e - a)) = (6 < e - a) := o_lt (a := 6) (by omega) (by omega)
  have q4 : (4 < Int32.ofNat (e - a)) = (4 < e - a) := o_lt (a := 4) (by omega) (by omega)
  simp only [q6, q4]
  by_cases g2 : gr (T a) = 2
  · simp only [g2, ↓reduceIte, ne10]
    by_cases h6 : 6 < e - a
    · simp only [h6, ↓reduceIte]
      have hkd : kd T a e = 5 := by
        unfold kd
        rw [if_pos g2, if_neg (by omega)]
      rw [show (100000 : Nat) = 99999 + 1 from rfl, lp_succ]
      unfold BMo_makeToken_105
      dsimp only
      rw [if_neg (by rw [o_le (by omega) (by omega)]; omega), if_pos rfl, if_pos rfl, if_pos bk, o_nat (by omega)]
      refine ⟨_, rfl, mk8_ok hP (by rw [hkd]; rfl) rfl (fun k hk => uL_ne hk) (fun j hj => up_ne hj) (fun h => by omega) (fun h => by omega)⟩
    · simp only [h6, ↓reduceIte]
      obtain ⟨r', f1, f2, f3, f4, f5, f6⟩ := ml_loop (T := T) (n := n) (a := a) (e := e) (k := l.length) (Int32.ofNat (T a)) h1 h2 (by omega) (by omega) (fun i g1 g3 => (hr i g1 g3).trans g2) (e - a) a (mk7 r.1 l.length (Int32.ofNat a) (Int32.ofNat e), va_up r.2.1 3 (Int32.ofNat (l.length + 1)), va_up r.2.2 8 (vp_updL (r.2.2 8) l.length 0)) (99999 - (e - a)) rfl (by omega) (by omega) (hX.fr ⟨fun j _ h6 h7 h9 h10 h12 h14 h15 => mk7_far h6 h7 h9 h10 h12 h14 h15, fun j hj => up_ne hj, fun j hj => up_ne hj⟩) (by rw [Nat.sub_self]; exact uL_eq)
      rw [show 99999 - (e - a) + 1 + (e - a) = 100000 by omega] at f1
      refine ⟨r', f1, mk8_ok hP ?_ f3 (fun k hk => (f5 k hk).trans (uL_ne hk)) (fun j hj => (f4 j hj).trans (up_ne hj)) (fun _ => f6) (fun h => ?_)⟩
      · rw [f2]
        have hkd : kd T a e = if kwN (pk T a (e - a)) < 6 then 1 else 2 := by
          unfold kd
          rw [if_pos g2, if_pos (by omega)]
        rw [hkd]
        rfl
      · exfalso
        unfold kd at h
        rw [if_pos g2, if_pos (by omega)] at h
        split at h <;> omega
  · by_cases g3 : gr (T a) = 3
    · simp only [g2, g3, ↓reduceIte, ne10, show ¬ (3 : Nat) = 2 by omega]
      by_cases h4 : 4 < e - a
      · simp only [h4, ↓reduceIte]
        have hkd : kd T a e = 5 := by
          unfold kd
          rw [if_neg g2, if_pos g3, if_neg (by omega)]
        rw [show (100000 : Nat) = 99999 + 1 from rfl, lp_succ]
        unfold BMo_makeToken_218
        dsimp only
        rw [o_sub (show a ≤ e by omega), if_neg (by rw [o_le (by omega) (by omega)]; omega), if_pos (by rw [q4]; exact h4)]
        refine ⟨_, rfl, mk8_ok hP (by rw [hkd]; rfl) rfl (fun k hk => uL_ne hk) (fun j hj => up_ne hj) (fun h => by omega) (fun h => by omega)⟩
      · simp only [h4, ↓reduceIte]
        have hkd : kd T a e = 3 := by
          unfold kd
          rw [if_neg g2, if_pos g3, if_pos (by omega)]
        obtain ⟨r', f1, f2, f3, f4, f5, f6⟩ := md_loop (T := T) (n := n) (a := a) (e := e) (k := l.length) (Int32.ofNat (T a)) h1 h2 (by omega) (by omega) (fun i g1 g4 => (hr i g1 g4).trans g3) (e - a) a (va_up (mk7 r.1 l.length (Int32.ofNat a) (Int32.ofNat e)) 5 (upd (r.1 5) l.length 3), va_up r.2.1 3 (Int32.ofNat (l.length + 1)), va_up r.2.2 8 (vp_updL (r.2.2 8) l.length 0)) (99999 - (e - a)) rfl (by omega) (by omega) (hX.fr ⟨fun j h5 h6 h7 h9 h10 h12 h14 h15 => (up_ne h5).trans (mk7_far h6 h7 h9 h10 h12 h14 h15), fun j hj => up_ne hj, fun j hj => up_ne hj⟩) (by rw [Nat.sub_self]; exact uL_eq)
        rw [show 99999 - (e - a) + 1 + (e - a) = 100000 by omega] at f1
        refine ⟨r', f1, mk8_ok hP ?_ f3 (fun k hk => (f5 k hk).trans (uL_ne hk)) (fun j hj => (f4 j hj).trans (up_ne hj)) (fun h => by omega) (fun _ => f6)⟩
        rw [f2, hkd]
        rfl
    · have hkd : kd T a e = gr (T a) := by
        unfold kd
        rw [if_neg g2, if_neg g3]
      simp only [g2, g3, ↓reduceIte, gr_sign _ (show T a < 127 by omega) (by omega), Option.bind_some]
      by_cases g4 : gr (T a) = 4
      · simp only [g4, ↓reduceIte, ne10]
        refine ⟨_, rfl, mk8_ok hP (by rw [hkd, g4]; rfl) rfl (fun k hk => uL_ne hk) (fun j hj => up_ne hj) (fun h => by omega) (fun h => by omega)⟩
      · have g5 : gr (T a) = 5 := by omega
        simp only [g4, ↓reduceIte]
        refine ⟨_, rfl, mk8_ok hP (by rw [hkd, g5]; rfl) rfl (fun k hk => uL_ne hk) (fun j hj => up_ne hj) (fun h => by omega) (fun h => by omega)⟩
theorem sc_loop {T : Nat → Nat} {n : Nat} : ∀ (f p : Nat) (l : List (Nat × Nat)) (r : RS) (M : Nat), n - p ≤ f → p ≤ n → TxM T n r → PM T l r → l.length ≤ p → ∃ r', lpN BMo_scan_7 (M + 1 + (n - p)) (Int32.ofNat p, r) = some r' ∧ PM T (l ++ scanL T n f p) r' ∧ FrM r r' := by
  intro f
  induction f with
  | zero =>
    intro p l r M h1 h2 hX hP h3
    have : p = n := by omega
    subst this
    refine ⟨r, ?_, by unfold scanL; rw [List.append_nil]; exact hP, FrM.rf⟩
    rw [Nat.sub_self, Nat.add_zero, lp_succ]
    unfold BMo_scan_7
    dsimp only
    rw [hX.1, if_pos (by rw [i_le]; omega)]
  | succ f ih =>
    intro p l r M h1 h2 hX hP h3
    by_cases hp : p < n
    · have hs : scanL T n (f + 1) p = if gr (T p) = 0 then scanL T n f (p + 1) else (p, tkE T n p) :: scanL T n f (tkE T n p) := by
        show (if p < n then _ else _) = _
        rw [if_pos hp]
      have hn := hX.2.1
      obtain ⟨c0, c1, c2⟩ := hX.2.2.1 p hp
      have hM : M + 1 + (n - p) = (M + 1 + (n - (p + 1))) + 1 := by omega
      rw [hs, hM, lp_succ]
      unfold BMo_scan_7
      dsimp only
      have q32 : (Int32.ofNat (T p) = 32) = (gr (T p) = 0) := by rw [gq_0]; exact o_eq (b := 32) (by omega) (by omega)
      rw [hX.1, if_neg (by rw [o_le (by omega) (by omega)]; omega), if_pos (o_inb (by omega) (by omega)), o_nat (by omega), c0]
      simp only [q32, gr_letter _ (show T p < 127 by omega), gr_digit _ (show T p < 127 by omega), Option.bind_some, o_p1]
      by_cases h0 : gr (T p) = 0
      · simp only [h0, ↓reduceIte]
        obtain ⟨r', e1, e2, e3⟩ := ih (p + 1) l r M (by omega) (by omega) hX hP (by omega)
        exact ⟨r', e1, e2, e3⟩
      · obtain ⟨k1, k2, k3, k4, k5⟩ := tkE_ok T n p hp
        obtain ⟨r1, m1, m2, m3⟩ := makeToken_ok hX hP h3 k1 k2 h0 k3
        obtain ⟨r', e1, e2, e3⟩ := ih (tkE T n p) (l ++ [(p, tkE T n p)]) r1 (M + (tkE T n p - (p + 1))) (by omega) k2 (hX.fr m3) m2 (by rw [len1]; omega)
        rw [show M + (tkE T n p - (p + 1)) + 1 + (n - tkE T n p) = M + 1 + (n - (p + 1)) by omega] at e1
        rw [List.append_assoc] at e2
        simp only [h0, ↓reduceIte]
        refine ⟨r', ?_, e2, m3.tr e3⟩
        by_cases g2 : gr (T p) = 2
        · have hE : tkE T n p = runE T n 2 (n - p) p := by
            unfold tkE
            rw [if_pos (Or.inl g2), g2]
          rw [hE] at m1 e1
          simp only [g2, ↓reduceIte, ne10, behindRun_ok hX (b := 1) (g := 2) (Or.inr ⟨rfl, rfl⟩) (show p ≤ n by omega), Option.bind_some, m1]
          exact e1
        · by_cases g3 : gr (T p) = 3
          · have hE : tkE T n p = runE T n 3 (n - p) p := by
              unfold tkE
              rw [if_pos (Or.inr g3), g3]
            rw [hE] at m1 e1
            simp only [g3, ↓reduceIte, ne10, show ¬ (3 : Nat) = 2 by omega, behindRun_ok hX (b := 0) (g := 3) (Or.inl ⟨rfl, rfl⟩) (show p ≤ n by omega), Option.bind_some, m1]
            exact e1
          · rw [k5 g2 g3] at m1 e1
            simp only [g2, g3, ↓reduceIte, m1, Option.bind_some]
            exact e1
    · have : p = n := by omega
      subst this
      refine ⟨r, ?_, ?_, FrM.rf⟩
      · rw [Nat.sub_self, Nat.add_zero, lp_succ]
        unfold BMo_scan_7
        dsimp only
        rw [hX.1, if_pos (by rw [i_le]; omega)]
      · have hs : scanL T p (f + 1) p = [] := by
          show (if p < p then _ else _) = _
          rw [if_neg hp]
        rw [hs, List.append_nil]; exact hP
theorem scan_ok {T : Nat → Nat} {n : Nat} {r : RS} (hX : TxM T n r) : ∃ r', f_Mo_scan r = some r' ∧ PM T (scanL T n n 0) r' ∧ FrM r r' := by
  have hn := hX.2.1
  have fr0 : FrM r (r.1, va_up r.2.1 3 0, r.2.2) := ⟨fun _ _ _ _ _ _ _ _ _ => rfl, fun j hj => up_ne hj, fun _ _ => rfl⟩
  obtain ⟨r', e1, e2, e3⟩ := sc_loop n 0 [] (r.1, va_up r.2.1 3 0, r.2.2) (99999 - n) (by omega) (by omega) (hX.fr fr0) ⟨rfl, fun k hk => absurd hk (Nat.not_lt_zero _)⟩ (Nat.zero_le _)
  rw [show 99999 - n + 1 + (n - 0) = 100000 by omega] at e1
  exact ⟨r', e1, e2, fr0.tr e3⟩
