/-! numbers as naturals -/
theorem o_le {a b : Nat} (ha : a < 2147483648) (hb : b < 2147483648) : (Int32.ofNat a ≤ Int32.ofNat b) = (a ≤ b) := by
  rw [i_le, onat ha, onat hb]; simp only [Int.ofNat_le]
theorem o_lt {a b : Nat} (ha : a < 2147483648) (hb : b < 2147483648) : (Int32.ofNat a < Int32.ofNat b) = (a < b) := by
  rw [i_lt, onat ha, onat hb]; simp only [Int.ofNat_lt]
theorem o_eq {a b : Nat} (ha : a < 2147483648) (hb : b < 2147483648) : (Int32.ofNat a = Int32.ofNat b) = (a = b) := by
  rw [i_eq, onat ha, onat hb]; simp only [Int.ofNat_inj]
theorem o_lel {n a : Nat} (hn : OfNat.ofNat n < 2147483648) (ha : a < 2147483648) : ((OfNat.ofNat n : Int32) ≤ Int32.ofNat a) = ((OfNat.ofNat n : Nat) ≤ a) := o_le hn ha
theorem o_ler {n a : Nat} (hn : OfNat.ofNat n < 2147483648) (ha : a < 2147483648) : (Int32.ofNat a ≤ (OfNat.ofNat n : Int32)) = (a ≤ (OfNat.ofNat n : Nat)) := o_le ha hn
theorem o_ltl {n a : Nat} (hn : OfNat.ofNat n < 2147483648) (ha : a < 2147483648) : ((OfNat.ofNat n : Int32) < Int32.ofNat a) = ((OfNat.ofNat n : Nat) < a) := o_lt hn ha
theorem o_ltr {n a : Nat} (hn : OfNat.ofNat n < 2147483648) (ha : a < 2147483648) : (Int32.ofNat a < (OfNat.ofNat n : Int32)) = (a < (OfNat.ofNat n : Nat)) := o_lt ha hn
theorem o_eqr {n a : Nat} (hn : OfNat.ofNat n < 2147483648) (ha : a < 2147483648) : (Int32.ofNat a = (OfNat.ofNat n : Int32)) = (a = (OfNat.ofNat n : Nat)) := o_eq ha hn
theorem o_nm1 {a : Nat} (ha : a < 2147483648) : (Int32.ofNat a = -1) = False := by
  rw [i_eq, onat ha, nm1, eq_iff_iff, iff_false]; omega
theorem o_nat {a : Nat} (ha : a < 2147483648) : (Int32.ofNat a).toNatClampNeg = a := by
  show (Int32.ofNat a).toInt.toNat = a
  rw [onat ha]; rfl
theorem o_inb {a n : Nat} (h : a < n) (ha : a < 2147483648) : inb (Int32.ofNat a) n = true := inb_of (by rw [onat ha]; omega) (by rw [onat ha]; omega)
theorem o_ninb {a n : Nat} (h : n ≤ a) (ha : a < 2147483648) : inb (Int32.ofNat a) n = false := by
  simp only [inb, o_nat ha, Bool.and_eq_false_iff, decide_eq_false_iff_not]
  exact Or.inr (by omega)
theorem o_add {a b : Nat} : Int32.ofNat a + Int32.ofNat b = Int32.ofNat (a + b) := (Int32.ofNat_add a b).symm
theorem o_addl {a n : Nat} : Int32.ofNat a + (OfNat.ofNat n : Int32) = Int32.ofNat (a + OfNat.ofNat n) := o_add
theorem o_addr {a n : Nat} : (OfNat.ofNat n : Int32) + Int32.ofNat a = Int32.ofNat (OfNat.ofNat n + a) := o_add
theorem o_mul {a b : Nat} : Int32.ofNat a * Int32.ofNat b = Int32.ofNat (a * b) := (Int32.ofNat_mul a b).symm
theorem o_mull {a n : Nat} : (OfNat.ofNat n : Int32) * Int32.ofNat a = Int32.ofNat (OfNat.ofNat n * a) := o_mul
theorem o_mulr {a n : Nat} : Int32.ofNat a * (OfNat.ofNat n : Int32) = Int32.ofNat (a * OfNat.ofNat n) := o_mul
theorem o_sub {a b : Nat} (h : b ≤ a) : Int32.ofNat a - Int32.ofNat b = Int32.ofNat (a - b) := by
  have h1 : Int32.ofNat a = Int32.ofNat (a - b) + Int32.ofNat b := by rw [o_add]; congr 1; omega
  rw [h1, Int32.add_sub_cancel]
theorem o_subl {a n : Nat} (h : OfNat.ofNat n ≤ a) : Int32.ofNat a - (OfNat.ofNat n : Int32) = Int32.ofNat (a - OfNat.ofNat n) := o_sub h
theorem o_lit0 : (0 : Int32) = Int32.ofNat 0 := rfl
theorem o_of {a : Int32} (h : 0 ≤ a.toInt) : a = Int32.ofNat a.toNatClampNeg := by
  have h1 := i_nat h
  have h2 := a.toInt_lt
  rw [i_eq, onat (by omega), h1]
theorem u_eq {α : Type} {f : Nat → α} {k : Nat} {v : α} : va_up f k v k = v := if_pos rfl
theorem ud_eq {f : Nat → Int32} {k : Nat} {v : Int32} : upd f k v k = v := by simp only [upd, ↓reduceIte]
theorem ud_ne {f : Nat → Int32} {k j : Nat} {v : Int32} (h : j ≠ k) : upd f k v j = f j := by simp only [upd, h, ↓reduceIte]
theorem uL_eq {f : Nat → Int64} {k : Nat} {v : Int64} : vp_updL f k v k = v := by simp only [vp_updL, ↓reduceIte]
theorem uL_ne {f : Nat → Int64} {k j : Nat} {v : Int64} (h : j ≠ k) : vp_updL f k v j = f j := by simp only [vp_updL, h, ↓reduceIte]
/-! characters and their groups -/
def gr (c : Nat) : Nat := if c = 32 then 0 else if 97 ≤ c ∧ c ≤ 122 then 2 else if 48 ≤ c ∧ c ≤ 57 then 3 else if c = 43 ∨ c = 45 ∨ c = 42 ∨ c = 60 ∨ c = 61 ∨ c = 40 ∨ c = 41 ∨ c = 123 ∨ c = 125 ∨ c = 44 ∨ c = 59 then 4 else 5
theorem gr_desk : ∀ c, c < 127 → f_To_groupOf (Int32.ofNat c) = some (Int32.ofNat (gr c)) := by decide +kernel
theorem gr_letter : ∀ c, c < 127 → f_Mo_isLetter (Int32.ofNat c) = some (if gr c = 2 then 1 else 0) := by decide +kernel
theorem gr_digit : ∀ c, c < 127 → f_Mo_isDigit (Int32.ofNat c) = some (if gr c = 3 then 1 else 0) := by decide +kernel
theorem gr_sign : ∀ c, c < 127 → gr c = 4 ∨ gr c = 5 → f_Mo_isSign (Int32.ofNat c) = some (if gr c = 4 then 1 else 0) := by decide +kernel
theorem gr_le (c : Nat) : gr c ≤ 5 := by
  unfold gr
  repeat' split
  all_goals omega
theorem gr_ne1 (c : Nat) : gr c ≠ 1 := by
  unfold gr
  repeat' split
  all_goals omega
theorem gq_0 {c : Nat} : gr c = 0 ↔ c = 32 := by
  unfold gr
  repeat' split
  all_goals omega
theorem gq_2 {c : Nat} : gr c = 2 ↔ 97 ≤ c ∧ c ≤ 122 := by
  unfold gr
  repeat' split
  all_goals omega
theorem gq_3 {c : Nat} : gr c = 3 ↔ 48 ≤ c ∧ c ≤ 57 := by
  unfold gr
  repeat' split
  all_goals omega
/-! the tokens of a text, by runs -/
def runE (T : Nat → Nat) (n g : Nat) : Nat → Nat → Nat
  | 0, p => p
  | f + 1, p => if p < n ∧ gr (T p) = g then runE T n g f (p + 1) else p
def tkE (T : Nat → Nat) (n p : Nat) : Nat := if gr (T p) = 2 ∨ gr (T p) = 3 then runE T n (gr (T p)) (n - p) p else p + 1
def scanL (T : Nat → Nat) (n : Nat) : Nat → Nat → List (Nat × Nat)
  | 0, _ => []
  | f + 1, p => if p < n then (if gr (T p) = 0 then scanL T n f (p + 1) else (p, tkE T n p) :: scanL T n f (tkE T n p)) else []
theorem runE_ok (T : Nat → Nat) (n g : Nat) : ∀ f p, p ≤ n → n - p ≤ f → p ≤ runE T n g f p ∧ runE T n g f p ≤ n ∧ (∀ i, p ≤ i → i < runE T n g f p → gr (T i) = g) ∧ (runE T n g f p < n → gr (T (runE T n g f p)) ≠ g) := by
  intro f
  induction f with
  | zero =>
    intro p h1 h2
    unfold runE
    exact ⟨by omega, h1, fun i _ _ => by omega, fun h => by omega⟩
  | succ f ih =>
    intro p h1 h2
    unfold runE
    by_cases h : p < n ∧ gr (T p) = g
    · rw [if_pos h]
      obtain ⟨g1, g2, g3, g4⟩ := ih (p + 1) (by omega) (by omega)
      refine ⟨by omega, g2, fun i h3 h4 => ?_, g4⟩
      by_cases h5 : i = p
      · rw [h5]; exact h.2
      · exact g3 i (by omega) h4
    · rw [if_neg h]
      exact ⟨by omega, h1, fun i _ _ => by omega, fun h3 h4 => h ⟨h3, h4⟩⟩
theorem runE_gt (T : Nat → Nat) (n g f p : Nat) (h1 : p < n) (h2 : n - p ≤ f) (h3 : gr (T p) = g) : p < runE T n g f p := by
  obtain ⟨f', rfl⟩ : ∃ f', f = f' + 1 := ⟨f - 1, by omega⟩
  unfold runE
  rw [if_pos ⟨h1, h3⟩]
  have := (runE_ok T n g f' (p + 1) (by omega) (by omega)).1
  omega
theorem tkE_ok (T : Nat → Nat) (n p : Nat) (h : p < n) : p < tkE T n p ∧ tkE T n p ≤ n ∧ (∀ i, p ≤ i → i < tkE T n p → gr (T i) = gr (T p)) ∧ (tkE T n p < n → gr (T p) = 2 ∨ gr (T p) = 3 → gr (T (tkE T n p)) ≠ gr (T p)) ∧ (gr (T p) ≠ 2 → gr (T p) ≠ 3 → tkE T n p = p + 1) := by
  unfold tkE
  by_cases h1 : gr (T p) = 2 ∨ gr (T p) = 3
  · rw [if_pos h1]
    obtain ⟨g1, g2, g3, g4⟩ := runE_ok T n (gr (T p)) (n - p) p (by omega) (by omega)
    exact ⟨runE_gt _ _ _ _ _ h (by omega) rfl, g2, g3, fun h2 _ => g4 h2, fun h2 h3 => by omega⟩
  · rw [if_neg h1]
    refine ⟨by omega, by omega, fun i h2 h3 => ?_, fun _ h2 => absurd h2 h1, fun _ _ => rfl⟩
    have : i = p := by omega
    rw [this]
/-! what a token is worth -/
def pk (T : Nat → Nat) (a : Nat) : Nat → Nat
  | 0 => 0
  | l + 1 => pk T a l + (T (a + l) - 96) * 32 ^ l
def dg (T : Nat → Nat) (a : Nat) : Nat → Nat
  | 0 => 0
  | l + 1 => 10 * dg T a l + (T (a + l) - 48)
def kwN (v : Nat) : Nat := if v = 454 then 0 else if v = 20652 then 1 else if v = 201 then 2 else if v = 5645591 then 3 else if v = 21440080 then 4 else if v = 489345202 then 5 else 6
def kd (T : Nat → Nat) (a e : Nat) : Nat := if gr (T a) = 2 then (if e - a ≤ 6 then (if kwN (pk T a (e - a)) < 6 then 1 else 2) else 5) else if gr (T a) = 3 then (if e - a ≤ 4 then 3 else 5) else gr (T a)
def sn (T : Nat → Nat) (a e : Nat) : Nat := if gr (T a) = 2 then (if kwN (pk T a (e - a)) < 6 then kwN (pk T a (e - a)) else pk T a (e - a)) else if gr (T a) = 3 then dg T a (e - a) else T a
theorem pq_lt (T : Nat → Nat) (a : Nat) : ∀ l, (∀ i, i < l → gr (T (a + i)) = 2) → pk T a l < 32 ^ l
  | 0, _ => by unfold pk; omega
  | l + 1, h => by
    have h1 := pq_lt T a l (fun i hi => h i (by omega))
    have h2 := gq_2.mp (h l (by omega))
    unfold pk
    have h3 : (T (a + l) - 96) * 32 ^ l ≤ 31 * 32 ^ l := Nat.mul_le_mul_right _ (by omega)
    have h4 : (32 : Nat) ^ (l + 1) = 32 * 32 ^ l := by rw [Nat.pow_succ, Nat.mul_comm]
    omega
theorem dg_lt (T : Nat → Nat) (a : Nat) : ∀ l, (∀ i, i < l → gr (T (a + i)) = 3) → dg T a l < 10 ^ l
  | 0, _ => by unfold dg; omega
  | l + 1, h => by
    have h1 := dg_lt T a l (fun i hi => h i (by omega))
    have h2 := gq_3.mp (h l (by omega))
    unfold dg
    have h4 : (10 : Nat) ^ (l + 1) = 10 * 10 ^ l := by rw [Nat.pow_succ, Nat.mul_comm]
    omega
theorem p32_le {l : Nat} (h : l ≤ 6) : (32 : Nat) ^ l ≤ 1073741824 := by
  have : (32 : Nat) ^ l ≤ 32 ^ 6 := Nat.pow_le_pow_right (by omega) h
  omega
theorem p10_le {l : Nat} (h : l ≤ 4) : (10 : Nat) ^ l ≤ 10000 := by
  have : (10 : Nat) ^ l ≤ 10 ^ 4 := Nat.pow_le_pow_right (by omega) h
  omega
theorem or_pk {v x l : Nat} (hl : l < 6) (hv : v < 32 ^ l) (hx : x < 32) : Int32.ofNat v ||| (Int32.ofNat x <<< ((5 * Int32.ofNat l) &&& 31)) = Int32.ofNat (v + x * 32 ^ l) := by
  have hs : (((5 * Int32.ofNat l) &&& 31).toBitVec.smod 32).toNat = 5 * l := by
    have : l = 0 ∨ l = 1 ∨ l = 2 ∨ l = 3 ∨ l = 4 ∨ l = 5 := by omega
    rcases this with rfl | rfl | rfl | rfl | rfl | rfl <;> decide
  have hp : (32 : Nat) ^ l = 2 ^ (5 * l) := by rw [Nat.pow_mul]
  have hq := p32_le (l := l) (by omega)
  have hxx : x * 32 ^ l ≤ 31 * 32 ^ l := Nat.mul_le_mul_right _ (by omega)
  have h32 : (32 : Nat) ^ l ≤ 33554432 := by
    have : (32 : Nat) ^ l ≤ 32 ^ 5 := Nat.pow_le_pow_right (by omega) (by omega)
    omega
  apply Int32.toBitVec_inj.mp
  apply BitVec.eq_of_toNat_eq
  show (BitVec.ofNat 32 v ||| (BitVec.ofNat 32 x <<< (((5 * Int32.ofNat l) &&& 31).toBitVec.smod 32))).toNat = (BitVec.ofNat 32 (v + x * 32 ^ l)).toNat
  rw [BitVec.toNat_or, BitVec.shiftLeft_eq', hs, BitVec.toNat_shiftLeft, BitVec.toNat_ofNat, BitVec.toNat_ofNat, BitVec.toNat_ofNat, Nat.mod_eq_of_lt (a := v) (by omega), Nat.mod_eq_of_lt (a := x) (by omega), Nat.shiftLeft_eq, ← hp, Nat.mod_eq_of_lt (a := x * 32 ^ l) (by omega), Nat.mod_eq_of_lt (a := v + x * 32 ^ l) (by omega)]
  have h := Nat.shiftLeft_add_eq_or_of_lt (i := 5 * l) (b := v) (by rw [← hp]; exact hv) x
  rw [Nat.shiftLeft_eq, ← hp] at h
  rw [Nat.or_comm, ← h]; omega
