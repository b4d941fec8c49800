/-! the two machines, side by side: stack, counts, what was printed -/
def Mc (k : DS) (r : RS) (h n u : Nat) : Prop :=
  (k.2 2 = Int32.ofNat h) ∧
  (r.2.1 13 = Int32.ofNat h) ∧
  (k.2 4 = Int32.ofNat n) ∧
  (r.2.1 15 = Int32.ofNat n) ∧
  (k.2 0 = Int32.ofNat u) ∧
  (r.2.1 16 = Int32.ofNat u) ∧
  (k.2 1 = 0) ∧
  (r.2.1 17 = 0) ∧
  (k.2 6 = -1) ∧
  (∀ q, q < h → k.1 3 q = r.1 35 q) ∧
  (∀ q, q < 32 → q < u → k.1 1 q = r.1 36 q)
theorem Mc.kh {k : DS} {r : RS} {h n u : Nat} (hZ : Mc k r h n u) : k.2 2 = Int32.ofNat h := hZ.1
theorem Mc.rh {k : DS} {r : RS} {h n u : Nat} (hZ : Mc k r h n u) : r.2.1 13 = Int32.ofNat h := hZ.2.1
theorem Mc.kn {k : DS} {r : RS} {h n u : Nat} (hZ : Mc k r h n u) : k.2 4 = Int32.ofNat n := hZ.2.2.1
theorem Mc.rn {k : DS} {r : RS} {h n u : Nat} (hZ : Mc k r h n u) : r.2.1 15 = Int32.ofNat n := hZ.2.2.2.1
theorem Mc.ku {k : DS} {r : RS} {h n u : Nat} (hZ : Mc k r h n u) : k.2 0 = Int32.ofNat u := hZ.2.2.2.2.1
theorem Mc.ru {k : DS} {r : RS} {h n u : Nat} (hZ : Mc k r h n u) : r.2.1 16 = Int32.ofNat u := hZ.2.2.2.2.2.1
theorem Mc.k1 {k : DS} {r : RS} {h n u : Nat} (hZ : Mc k r h n u) : k.2 1 = 0 := hZ.2.2.2.2.2.2.1
theorem Mc.r1 {k : DS} {r : RS} {h n u : Nat} (hZ : Mc k r h n u) : r.2.1 17 = 0 := hZ.2.2.2.2.2.2.2.1
theorem Mc.k6 {k : DS} {r : RS} {h n u : Nat} (hZ : Mc k r h n u) : k.2 6 = -1 := hZ.2.2.2.2.2.2.2.2.1
theorem Mc.st {k : DS} {r : RS} {h n u : Nat} (hZ : Mc k r h n u) : ∀ q, q < h → k.1 3 q = r.1 35 q := hZ.2.2.2.2.2.2.2.2.2.1
theorem Mc.pr {k : DS} {r : RS} {h n u : Nat} (hZ : Mc k r h n u) : ∀ q, q < 32 → q < u → k.1 1 q = r.1 36 q := hZ.2.2.2.2.2.2.2.2.2.2
section
variable {k : DS} {r : RS} {h n u : Nat}
theorem Mc.push {v : Int32} (hM : Mc k r h n u) (hh : h < 960) : f_Ma_push v k = some (va_up k.1 3 (upd (k.1 3) h v), va_up k.2 2 (Int32.ofNat (h + 1))) ∧ f_Mo_push v r = some (va_up r.1 35 (upd (r.1 35) h v), va_up r.2.1 13 (Int32.ofNat (h + 1)), r.2.2) ∧ Mc (va_up k.1 3 (upd (k.1 3) h v), va_up k.2 2 (Int32.ofNat (h + 1))) (va_up r.1 35 (upd (r.1 35) h v), va_up r.2.1 13 (Int32.ofNat (h + 1)), r.2.2) (h + 1) n u := by
  refine ⟨?_, ?_, ⟨rfl, rfl, hM.kn, hM.rn, hM.ku, hM.ru, hM.k1, hM.r1, hM.k6, fun q hq => ?_, hM.pr⟩⟩
  · unfold f_Ma_push
    rw [hM.kh, if_neg (show ¬ (960 : Int32) ≤ Int32.ofNat h by rw [show (960 : Int32) = Int32.ofNat 960 from rfl, o_le (by omega) (by omega)]; omega), if_pos (o_inb hh (by omega)), o_nat (by omega), o_p1]
  · unfold f_Mo_push
    rw [hM.rh, if_pos (o_inb (by omega) (by omega)), o_nat (by omega), o_p1]
  · show upd (k.1 3) h v q = upd (r.1 35) h v q
    by_cases e : q = h
    · rw [e, ud_eq, ud_eq]
    · rw [ud_ne e, ud_ne e]; exact hM.st q (by omega)
theorem Mc.pop (hM : Mc k r (h + 1) n u) (hh : h < 960) : f_Ma_pop k = some (k.1 3 h, (k.1, va_up k.2 2 (Int32.ofNat h))) ∧ f_Mo_pop r = some (k.1 3 h, (r.1, va_up r.2.1 13 (Int32.ofNat h), r.2.2)) ∧ Mc (k.1, va_up k.2 2 (Int32.ofNat h)) (r.1, va_up r.2.1 13 (Int32.ofNat h), r.2.2) h n u := by
  refine ⟨?_, ?_, ⟨rfl, rfl, hM.kn, hM.rn, hM.ku, hM.ru, hM.k1, hM.r1, hM.k6, fun q hq => hM.st q (by omega), hM.pr⟩⟩
  · unfold f_Ma_pop
    rw [hM.kh, if_neg (show ¬ Int32.ofNat (h + 1) = 0 by rw [show (0 : Int32) = Int32.ofNat 0 from rfl, o_eq (by omega) (by omega)]; omega), pop12 (by omega), if_pos (o_inb hh (by omega)), o_nat (by omega)]
  · unfold f_Mo_pop
    rw [hM.rh, pop12 (by omega), if_pos (o_inb (by omega) (by omega)), o_nat (by omega), hM.st h (by omega)]
/-- A change of the desk's next order alone. -/
theorem Mc.pc {v : Int32} (hM : Mc k r h n u) : Mc (k.1, va_up k.2 5 v) r h n u := ⟨hM.kh, hM.rh, hM.kn, hM.rn, hM.ku, hM.ru, hM.k1, hM.r1, hM.k6, hM.st, hM.pr⟩
theorem Mc.slot {a b : Nat} {v : Int32} (hM : Mc k r h n u) : Mc (va_up k.1 2 (upd (k.1 2) a v), k.2) (va_up r.1 33 (upd (r.1 33) b v), r.2.1, r.2.2) h n u := ⟨hM.kh, hM.rh, hM.kn, hM.rn, hM.ku, hM.ru, hM.k1, hM.r1, hM.k6, hM.st, hM.pr⟩
theorem Mc.keep {v : Int32} (hM : Mc k r h n u) (hu : u < 1000000) : ∃ (k' : DS) (r' : RS), f_Ma_keep v k = some k' ∧ ((32 ≤ r.2.1 16) → r' = (r.1, va_up r.2.1 16 (r.2.1 16 + 1), r.2.2)) ∧ (¬ (32 ≤ r.2.1 16) → inb (r.2.1 16) 32 = true ∧ r' = (va_up r.1 36 (upd (r.1 36) (r.2.1 16).toNatClampNeg v), va_up r.2.1 16 (r.2.1 16 + 1), r.2.2)) ∧ Mc k' r' h n (u + 1) ∧ (∀ i, i ≠ 1 → k'.1 i = k.1 i) ∧ (∀ i, i ≠ 0 → k'.2 i = k.2 i) ∧ (∀ i, i ≠ 36 → r'.1 i = r.1 i) ∧ (∀ i, i ≠ 16 → r'.2.1 i = r.2.1 i) ∧ r'.2.2 = r.2.2 := by
  have e16 : r.2.1 16 + 1 = Int32.ofNat (u + 1) := by rw [hM.ru, o_p1]
  have e0 : k.2 0 + 1 = Int32.ofNat (u + 1) := by rw [hM.ku, o_p1]
  have h32 : (32 ≤ r.2.1 16) = (32 ≤ u) := by rw [hM.ru, show (32 : Int32) = Int32.ofNat 32 from rfl]; exact o_le (by omega) (by omega)
  have h32k : (32 ≤ k.2 0) = (32 ≤ u) := by rw [hM.ku, show (32 : Int32) = Int32.ofNat 32 from rfl]; exact o_le (by omega) (by omega)
  by_cases hc : 32 ≤ u
  · refine ⟨(k.1, va_up k.2 0 (k.2 0 + 1)), (r.1, va_up r.2.1 16 (r.2.1 16 + 1), r.2.2), ?_, fun _ => rfl, fun h => absurd (h32.mpr hc) h, ⟨hM.kh, hM.rh, hM.kn, hM.rn, e0, e16, hM.k1, hM.r1, hM.k6, hM.st, fun q h1 h2 => hM.pr q h1 (by omega)⟩, fun _ _ => rfl, fun i hi => up_ne hi, fun _ _ => rfl, fun i hi => up_ne hi, rfl⟩
    unfold f_Ma_keep
    rw [if_pos (h32k.mpr hc)]
  · have eu : (r.2.1 16).toNatClampNeg = u := by rw [hM.ru, o_nat (by omega)]
    have eu2 : (k.2 0).toNatClampNeg = u := by rw [hM.ku, o_nat (by omega)]
    refine ⟨(va_up k.1 1 (upd (k.1 1) u v), va_up k.2 0 (k.2 0 + 1)), (va_up r.1 36 (upd (r.1 36) u v), va_up r.2.1 16 (r.2.1 16 + 1), r.2.2), ?_, fun h => absurd (h32.mp h) hc, fun _ => ⟨by rw [hM.ru]; exact o_inb (by omega) (by omega), by rw [eu]⟩, ⟨hM.kh, hM.rh, hM.kn, hM.rn, e0, e16, hM.k1, hM.r1, hM.k6, hM.st, fun q h1 h2 => ?_⟩, fun i hi => up_ne hi, fun i hi => up_ne hi, fun i hi => up_ne hi, fun i hi => up_ne hi, rfl⟩
    · unfold f_Ma_keep
      rw [if_neg (fun h => hc (h32k.mp h)), if_pos (show inb (k.2 0) 32 = true by rw [hM.ku]; exact o_inb (by omega) (by omega)), eu2]
    · show upd (k.1 1) u v q = upd (r.1 36) u v q
      by_cases e : q = u
      · rw [e, ud_eq, ud_eq]
      · rw [ud_ne e, ud_ne e]; exact hM.pr q h1 (by omega)
end
/-! what the machines have beside: the variables of each level, where each level returns to -/
abbrev Lev : Type := Nat × Nat
section
variable (An : Nat → Nat → Ant) (Dc : Nat → Nat → Prop) (sl : Nat → Nat)
def SL (k : DS) (r : RS) : List Lev → Prop
  | [] => True
  | (p, i) :: L => (∀ q, (An p i).2.2 q → Dc p q → k.1 2 (240 * L.length + q) = r.1 33 (96 * L.length + sl q)) ∧ SL k r L
def RT (k : DS) (r : RS) : List Lev → Prop
  | [] => r.1 34 0 = -1
  | (_, i) :: L => k.1 4 (L.length + 1) = Int32.ofNat i ∧ r.1 34 (L.length + 1) = Int32.ofNat i ∧ RT k r L
def bs : List Lev → Nat
  | [] => 0
  | (p, i) :: L => ((An p i).1 - 1) + bs L
def wt (n : Nat) : List Lev → Nat
  | [] => 0
  | (p, i) :: L => (n - i) + 240 * (An p i).2.1 + 1 + wt n L
end
theorem SL.cg {An : Nat → Nat → Ant} {Dc : Nat → Nat → Prop} {sl : Nat → Nat} {k k' : DS} {r r' : RS} : ∀ {L : List Lev}, SL An Dc sl k r L → (∀ a, a < 240 * L.length → k'.1 2 a = k.1 2 a) → (∀ a, a < 96 * L.length → r'.1 33 a = r.1 33 a) → (∀ p q, Dc p q → q < 240 ∧ sl q < 96) → SL An Dc sl k' r' L
  | [], _, _, _, _ => trivial
  | (p, i) :: L, ⟨a, b⟩, h1, h2, h3 => by
    rw [List.length_cons] at h1 h2
    refine ⟨fun q hq hd => ?_, SL.cg b (fun a ha => h1 a (by omega)) (fun a ha => h2 a (by omega)) h3⟩
    obtain ⟨z1, z2⟩ := h3 p q hd
    rw [h1 _ (by omega), h2 _ (by omega)]
    exact a q hq hd
theorem RT.cg {k k' : DS} {r r' : RS} : ∀ {L : List Lev}, RT k r L → (∀ a, a ≤ L.length → k'.1 4 a = k.1 4 a) → (∀ a, a ≤ L.length → r'.1 34 a = r.1 34 a) → RT k' r' L
  | [], h, _, h2 => (h2 0 (Nat.le_refl _)).trans h
  | (p, i) :: L, ⟨a, b, c⟩, h1, h2 => by
    rw [List.length_cons] at h1 h2
    exact ⟨(h1 _ (Nat.le_refl _)).trans a, (h2 _ (Nat.le_refl _)).trans b, RT.cg c (fun a ha => h1 a (by omega)) (fun a ha => h2 a (by omega))⟩
