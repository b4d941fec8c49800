/-! the two machines keep step -/
def Wd (An : Nat → Nat → Ant) (Dc : Nat → Nat → Prop) (sl zb pq : Nat → Nat) (Vs : Nat → Nat → Nat → Prop) (Rp Gp : Nat → Nat → Nat) (P : Nat) (b np ht : Nat → Nat) (C : Cds) (d : DS) : Prop :=
  (P ≤ 4) ∧
  (∀ p, p < P → b p < b (p + 1)) ∧
  (∀ p, p < P → b (p + 1) ≤ C.length) ∧
  (C.length ≤ 240) ∧
  (∀ p i, p < P → b p ≤ i → i < b (p + 1) → (An p i).1 ≤ 118 ∧ (An p i).2.1 ≤ 4 ∧ Ins (Vs p) (Rp p) (Gp p) (An p) (b p) (b (p + 1) - 1) i (C.getD i (0, 0))) ∧
  (∀ p, p < P → C.getD (b (p + 1) - 1) (0, 0) = (8, 0)) ∧
  (∀ p, p < P → (An p (b p)).1 = 0 ∧ (An p (b p)).2.1 = 0 ∧ ∀ q, (An p (b p)).2.2 q → Dc p q → ∃ j, j < np p ∧ q = ht p + 2 + 2 * j) ∧
  (∀ p, p < P → np p ≤ 95 ∧ ∀ j, j < np p → sl (ht p + 2 + 2 * j) = j ∧ ht p + 2 + 2 * j < 240) ∧
  (CD d C) ∧
  (∀ p, p < P → d.1 9 p = Int32.ofNat (ht p) ∧ d.1 10 p = Int32.ofNat (np p) ∧ d.1 11 p = Int32.ofNat (b p)) ∧
  (∀ p t, p < P → Rp p t = 3 ∨ Rp p t = 4 ∨ Rp p t = 5 → ∃ q, zb t = q + 1 ∧ d.1 14 t = Int32.ofNat q ∧ Dc p q ∧ (Rp p t = 5 → Vs p q t) ∧ (Rp p t = 3 → q = t)) ∧
  (∀ p t, p < P → Rp p t = 6 → Gp p t ≤ 118 → ∃ g, g < P ∧ f_Fn_find (d.1 5 t) d = some (Int32.ofNat g, d) ∧ pq (zb t - 1) = g ∧ Gp p t = np g) ∧
  (∀ p q q', Dc p q → Dc p q' → sl q = sl q' → q = q') ∧
  (∀ p q, Dc p q → q < 240 ∧ sl q < 96)
theorem Wd.P4 {An : Nat → Nat → Ant} {Dc : Nat → Nat → Prop} {sl zb pq : Nat → Nat} {Vs : Nat → Nat → Nat → Prop} {Rp Gp : Nat → Nat → Nat} {P : Nat} {b np ht : Nat → Nat} {C : Cds} {d : DS} (hZ : Wd An Dc sl zb pq Vs Rp Gp P b np ht C d) : P ≤ 4 := hZ.1
theorem Wd.bm {An : Nat → Nat → Ant} {Dc : Nat → Nat → Prop} {sl zb pq : Nat → Nat} {Vs : Nat → Nat → Nat → Prop} {Rp Gp : Nat → Nat → Nat} {P : Nat} {b np ht : Nat → Nat} {C : Cds} {d : DS} (hZ : Wd An Dc sl zb pq Vs Rp Gp P b np ht C d) : ∀ p, p < P → b p < b (p + 1) := hZ.2.1
theorem Wd.bC {An : Nat → Nat → Ant} {Dc : Nat → Nat → Prop} {sl zb pq : Nat → Nat} {Vs : Nat → Nat → Nat → Prop} {Rp Gp : Nat → Nat → Nat} {P : Nat} {b np ht : Nat → Nat} {C : Cds} {d : DS} (hZ : Wd An Dc sl zb pq Vs Rp Gp P b np ht C d) : ∀ p, p < P → b (p + 1) ≤ C.length := hZ.2.2.1
theorem Wd.C240 {An : Nat → Nat → Ant} {Dc : Nat → Nat → Prop} {sl zb pq : Nat → Nat} {Vs : Nat → Nat → Nat → Prop} {Rp Gp : Nat → Nat → Nat} {P : Nat} {b np ht : Nat → Nat} {C : Cds} {d : DS} (hZ : Wd An Dc sl zb pq Vs Rp Gp P b np ht C d) : C.length ≤ 240 := hZ.2.2.2.1
theorem Wd.ins {An : Nat → Nat → Ant} {Dc : Nat → Nat → Prop} {sl zb pq : Nat → Nat} {Vs : Nat → Nat → Nat → Prop} {Rp Gp : Nat → Nat → Nat} {P : Nat} {b np ht : Nat → Nat} {C : Cds} {d : DS} (hZ : Wd An Dc sl zb pq Vs Rp Gp P b np ht C d) : ∀ p i, p < P → b p ≤ i → i < b (p + 1) → (An p i).1 ≤ 118 ∧ (An p i).2.1 ≤ 4 ∧ Ins (Vs p) (Rp p) (Gp p) (An p) (b p) (b (p + 1) - 1) i (C.getD i (0, 0)) := hZ.2.2.2.2.1
theorem Wd.lst {An : Nat → Nat → Ant} {Dc : Nat → Nat → Prop} {sl zb pq : Nat → Nat} {Vs : Nat → Nat → Nat → Prop} {Rp Gp : Nat → Nat → Nat} {P : Nat} {b np ht : Nat → Nat} {C : Cds} {d : DS} (hZ : Wd An Dc sl zb pq Vs Rp Gp P b np ht C d) : ∀ p, p < P → C.getD (b (p + 1) - 1) (0, 0) = (8, 0) := hZ.2.2.2.2.2.1
theorem Wd.ent {An : Nat → Nat → Ant} {Dc : Nat → Nat → Prop} {sl zb pq : Nat → Nat} {Vs : Nat → Nat → Nat → Prop} {Rp Gp : Nat → Nat → Nat} {P : Nat} {b np ht : Nat → Nat} {C : Cds} {d : DS} (hZ : Wd An Dc sl zb pq Vs Rp Gp P b np ht C d) : ∀ p, p < P → (An p (b p)).1 = 0 ∧ (An p (b p)).2.1 = 0 ∧ ∀ q, (An p (b p)).2.2 q → Dc p q → ∃ j, j < np p ∧ q = ht p + 2 + 2 * j := hZ.2.2.2.2.2.2.1
theorem Wd.np1 {An : Nat → Nat → Ant} {Dc : Nat → Nat → Prop} {sl zb pq : Nat → Nat} {Vs : Nat → Nat → Nat → Prop} {Rp Gp : Nat → Nat → Nat} {P : Nat} {b np ht : Nat → Nat} {C : Cds} {d : DS} (hZ : Wd An Dc sl zb pq Vs Rp Gp P b np ht C d) : ∀ p, p < P → np p ≤ 95 ∧ ∀ j, j < np p → sl (ht p + 2 + 2 * j) = j ∧ ht p + 2 + 2 * j < 240 := hZ.2.2.2.2.2.2.2.1
theorem Wd.dc {An : Nat → Nat → Ant} {Dc : Nat → Nat → Prop} {sl zb pq : Nat → Nat} {Vs : Nat → Nat → Nat → Prop} {Rp Gp : Nat → Nat → Nat} {P : Nat} {b np ht : Nat → Nat} {C : Cds} {d : DS} (hZ : Wd An Dc sl zb pq Vs Rp Gp P b np ht C d) : CD d C := hZ.2.2.2.2.2.2.2.2.1
theorem Wd.d9 {An : Nat → Nat → Ant} {Dc : Nat → Nat → Prop} {sl zb pq : Nat → Nat} {Vs : Nat → Nat → Nat → Prop} {Rp Gp : Nat → Nat → Nat} {P : Nat} {b np ht : Nat → Nat} {C : Cds} {d : DS} (hZ : Wd An Dc sl zb pq Vs Rp Gp P b np ht C d) : ∀ p, p < P → d.1 9 p = Int32.ofNat (ht p) ∧ d.1 10 p = Int32.ofNat (np p) ∧ d.1 11 p = Int32.ofNat (b p) := hZ.2.2.2.2.2.2.2.2.2.1
theorem Wd.use {An : Nat → Nat → Ant} {Dc : Nat → Nat → Prop} {sl zb pq : Nat → Nat} {Vs : Nat → Nat → Nat → Prop} {Rp Gp : Nat → Nat → Nat} {P : Nat} {b np ht : Nat → Nat} {C : Cds} {d : DS} (hZ : Wd An Dc sl zb pq Vs Rp Gp P b np ht C d) : ∀ p t, p < P → Rp p t = 3 ∨ Rp p t = 4 ∨ Rp p t = 5 → ∃ q, zb t = q + 1 ∧ d.1 14 t = Int32.ofNat q ∧ Dc p q ∧ (Rp p t = 5 → Vs p q t) ∧ (Rp p t = 3 → q = t) := hZ.2.2.2.2.2.2.2.2.2.2.1
theorem Wd.cal {An : Nat → Nat → Ant} {Dc : Nat → Nat → Prop} {sl zb pq : Nat → Nat} {Vs : Nat → Nat → Nat → Prop} {Rp Gp : Nat → Nat → Nat} {P : Nat} {b np ht : Nat → Nat} {C : Cds} {d : DS} (hZ : Wd An Dc sl zb pq Vs Rp Gp P b np ht C d) : ∀ p t, p < P → Rp p t = 6 → Gp p t ≤ 118 → ∃ g, g < P ∧ f_Fn_find (d.1 5 t) d = some (Int32.ofNat g, d) ∧ pq (zb t - 1) = g ∧ Gp p t = np g := hZ.2.2.2.2.2.2.2.2.2.2.2.1
theorem Wd.inj {An : Nat → Nat → Ant} {Dc : Nat → Nat → Prop} {sl zb pq : Nat → Nat} {Vs : Nat → Nat → Nat → Prop} {Rp Gp : Nat → Nat → Nat} {P : Nat} {b np ht : Nat → Nat} {C : Cds} {d : DS} (hZ : Wd An Dc sl zb pq Vs Rp Gp P b np ht C d) : ∀ p q q', Dc p q → Dc p q' → sl q = sl q' → q = q' := hZ.2.2.2.2.2.2.2.2.2.2.2.2.1
theorem Wd.dlt {An : Nat → Nat → Ant} {Dc : Nat → Nat → Prop} {sl zb pq : Nat → Nat} {Vs : Nat → Nat → Nat → Prop} {Rp Gp : Nat → Nat → Nat} {P : Nat} {b np ht : Nat → Nat} {C : Cds} {d : DS} (hZ : Wd An Dc sl zb pq Vs Rp Gp P b np ht C d) : ∀ p q, Dc p q → q < 240 ∧ sl q < 96 := hZ.2.2.2.2.2.2.2.2.2.2.2.2.2
def Ms (sl zb pq : Nat → Nat) (P : Nat) (b np : Nat → Nat) (C : Cds) (r : RS) : Prop :=
  (MCd zb sl pq r C) ∧
  (∀ p, p < P → r.1 26 p = Int32.ofNat (b p)) ∧
  (∀ p, p < P → r.1 19 p = Int32.ofNat (np p))
theorem Ms.cd {sl zb pq : Nat → Nat} {P : Nat} {b np : Nat → Nat} {C : Cds} {r : RS} (hZ : Ms sl zb pq P b np C r) : MCd zb sl pq r C := hZ.1
theorem Ms.e26 {sl zb pq : Nat → Nat} {P : Nat} {b np : Nat → Nat} {C : Cds} {r : RS} (hZ : Ms sl zb pq P b np C r) : ∀ p, p < P → r.1 26 p = Int32.ofNat (b p) := hZ.2.1
theorem Ms.e19 {sl zb pq : Nat → Nat} {P : Nat} {b np : Nat → Nat} {C : Cds} {r : RS} (hZ : Ms sl zb pq P b np C r) : ∀ p, p < P → r.1 19 p = Int32.ofNat (np p) := hZ.2.2
def FrXm (r r' : RS) : Prop := (∀ i, i ≠ 33 → i ≠ 34 → i ≠ 35 → i ≠ 36 → r'.1 i = r.1 i) ∧ (∀ i, i < 13 ∨ 18 ≤ i → r'.2.1 i = r.2.1 i) ∧ r'.2.2 = r.2.2
theorem FrXm.rf {r : RS} : FrXm r r := ⟨fun _ _ _ _ _ => rfl, fun _ _ => rfl, rfl⟩
theorem FrXm.tr {r r' r2 : RS} (h : FrXm r r') (h2 : FrXm r' r2) : FrXm r r2 := ⟨fun i a b c e => (h2.1 i a b c e).trans (h.1 i a b c e), fun i a => (h2.2.1 i a).trans (h.2.1 i a), h2.2.2.trans h.2.2⟩
theorem Ms.cg {sl zb pq : Nat → Nat} {P : Nat} {b np : Nat → Nat} {C : Cds} {r r' : RS} (h : Ms sl zb pq P b np C r) (hf : FrXm r r') : Ms sl zb pq P b np C r' := ⟨h.cd.cg (hf.2.1 11 (by omega)) (hf.1 24 (by decide) (by decide) (by decide) (by decide)) (hf.1 25 (by decide) (by decide) (by decide) (by decide)), fun p hp => by rw [hf.1 26 (by decide) (by decide) (by decide) (by decide)]; exact h.e26 p hp, fun p hp => by rw [hf.1 19 (by decide) (by decide) (by decide) (by decide)]; exact h.e19 p hp⟩
theorem pm_sub {a : Nat} (h : a < 90000) : Int32.ofNat a - 1 = pm a := by
  cases a with
  | zero => rfl
  | succ a => exact pop12 (by omega)
section
variable {An : Nat → Nat → Ant} {Dc : Nat → Nat → Prop} {sl zb pq : Nat → Nat} {Vs : Nat → Nat → Nat → Prop} {Rp Gp : Nat → Nat → Nat} {P : Nat} {b np ht : Nat → Nat} {C : Cds} {d : DS}
def cr (n : Nat) : Nat := (300 - n) * 241
theorem cr_s {n : Nat} (h : n < 300) : cr (n + 1) + 241 = cr n := by
  unfold cr
  omega
theorem co_in {k : DS} {n : Nat} (h4 : k.2 4 = Int32.ofNat n) (hn : n < 300) : f_Ma_countOne k = some (k.1, va_up k.2 4 (Int32.ofNat (n + 1))) := by
  unfold f_Ma_countOne
  rw [h4, if_pos (show Int32.ofNat n < 300 by rw [show (300 : Int32) = Int32.ofNat 300 from rfl, o_lt (by omega) (by omega)]; exact hn), o_p1]
theorem co_out {k : DS} {n : Nat} (h4 : k.2 4 = Int32.ofNat n) (hn : n = 300) : f_Ma_countOne k = some (k.1, va_up k.2 6 1) := by
  unfold f_Ma_countOne
  rw [h4, if_neg (show ¬ Int32.ofNat n < 300 by rw [show (300 : Int32) = Int32.ofNat 300 from rfl, o_lt (by omega) (by omega)]; omega)]
theorem cn_0 {r : RS} {n : Nat} (h15 : r.2.1 15 = Int32.ofNat n) (hn : n ≤ 300) : f_Mo_counts 0 r = if n = 300 then some (1, r) else some (0, (r.1, va_up r.2.1 15 (Int32.ofNat (n + 1)), r.2.2)) := by
  have e : (r.2.1 15 = 300) = (n = 300) := by rw [h15]; exact o_eq (b := 300) (by omega) (by omega)
  unfold f_Mo_counts
  rw [if_pos rfl]
  by_cases h : n = 300
  · rw [if_pos (e.mpr h), if_pos h]
  · rw [if_neg (fun w => h (e.mp w)), if_neg h, h15, o_p1]
theorem cn_1 {r : RS} {n D : Nat} (h14 : r.2.1 14 = Int32.ofNat D) (hD : D ≤ 8) (h15 : r.2.1 15 = Int32.ofNat n) (hn : n ≤ 300) : f_Mo_counts 1 r = if D = 8 then some (2, r) else if n = 300 then some (1, r) else some (0, (r.1, va_up r.2.1 15 (Int32.ofNat (n + 1)), r.2.2)) := by
  have e : (r.2.1 15 = 300) = (n = 300) := by rw [h15]; exact o_eq (b := 300) (by omega) (by omega)
  have e2 : (r.2.1 14 = 8) = (D = 8) := by rw [h14]; exact o_eq (b := 8) (by omega) (by omega)
  unfold f_Mo_counts
  rw [if_neg (show ¬ (1 : Int32) = 0 by decide)]
  by_cases h8 : D = 8
  · rw [if_pos (e2.mpr h8), if_pos h8]
  · rw [if_neg (fun w => h8 (e2.mp w)), if_neg h8]
    by_cases h : n = 300
    · rw [if_pos (e.mpr h), if_pos h]
    · rw [if_neg (fun w => h (e.mp w)), if_neg h, h15, o_p1]
theorem be_deep {k : DS} {D : Nat} {g : Int32} (h3 : k.2 3 = Int32.ofNat D) (hD : 8 ≤ D) (hD2 : D ≤ 8) : f_Ma_begin g k d = some ((k.1, va_up k.2 6 2), d) := by
  have e : ¬ k.2 3 < 8 := by
    rw [h3, show (8 : Int32) = Int32.ofNat 8 from rfl, o_lt (by omega) (by omega)]
    omega
  unfold f_Ma_begin
  rw [if_neg e]
theorem be_out {k : DS} {D n : Nat} {g : Int32} (h3 : k.2 3 = Int32.ofNat D) (hD : D < 8) (h4 : k.2 4 = Int32.ofNat n) (hn : n = 300) : f_Ma_begin g k d = some ((k.1, va_up k.2 6 1), d) := by
  have e : k.2 3 < 8 := by
    rw [h3, show (8 : Int32) = Int32.ofNat 8 from rfl, o_lt (by omega) (by omega)]
    exact hD
  unfold f_Ma_begin
  rw [if_pos e, co_out h4 hn, Option.bind_some]
  dsimp only
  rw [if_neg (show ¬ (va_up k.2 6 1) 6 = -1 by rw [up_eq]; decide)]
theorem be_in {k : DS} {D n g n0 : Nat} (h3 : k.2 3 = Int32.ofNat D) (hD : D < 8) (h4 : k.2 4 = Int32.ofNat n) (hn : n < 300) (h6 : k.2 6 = -1) {w : Int32} (h5 : k.2 5 = w) (hg : g < 4) (h10 : d.1 10 g = Int32.ofNat n0) (hn0 : n0 < 1000) : f_Ma_begin (Int32.ofNat g) k d = lpN BMa_begin_60 100000 (Int32.ofNat g, pm n0, (va_up k.1 4 (upd (k.1 4) D w), va_up (va_up k.2 4 (Int32.ofNat (n + 1))) 3 (Int32.ofNat (D + 1))), d) := by
  have e : k.2 3 < 8 := by
    rw [h3, show (8 : Int32) = Int32.ofNat 8 from rfl, o_lt (by omega) (by omega)]
    exact hD
  have k3 : (va_up k.2 4 (Int32.ofNat (n + 1))) 3 = Int32.ofNat D := h3
  have k5 : (va_up k.2 4 (Int32.ofNat (n + 1))) 5 = w := h5
  have k6 : (va_up k.2 4 (Int32.ofNat (n + 1))) 6 = -1 := h6
  unfold f_Ma_begin
  generalize lpN BMa_begin_60 100000 = G
  rw [if_pos e, co_in h4 hn, Option.bind_some]
  dsimp only
  simp only [k6, k3, k5, o_inb hD (show D < 2147483648 by omega), o_inb hg (show g < 2147483648 by omega), ↓reduceIte, o_nat (show D < 2147483648 by omega), o_nat (show g < 2147483648 by omega), h10, pm_sub (show n0 < 90000 by omega), o_p1]
theorem un_in {r : RS} {D g n0 : Nat} {x2 : Int32} (h14 : r.2.1 14 = Int32.ofNat D) (hD : D < 9) (hg : g < 122) (h19 : r.1 19 g = Int32.ofNat n0) (hn0 : n0 < 1000) : f_Mo_uncounted (Int32.ofNat g) x2 r = lpN BMo_uncounted_19 100000 (Int32.ofNat g, x2, pm n0, (va_up r.1 34 (upd (r.1 34) D x2), r.2.1, r.2.2)) := by
  unfold f_Mo_uncounted
  generalize lpN BMo_uncounted_19 100000 = G
  rw [h14, if_pos (o_inb hD (by omega)), if_pos (o_inb hg (by omega)), o_nat (by omega), o_nat (by omega), h19, pm_sub (by omega)]
theorem en_0 {k : DS} {v : Int32} (h3 : k.2 3 = Int32.ofNat (0 + 1)) : f_Ma_end v k = some (k.1, va_up (va_up (va_up k.2 3 (Int32.ofNat 0)) 1 v) 6 0) := by
  unfold f_Ma_end
  simp only [h3, pop12 (show 0 < 90000 by omega)]
  rw [if_pos (show Int32.ofNat 0 = 0 from rfl)]
theorem en_s {k : DS} {v : Int32} {D : Nat} (h3 : k.2 3 = Int32.ofNat (D + 1)) (h0 : 0 < D) (hD : D < 8) : f_Ma_end v k = f_Ma_push v (k.1, va_up (va_up k.2 3 (Int32.ofNat D)) 5 (k.1 4 D)) := by
  have hn : (Int32.ofNat D = 0) = False := (o_eq (b := 0) (by omega) (by omega)).trans (eq_false (by omega))
  unfold f_Ma_end
  simp only [h3, pop12 (show D < 90000 by omega), hn, ↓reduceIte, o_inb hD (show D < 2147483648 by omega), o_nat (show D < 2147483648 by omega)]
  cases f_Ma_push v (k.1, va_up (va_up k.2 3 (Int32.ofNat D)) 5 (k.1 4 D)) <;> rfl
theorem bg_end {K : Int32 × Int32 × DS × DS → Option (DS × DS)} {g : Nat} {k : DS} (hg : g < 4) : BMa_begin_60 K (Int32.ofNat g, pm 0, k, d) = some ((k.1, va_up k.2 5 (d.1 11 g)), d) := by
  unfold BMa_begin_60
  dsimp only
  rw [if_pos (show pm 0 < 0 by decide), if_pos (o_inb hg (by omega)), o_nat (by omega)]
theorem bg_one {K : Int32 × Int32 × DS × DS → Option (DS × DS)} {g w a : Nat} {k k1 : DS} {v : Int32} (hg : g < 4) (ha : a < 90000) (hs : (k.2 3 - 1) * 240 + (d.1 9 g + 2 + 2 * Int32.ofNat a) = Int32.ofNat w) (hw : w < 1920) (hp : f_Ma_pop k = some (v, k1)) : BMa_begin_60 K (Int32.ofNat g, pm (a + 1), k, d) = K (Int32.ofNat g, pm a, (va_up k1.1 2 (upd (k1.1 2) w v), k1.2), d) := by
  have hn0 : ¬ pm (a + 1) < 0 := by
    show ¬ Int32.ofNat a < 0
    rw [show (0 : Int32) = Int32.ofNat 0 from rfl, o_lt (by omega) (by omega)]
    omega
  have hs' : (k.2 3 - 1) * 240 + (d.1 9 g + 2 + 2 * pm (a + 1)) = Int32.ofNat w := hs
  have e1 : pm (a + 1) - 1 = pm a := pm_sub ha
  unfold BMa_begin_60 bindv f_Ma_slot
  dsimp only
  rw [if_neg hn0, if_pos (o_inb hg (by omega)), o_nat (by omega), Option.bind_some]
  dsimp only
  rw [hp, Option.bind_some, hs', if_pos (o_inb hw (by omega)), o_nat (by omega), e1]
theorem un_end {K : Int32 × Int32 × Int32 × RS → Option (Int32 × RS)} {g : Nat} {x2 : Int32} {r : RS} (hg : g < 122) : BMo_uncounted_19 K (Int32.ofNat g, x2, pm 0, r) = some (r.1 26 g, (r.1, va_up r.2.1 14 (r.2.1 14 + 1), r.2.2)) := by
  unfold BMo_uncounted_19
  dsimp only
  rw [if_pos (show pm 0 < 0 by decide), if_pos (o_inb hg (by omega)), o_nat (by omega)]
theorem un_one {K : Int32 × Int32 × Int32 × RS → Option (Int32 × RS)} {g w a : Nat} {x2 v : Int32} {r r1 : RS} (ha : a < 90000) (hs : 96 * r.2.1 14 + Int32.ofNat a = Int32.ofNat w) (hw : w < 768) (hp : f_Mo_pop r = some (v, r1)) : BMo_uncounted_19 K (Int32.ofNat g, x2, pm (a + 1), r) = K (Int32.ofNat g, x2, pm a, (va_up r1.1 33 (upd (r1.1 33) w v), r1.2.1, r1.2.2)) := by
  have hn0 : ¬ pm (a + 1) < 0 := by
    show ¬ Int32.ofNat a < 0
    rw [show (0 : Int32) = Int32.ofNat 0 from rfl, o_lt (by omega) (by omega)]
    omega
  have hs' : 96 * r.2.1 14 + pm (a + 1) = Int32.ofNat w := hs
  have e1 : pm (a + 1) - 1 = pm a := pm_sub ha
  unfold BMo_uncounted_19
  dsimp only
  rw [if_neg hn0, hp, Option.bind_some, hs', if_pos (o_inb hw (by omega)), o_nat (by omega), e1]
theorem po_m {r : RS} {h : Nat} (h13 : r.2.1 13 = Int32.ofNat (h + 1)) (hh : h < 2000) : f_Mo_pop r = some (r.1 35 h, (r.1, va_up r.2.1 13 (Int32.ofNat h), r.2.2)) := by
  unfold f_Mo_pop
  rw [h13, pop12 (by omega), if_pos (o_inb hh (by omega)), o_nat (by omega)]
theorem mx_end {K : Int32 × Int32 × Int32 × RS → Option (Int32 × RS)} {x1 x2 v : Int32} {r r1 : RS} (hp : f_Mo_pop r = some (v, r1)) : BMo_execute_74 K (x1, x2, -1, r) = some (0, (r1.1, va_up r1.2.1 17 v, r1.2.2)) := by
  unfold BMo_execute_74
  dsimp only
  rw [if_pos (show (-1 : Int32) < 0 by decide), hp, Option.bind_some]
theorem par_lp (hW : Wd An Dc sl zb pq Vs Rp Gp P b np ht C d) {g D : Nat} (hg : g < P) (hD : D ≤ 7) {x2 : Int32} : ∀ (a : Nat) (k : DS) (r : RS) (h n u M M' : Nat), a ≤ np g → Mc k r (h + a) n u → h + a < 960 → k.2 3 = Int32.ofNat (D + 1) → r.2.1 14 = Int32.ofNat D → Ms sl zb pq P b np C r → ∃ (k' : DS) (r' : RS), lpN BMa_begin_60 (M + a + 1) (Int32.ofNat g, pm a, k, d) = some ((k'.1, va_up k'.2 5 (Int32.ofNat (b g))), d) ∧ lpN BMo_uncounted_19 (M' + a + 1) (Int32.ofNat g, x2, pm a, r) = some (Int32.ofNat (b g), (r'.1, va_up r'.2.1 14 (r'.2.1 14 + 1), r'.2.2)) ∧ Mc k' r' h n u ∧ (∀ i, i ≠ 2 → k'.1 i = k.1 i) ∧ (∀ i, i ≠ 2 → k'.2 i = k.2 i) ∧ (∀ i, i ≠ 33 → r'.1 i = r.1 i) ∧ (∀ i, i ≠ 13 → r'.2.1 i = r.2.1 i) ∧ r'.2.2 = r.2.2 ∧ (∀ x, x < 240 * D → k'.1 2 x = k.1 2 x) ∧ (∀ x, x < 96 * D → r'.1 33 x = r.1 33 x) ∧ (∀ j, j < a → k'.1 2 (240 * D + (ht g + 2 + 2 * j)) = r'.1 33 (96 * D + j)) ∧ ∀ j, a ≤ j → j < np g → k'.1 2 (240 * D + (ht g + 2 + 2 * j)) = k.1 2 (240 * D + (ht g + 2 + 2 * j)) ∧ r'.1 33 (96 * D + j) = r.1 33 (96 * D + j) := by
  have hP4 := hW.P4
  obtain ⟨e9, e10, e11⟩ := hW.d9 g hg
  obtain ⟨hnp, hnj⟩ := hW.np1 g hg
  have hb240 : b g ≤ 240 := by
    have := hW.bm g hg
    have := hW.bC g hg
    have := hW.C240
    omega
  have ig : inb (Int32.ofNat g) 4 = true := o_inb (by omega) (by omega)
  have ig2 : inb (Int32.ofNat g) 122 = true := o_inb (by omega) (by omega)
  intro a
  induction a with
  | zero =>
    intro k r h n u M M' ha hM hh h3 h14 hs
    refine ⟨k, r, ?_, ?_, hM, fun _ _ => rfl, fun _ _ => rfl, fun _ _ => rfl, fun _ _ => rfl, rfl, fun _ _ => rfl, fun _ _ => rfl, fun j hj => absurd hj (Nat.not_lt_zero _), fun _ _ _ => ⟨rfl, rfl⟩⟩
    · rw [Nat.add_zero, lp_succ, bg_end (by omega), e11]
    · rw [Nat.add_zero, lp_succ, un_end (by omega), hs.e26 g hg]
  | succ a ih =>
    intro k r h n u M M' ha hM hh h3 h14 hs
    obtain ⟨j1, j2⟩ := hnj a (by omega)
    have hM' : Mc k r ((h + a) + 1) n u := hM
    obtain ⟨q1, q2, q3⟩ := hM'.pop (by omega)
    have es : (k.2 3 - 1) * 240 + (d.1 9 g + 2 + 2 * Int32.ofNat a) = Int32.ofNat (240 * D + (ht g + 2 + 2 * a)) := by
      rw [h3, e9, pop12 (by omega), show (240 : Int32) = Int32.ofNat 240 from rfl, o_mul, show (2 : Int32) = Int32.ofNat 2 from rfl, o_mul, o_add, o_add, o_add, Nat.mul_comm D 240]
    have em : 96 * r.2.1 14 + Int32.ofNat a = Int32.ofNat (96 * D + a) := by
      rw [h14, show (96 : Int32) = Int32.ofNat 96 from rfl, o_mul, o_add]
    -- the next pair
    have hM1 : Mc (va_up k.1 2 (upd (k.1 2) (240 * D + (ht g + 2 + 2 * a)) (k.1 3 (h + a))), va_up k.2 2 (Int32.ofNat (h + a))) (va_up r.1 33 (upd (r.1 33) (96 * D + a) (k.1 3 (h + a))), va_up r.2.1 13 (Int32.ofNat (h + a)), r.2.2) (h + a) n u := q3.slot
    have hfx : FrXm r (va_up r.1 33 (upd (r.1 33) (96 * D + a) (k.1 3 (h + a))), va_up r.2.1 13 (Int32.ofNat (h + a)), r.2.2) := ⟨fun i h1 _ _ _ => up_ne h1, fun i h1 => up_ne (by omega), rfl⟩
    obtain ⟨k', r', g1, g2, g3, g4, g5, g6, g7, g8, g9, g10, g11, g12⟩ := ih _ _ h n u M M' (by omega) hM1 (by omega) h3 h14 (hs.cg hfx)
    refine ⟨k', r', ?_, ?_, g3, fun i hi => (g4 i hi).trans (up_ne hi), fun i hi => (g5 i hi).trans (up_ne hi), fun i hi => (g6 i hi).trans (up_ne hi), fun i hi => (g7 i hi).trans (up_ne hi), g8, fun x hx => ?_, fun x hx => ?_, fun j hj => ?_, fun j hj1 hj2 => ?_⟩
    · rw [← g1, show M + (a + 1) + 1 = (M + a + 1) + 1 by omega, lp_succ]
      rw [bg_one (by omega) (by omega) es (by omega) q1]
    · rw [← g2, show M' + (a + 1) + 1 = (M' + a + 1) + 1 by omega, lp_succ]
      rw [un_one (by omega) em (by omega) q2]
    · rw [g9 x hx]
      show upd (k.1 2) _ _ x = _
      rw [ud_ne (by omega)]
    · rw [g10 x hx]
      show upd (r.1 33) _ _ x = _
      rw [ud_ne (by omega)]
    · by_cases e : j = a
      · obtain ⟨w1, w2⟩ := g12 a (Nat.le_refl _) (by omega)
        rw [e, w1, w2]
        show upd (k.1 2) _ _ _ = upd (r.1 33) _ _ _
        rw [ud_eq, ud_eq]
      · exact g11 j (by omega)
    · obtain ⟨w1, w2⟩ := g12 j (by omega) hj2
      rw [w1, w2]
      show upd (k.1 2) _ _ _ = _ ∧ upd (r.1 33) _ _ _ = _
      rw [ud_ne (by omega), ud_ne (by omega)]
      exact ⟨rfl, rfl⟩
end
def Ls (An : Nat → Nat → Ant) (Dc : Nat → Nat → Prop) (sl zb pq : Nat → Nat) (P : Nat) (b np : Nat → Nat) (C : Cds) (k : DS) (r : RS) (p i : Nat) (L : List Lev) (n u : Nat) : Prop :=
  (Mc k r ((An p i).1 + bs An L) n u) ∧
  (k.2 3 = Int32.ofNat (L.length + 1)) ∧
  (r.2.1 14 = Int32.ofNat (L.length + 1)) ∧
  (k.2 5 = Int32.ofNat i) ∧
  (p < P) ∧
  (b p ≤ i) ∧
  (i < b (p + 1)) ∧
  (∀ y, y ∈ L → y.1 < P ∧ b y.1 ≤ y.2 ∧ y.2 < b (y.1 + 1) ∧ 1 ≤ (An y.1 y.2).1) ∧
  (SL An Dc sl k r ((p, i) :: L)) ∧
  (RT k r L) ∧
  (n ≤ 300) ∧
  (L.length ≤ 7) ∧
  (Ms sl zb pq P b np C r)
theorem Ls.mc {An : Nat → Nat → Ant} {Dc : Nat → Nat → Prop} {sl zb pq : Nat → Nat} {P : Nat} {b np : Nat → Nat} {C : Cds} {k : DS} {r : RS} {p i : Nat} {L : List Lev} {n u : Nat} (hZ : Ls An Dc sl zb pq P b np C k r p i L n u) : Mc k r ((An p i).1 + bs An L) n u := hZ.1
theorem Ls.kd {An : Nat → Nat → Ant} {Dc : Nat → Nat → Prop} {sl zb pq : Nat → Nat} {P : Nat} {b np : Nat → Nat} {C : Cds} {k : DS} {r : RS} {p i : Nat} {L : List Lev} {n u : Nat} (hZ : Ls An Dc sl zb pq P b np C k r p i L n u) : k.2 3 = Int32.ofNat (L.length + 1) := hZ.2.1
theorem Ls.rd {An : Nat → Nat → Ant} {Dc : Nat → Nat → Prop} {sl zb pq : Nat → Nat} {P : Nat} {b np : Nat → Nat} {C : Cds} {k : DS} {r : RS} {p i : Nat} {L : List Lev} {n u : Nat} (hZ : Ls An Dc sl zb pq P b np C k r p i L n u) : r.2.1 14 = Int32.ofNat (L.length + 1) := hZ.2.2.1
theorem Ls.pc {An : Nat → Nat → Ant} {Dc : Nat → Nat → Prop} {sl zb pq : Nat → Nat} {P : Nat} {b np : Nat → Nat} {C : Cds} {k : DS} {r : RS} {p i : Nat} {L : List Lev} {n u : Nat} (hZ : Ls An Dc sl zb pq P b np C k r p i L n u) : k.2 5 = Int32.ofNat i := hZ.2.2.2.1
theorem Ls.pP {An : Nat → Nat → Ant} {Dc : Nat → Nat → Prop} {sl zb pq : Nat → Nat} {P : Nat} {b np : Nat → Nat} {C : Cds} {k : DS} {r : RS} {p i : Nat} {L : List Lev} {n u : Nat} (hZ : Ls An Dc sl zb pq P b np C k r p i L n u) : p < P := hZ.2.2.2.2.1
theorem Ls.lo {An : Nat → Nat → Ant} {Dc : Nat → Nat → Prop} {sl zb pq : Nat → Nat} {P : Nat} {b np : Nat → Nat} {C : Cds} {k : DS} {r : RS} {p i : Nat} {L : List Lev} {n u : Nat} (hZ : Ls An Dc sl zb pq P b np C k r p i L n u) : b p ≤ i := hZ.2.2.2.2.2.1
theorem Ls.hi {An : Nat → Nat → Ant} {Dc : Nat → Nat → Prop} {sl zb pq : Nat → Nat} {P : Nat} {b np : Nat → Nat} {C : Cds} {k : DS} {r : RS} {p i : Nat} {L : List Lev} {n u : Nat} (hZ : Ls An Dc sl zb pq P b np C k r p i L n u) : i < b (p + 1) := hZ.2.2.2.2.2.2.1
theorem Ls.lv {An : Nat → Nat → Ant} {Dc : Nat → Nat → Prop} {sl zb pq : Nat → Nat} {P : Nat} {b np : Nat → Nat} {C : Cds} {k : DS} {r : RS} {p i : Nat} {L : List Lev} {n u : Nat} (hZ : Ls An Dc sl zb pq P b np C k r p i L n u) : ∀ y, y ∈ L → y.1 < P ∧ b y.1 ≤ y.2 ∧ y.2 < b (y.1 + 1) ∧ 1 ≤ (An y.1 y.2).1 := hZ.2.2.2.2.2.2.2.1
theorem Ls.sv {An : Nat → Nat → Ant} {Dc : Nat → Nat → Prop} {sl zb pq : Nat → Nat} {P : Nat} {b np : Nat → Nat} {C : Cds} {k : DS} {r : RS} {p i : Nat} {L : List Lev} {n u : Nat} (hZ : Ls An Dc sl zb pq P b np C k r p i L n u) : SL An Dc sl k r ((p, i) :: L) := hZ.2.2.2.2.2.2.2.2.1
theorem Ls.rt {An : Nat → Nat → Ant} {Dc : Nat → Nat → Prop} {sl zb pq : Nat → Nat} {P : Nat} {b np : Nat → Nat} {C : Cds} {k : DS} {r : RS} {p i : Nat} {L : List Lev} {n u : Nat} (hZ : Ls An Dc sl zb pq P b np C k r p i L n u) : RT k r L := hZ.2.2.2.2.2.2.2.2.2.1
theorem Ls.n3 {An : Nat → Nat → Ant} {Dc : Nat → Nat → Prop} {sl zb pq : Nat → Nat} {P : Nat} {b np : Nat → Nat} {C : Cds} {k : DS} {r : RS} {p i : Nat} {L : List Lev} {n u : Nat} (hZ : Ls An Dc sl zb pq P b np C k r p i L n u) : n ≤ 300 := hZ.2.2.2.2.2.2.2.2.2.2.1
theorem Ls.L7 {An : Nat → Nat → Ant} {Dc : Nat → Nat → Prop} {sl zb pq : Nat → Nat} {P : Nat} {b np : Nat → Nat} {C : Cds} {k : DS} {r : RS} {p i : Nat} {L : List Lev} {n u : Nat} (hZ : Ls An Dc sl zb pq P b np C k r p i L n u) : L.length ≤ 7 := hZ.2.2.2.2.2.2.2.2.2.2.2.1
theorem Ls.ms {An : Nat → Nat → Ant} {Dc : Nat → Nat → Prop} {sl zb pq : Nat → Nat} {P : Nat} {b np : Nat → Nat} {C : Cds} {k : DS} {r : RS} {p i : Nat} {L : List Lev} {n u : Nat} (hZ : Ls An Dc sl zb pq P b np C k r p i L n u) : Ms sl zb pq P b np C r := hZ.2.2.2.2.2.2.2.2.2.2.2.2
def EndR (k' : DS) (r r' : RS) : Prop := k'.2 0 = r'.2.1 16 ∧ k'.2 1 = r'.2.1 17 ∧ 0 ≤ (k'.2 0).toInt ∧ (∀ q : Nat, q < 32 → (q : Int) < (k'.2 0).toInt → k'.1 1 q = r'.1 36 q) ∧ FrXm r r'
theorem Mc.fin {k k' : DS} {r r' : RS} {h n u : Nat} (hM : Mc k r h n u) (hu : u < 1000000) (h0 : k'.2 0 = k.2 0) (h1 : k'.1 1 = k.1 1) (h2 : k'.2 1 = r'.2.1 17) (h3 : r'.2.1 16 = r.2.1 16) (h4 : r'.1 36 = r.1 36) (hf : FrXm r r') : EndR k' r r' := by
  refine ⟨by rw [h0, h3, hM.ku, hM.ru], h2, by rw [h0, hM.ku, onat (by omega)]; omega, fun q q1 q2 => ?_, hf⟩
  rw [h0, hM.ku, onat (by omega)] at q2
  rw [h1, h4]
  exact hM.pr q q1 (by omega)
section
variable {An : Nat → Nat → Ant} {Dc : Nat → Nat → Prop} {sl zb pq : Nat → Nat} {Vs : Nat → Nat → Nat → Prop} {Rp Gp : Nat → Nat → Nat} {P : Nat} {b np ht : Nat → Nat} {C : Cds} {d : DS}
theorem bs_le (hW : Wd An Dc sl zb pq Vs Rp Gp P b np ht C d) : ∀ {L : List Lev}, (∀ y, y ∈ L → y.1 < P ∧ b y.1 ≤ y.2 ∧ y.2 < b (y.1 + 1) ∧ 1 ≤ (An y.1 y.2).1) → bs An L ≤ 117 * L.length
  | [], _ => Nat.le_refl _
  | (p, i) :: L, h => by
    have ih := bs_le hW (L := L) (fun y hy => h y (List.mem_cons_of_mem _ hy))
    obtain ⟨h1, h2, h3, h4⟩ := h (p, i) (List.mem_cons_self ..)
    have := (hW.ins p i h1 h2 h3).1
    show (An p i).1 - 1 + bs An L ≤ 117 * (L.length + 1)
    omega
theorem SL.sub {k k2 : DS} {r r2 : RS} {p i i' : Nat} {L : List Lev} (h : SL An Dc sl k r ((p, i) :: L)) (he : ∀ q, (An p i').2.2 q → (An p i).2.2 q) (h1 : k2.1 2 = k.1 2) (h2 : r2.1 33 = r.1 33) (hd : ∀ p q, Dc p q → q < 240 ∧ sl q < 96) : SL An Dc sl k2 r2 ((p, i') :: L) := ⟨fun q hq hD => by rw [h1, h2]; exact h.1 q (he q hq) hD, h.2.cg (fun a _ => by rw [h1]) (fun a _ => by rw [h2]) hd⟩
theorem lock (hW : Wd An Dc sl zb pq Vs Rp Gp P b np ht C d) {a2 a3 x1 x2 : Int32} : ∀ (Φ : Nat) (k : DS) (r : RS) (p i : Nat) (L : List Lev) (n u s M M' : Nat), Ls An Dc sl zb pq P b np C k r p i L n u → cr n + wt An C.length ((p, i) :: L) ≤ Φ → u + Φ ≤ 200000 → s + Φ ≤ 900000 → ∃ (v : Int32) (k' : DS) (r' : RS), lpN BMa_perform_79 (M + Φ + 2) (a2, a3, Int32.ofNat s, k, d) = some (v, k', d) ∧ lpN BMo_execute_74 (M' + Φ + 2) (x1, x2, Int32.ofNat i, r) = some (v, r') ∧ EndR k' r r' := by
  intro Φ
  have hdlt := hW.dlt
  have hC240 := hW.C240
  induction Φ with
  | zero =>
    intro k r p i L n u s M M' hL hw
    have : wt An C.length ((p, i) :: L) = C.length - i + 240 * (An p i).2.1 + 1 + wt An C.length L := rfl
    omega
  | succ Φ ih =>
    intro k r p i L n u s M M' hL hw hu hs
    have hwt : wt An C.length ((p, i) :: L) = C.length - i + 240 * (An p i).2.1 + 1 + wt An C.length L := rfl
    obtain ⟨h118, hm4, hins⟩ := hW.ins p i hL.pP hL.lo hL.hi
    have hbC := hW.bC p hL.pP
    have hiC : i < C.length := by have := hL.hi; omega
    have hbs := bs_le hW hL.lv
    have hL7 := hL.L7
    obtain ⟨m24, m25⟩ := hL.ms.cd.2 i hiC
    have hlst := hW.lst p hL.pP
    have hdk : ∀ K, BMa_perform_79 K (a2, a3, Int32.ofNat s, k, d) = (f_Ma_advance (C.getD i (0, 0)).1 (C.getD i (0, 0)).2 k d).bind fun q => K (a2, a3, Int32.ofNat (s + 1), q.1, q.2) := fun K => dk_step hW.dc hiC hC240 hL.pc hL.mc.k6 (by omega)
    have hnx : (C.getD i (0, 0)).1 ≠ 8 → i + 1 < b (p + 1) := fun h => by
      by_cases e : i + 1 < b (p + 1)
      · exact e
      · have hi := hL.hi
        have e2 : b (p + 1) - 1 = i := by omega
        rw [e2] at hlst
        rw [hlst] at h
        exact absurd rfl h
    have hpc1 : k.2 5 + 1 = Int32.ofNat (i + 1) := by rw [hL.pc, o_p1]
    rw [show M + (Φ + 1) + 2 = (M + Φ + 2) + 1 by omega, show M' + (Φ + 1) + 2 = (M' + Φ + 2) + 1 by omega, lp_succ, lp_succ]
    rw [hdk]
    clear hdk
    -- go on with the next order
    have go : ∀ (k2 : DS) (r2 : RS) (p2 i2 : Nat) (L2 : List Lev) (n2 u2 : Nat), Ls An Dc sl zb pq P b np C k2 r2 p2 i2 L2 n2 u2 → cr n2 + wt An C.length ((p2, i2) :: L2) + 1 ≤ cr n + wt An C.length ((p, i) :: L) → u2 ≤ u + 1 → FrXm r r2 → ∃ (v : Int32) (k' : DS) (r' : RS), lpN BMa_perform_79 (M + Φ + 2) (a2, a3, Int32.ofNat (s + 1), k2, d) = some (v, k', d) ∧ lpN BMo_execute_74 (M' + Φ + 2) (x1, x2, Int32.ofNat i2, r2) = some (v, r') ∧ EndR k' r r' := by
      intro k2 r2 p2 i2 L2 n2 u2 g1 g2 g3 g4
      obtain ⟨v, k', r', e1, e2, e3⟩ := ih k2 r2 p2 i2 L2 n2 u2 (s + 1) M M' g1 (by omega) (by omega) (by omega)
      exact ⟨v, k', r', e1, e2, e3.1, e3.2.1, e3.2.2.1, e3.2.2.2.1, g4.tr e3.2.2.2.2⟩
    have mcp : Mc (k.1, va_up k.2 5 (Int32.ofNat (i + 1))) r ((An p i).1 + bs An L) n u := hL.mc.pc
    -- the next order in the same part
    have one : ∀ (k2 : DS) (r2 : RS) (i2 u2 : Nat), Mc k2 r2 ((An p i2).1 + bs An L) n u2 → k2.2 3 = k.2 3 → r2.2.1 14 = r.2.1 14 → k2.2 5 = Int32.ofNat i2 → b p ≤ i2 → i2 < b (p + 1) → SL An Dc sl k2 r2 ((p, i2) :: L) → k2.1 4 = k.1 4 → r2.1 34 = r.1 34 → FrXm r r2 → u2 ≤ u + 1 → C.length - i2 + 240 * (An p i2).2.1 + 1 ≤ C.length - i + 240 * (An p i).2.1 → ∃ (v : Int32) (k' : DS) (r' : RS), lpN BMa_perform_79 (M + Φ + 2) (a2, a3, Int32.ofNat (s + 1), k2, d) = some (v, k', d) ∧ lpN BMo_execute_74 (M' + Φ + 2) (x1, x2, Int32.ofNat i2, r2) = some (v, r') ∧ EndR k' r r' := by
      intro k2 r2 i2 u2 g1 g2 g3 g4 g5 g6 g7 g8 g9 g10 g11 g12
      refine go k2 r2 p i2 L n u2 ⟨g1, g2.trans hL.kd, g3.trans hL.rd, g4, hL.pP, g5, g6, hL.lv, g7, hL.rt.cg (fun a _ => by rw [g8]) (fun a _ => by rw [g9]), hL.n3, hL.L7, hL.ms.cg g10⟩ ?_ g11 g10
      rw [hwt]
      show cr n + (C.length - i2 + 240 * (An p i2).2.1 + 1 + wt An C.length L) + 1 ≤ _
      omega
    have hlo := hL.lo
    have hi700 : i < 700 := by omega
    generalize hpp : C.getD i (0, 0) = pp at hins m24 m25 hnx
    refine hins _ ?_ ?_ ?_ ?_ ?_ ?_ ?_ ?_ ?_ ?_
    · intro v eX hN
      cases eX
      obtain ⟨N1, N2, N3⟩ := hN
      obtain ⟨P1, P2, P3⟩ := mcp.push (v := v) (by omega)
      rw [show ((0 : Int32), v).1 = 0 from rfl, show ((0 : Int32), v).2 = v from rfl, ad0, hpc1, P1, mx0 hi700 (m24.trans rfl), show r.1 25 i = v from m25.trans rfl, P2]
      have hi1 := hnx (by show (0 : Int32) ≠ 8; decide)
      refine one _ _ (i + 1) u (by rw [N1, show (An p i).1 + 1 + bs An L = (An p i).1 + bs An L + 1 by omega]; exact P3) rfl rfl rfl (by omega) hi1 (hL.sv.sub N3 rfl rfl hdlt) rfl rfl ⟨fun j _ _ h _ => up_ne h, fun j h => up_ne (by omega), rfl⟩ (by omega) (by rw [N2]; omega)
    · intro t eX h1 h2 h3 hN
      cases eX
      obtain ⟨N1, N2, N3⟩ := hN
      obtain ⟨q, z1, z2, z3, z4, z5⟩ := hW.use p t hL.pP (Or.inr (Or.inr h2))
      obtain ⟨y1, y2⟩ := hdlt p q z3
      have hsv := hL.sv.1 q (h3 q (z4 h2)) z3
      have es : ((k.2 3 - 1) * 240 + Int32.ofNat q) = Int32.ofNat (240 * L.length + q) := by
        rw [hL.kd, pop12 (by omega), show (240 : Int32) = Int32.ofNat 240 from rfl, o_mul, o_add, Nat.mul_comm L.length 240]
      have m25' : r.1 25 i = Int32.ofNat (sl q) := by
        rw [m25, tm1 (by omega), z1, Nat.add_sub_cancel]
      have em : (96 * (r.2.1 14 - 1) + r.1 25 i) = Int32.ofNat (96 * L.length + sl q) := by
        rw [hL.rd, pop12 (by omega), m25', show (96 : Int32) = Int32.ofNat 96 from rfl, o_mul, o_add]
      obtain ⟨P1, P2, P3⟩ := mcp.push (v := k.1 2 (240 * L.length + q)) (by omega)
      rw [show ((1 : Int32), Int32.ofNat t).1 = 1 from rfl, show ((1 : Int32), Int32.ofNat t).2 = Int32.ofNat t from rfl, ad1 h1 z2, es, if_pos (o_inb (by omega) (by omega)), o_nat (by omega), hpc1, P1, mx1 hi700 (m24.trans (by rw [tm1 (by omega)])), em, if_pos (o_inb (by omega) (by omega)), o_nat (by omega), ← hsv, P2]
      have hi1 := hnx (by show (1 : Int32) ≠ 8; decide)
      refine one _ _ (i + 1) u (by rw [N1, show (An p i).1 + 1 + bs An L = (An p i).1 + bs An L + 1 by omega]; exact P3) rfl rfl rfl (by omega) hi1 (hL.sv.sub N3 rfl rfl hdlt) rfl rfl ⟨fun j _ _ h _ => up_ne h, fun j h => up_ne (by omega), rfl⟩ (by omega) (by rw [N2]; omega)
    · intro t eX h1 h2 h3 h4 h5 h6
      cases eX
      obtain ⟨q, z1, z2, z3, z4, z5⟩ := hW.use p t hL.pP (by omega)
      obtain ⟨y1, y2⟩ := hdlt p q z3
      have es : ((k.2 3 - 1) * 240 + Int32.ofNat q) = Int32.ofNat (240 * L.length + q) := by
        rw [hL.kd, pop12 (by omega), show (240 : Int32) = Int32.ofNat 240 from rfl, o_mul, o_add, Nat.mul_comm L.length 240]
      have m25' : r.1 25 i = Int32.ofNat (sl q) := by
        rw [m25, tm2 (by omega), z1, Nat.add_sub_cancel]
      have em : (96 * (r.2.1 14 - 1) + r.1 25 i) = Int32.ofNat (96 * L.length + sl q) := by
        rw [hL.rd, pop12 (by omega), m25', show (96 : Int32) = Int32.ofNat 96 from rfl, o_mul, o_add]
      have mcp' : Mc (k.1, va_up k.2 5 (Int32.ofNat (i + 1))) r (bs An L + 1) n u := by
        have := mcp
        rw [h3, Nat.add_comm 1] at this
        exact this
      obtain ⟨P1, P2, P3⟩ := mcp'.pop (by omega)
      rw [show ((2 : Int32), Int32.ofNat t).1 = 2 from rfl, show ((2 : Int32), Int32.ofNat t).2 = Int32.ofNat t from rfl, ad2 h1 z2, es, hpc1, P1, Option.bind_some, if_pos (o_inb (by omega) (by omega)), o_nat (by omega), Option.bind_some, mx2 hi700 (m24.trans (by rw [tm2 (by omega)])), em, P2, Option.bind_some, if_pos (o_inb (by omega) (by omega)), o_nat (by omega)]
      have hi1 := hnx (by show (2 : Int32) ≠ 8; decide)
      refine one _ _ (i + 1) u (by rw [h4, Nat.zero_add]; exact P3.slot) rfl rfl rfl (by omega) hi1 ⟨fun q' hq' hD => ?_, hL.sv.2.cg (fun a ha => ?_) (fun a ha => ?_) hdlt⟩ rfl rfl ⟨fun j h _ _ _ => up_ne h, fun j h => up_ne (by omega), rfl⟩ (by omega) (by rw [h5]; omega)
      · show upd (k.1 2) (240 * L.length + q) _ (240 * L.length + q') = upd (r.1 33) (96 * L.length + sl q) _ (96 * L.length + sl q')
        by_cases e : q' = q
        · rw [e, ud_eq, ud_eq]
        · have hne : sl q' ≠ sl q := fun h => e (hW.inj p q' q hD z3 h)
          rw [ud_ne (by omega), ud_ne (by omega)]
          rcases h6 q' hq' with w | w
          · exact hL.sv.1 q' w hD
          · exact absurd (w.1.trans (z5 w.2).symm) e
      · show upd (k.1 2) (240 * L.length + q) _ a = _
        rw [ud_ne (by omega)]
      · show upd (r.1 33) (96 * L.length + sl q) _ a = _
        rw [ud_ne (by omega)]
    · intro t eX h1 h2 h3 hN
      cases eX
      obtain ⟨N1, N2, N3⟩ := hN
      obtain ⟨g, hg, hf, hpq, hnp⟩ := hW.cal p t hL.pP h2 (by omega)
      have hP4 := hW.P4
      obtain ⟨e9, e10, e11⟩ := hW.d9 g hg
      obtain ⟨hnp95, hnj⟩ := hW.np1 g hg
      have hbg := hW.bm g hg
      have hbgC := hW.bC g hg
      obtain ⟨en1, en2, en3⟩ := hW.ent g hg
      have hi1 := hnx (by show (3 : Int32) ≠ 8; decide)
      have m25' : r.1 25 i = Int32.ofNat g := by rw [m25, tm3 (by omega), hpq]
      have ig : inb (Int32.ofNat g) 4 = true := o_inb (by omega) (by omega)
      have ig2 : inb (Int32.ofNat g) 122 = true := o_inb (by omega) (by omega)
      rw [show ((3 : Int32), Int32.ofNat t).1 = 3 from rfl, show ((3 : Int32), Int32.ofNat t).2 = Int32.ofNat t from rfl, ad3 h1 hf, hpc1, mx7 hi700 (m24.trans (by rw [tm3 (by omega)])), m25']
      have k3 : (k.1, va_up k.2 5 (Int32.ofNat (i + 1))).2 3 = Int32.ofNat (L.length + 1) := hL.kd
      have k4 : (k.1, va_up k.2 5 (Int32.ofNat (i + 1))).2 4 = Int32.ofNat n := hL.mc.kn
      have hn3 := hL.n3
      rw [cn_1 hL.rd (by omega) hL.mc.rn hn3]
      by_cases h7 : L.length = 7
      · -- too deep
        rw [be_deep k3 (by omega) (by omega), if_pos (show L.length + 1 = 8 by omega), Option.bind_some, Option.bind_some, Option.bind_some, if_neg (show ¬ (2 : Int32) ≤ 0 by decide)]
        refine ⟨2, (k.1, va_up (va_up k.2 5 (Int32.ofNat (i + 1))) 6 2), r, ?_, rfl, hL.mc.fin (by omega) rfl rfl (hL.mc.k1.trans hL.mc.r1.symm) rfl rfl FrXm.rf⟩
        rw [show M + Φ + 2 = (M + Φ + 1) + 1 by omega, lp_succ, dk_stop (by show (2 : Int32) ≠ -1; decide) (by omega)]
        rfl
      · rw [if_neg (show ¬ L.length + 1 = 8 by omega)]
        by_cases hn : n = 300
        · -- counted out
          rw [be_out k3 (by omega) k4 hn, if_pos hn, Option.bind_some, Option.bind_some, Option.bind_some, if_neg (show ¬ (1 : Int32) ≤ 0 by decide)]
          refine ⟨1, (k.1, va_up (va_up k.2 5 (Int32.ofNat (i + 1))) 6 1), r, ?_, rfl, hL.mc.fin (by omega) rfl rfl (hL.mc.k1.trans hL.mc.r1.symm) rfl rfl FrXm.rf⟩
          rw [show M + Φ + 2 = (M + Φ + 1) + 1 by omega, lp_succ, dk_stop (by show (1 : Int32) ≠ -1; decide) (by omega)]
          rfl
        · rw [be_in (w := Int32.ofNat (i + 1)) k3 (by omega) k4 (by omega) hL.mc.k6 rfl (by omega) e10 (by omega), if_neg hn, Option.bind_some, if_pos (show (0 : Int32) ≤ 0 by decide)]
          have r14 : (r.1, va_up r.2.1 15 (Int32.ofNat (n + 1)), r.2.2).2.1 14 = Int32.ofNat (L.length + 1) := hL.rd
          rw [un_in r14 (by omega) (by omega) (hL.ms.e19 g hg) (by omega)]
          have hcr := cr_s (n := n) (by omega)
          -- the parameters
          have hM0 : Mc (va_up k.1 4 (upd (k.1 4) (L.length + 1) (Int32.ofNat (i + 1))), va_up (va_up (va_up k.2 5 (Int32.ofNat (i + 1))) 4 (Int32.ofNat (n + 1))) 3 (Int32.ofNat (L.length + 1 + 1))) (va_up r.1 34 (upd (r.1 34) (L.length + 1) (Int32.ofNat (i + 1))), va_up r.2.1 15 (Int32.ofNat (n + 1)), r.2.2) (((An p i).1 - np g + bs An L) + np g) (n + 1) u := by
            rw [show (An p i).1 - np g + bs An L + np g = (An p i).1 + bs An L by omega]
            exact ⟨hL.mc.kh, hL.mc.rh, rfl, rfl, hL.mc.ku, hL.mc.ru, hL.mc.k1, hL.mc.r1, hL.mc.k6, hL.mc.st, hL.mc.pr⟩
          have hf0 : FrXm r (va_up r.1 34 (upd (r.1 34) (L.length + 1) (Int32.ofNat (i + 1))), va_up r.2.1 15 (Int32.ofNat (n + 1)), r.2.2) := ⟨fun j _ h _ _ => up_ne h, fun j h => up_ne (by omega), rfl⟩
          obtain ⟨k', r', g1, g2, g3, g4, g5, g6, g7, g8, g9, g10, g11, g12⟩ := par_lp hW hg (D := L.length + 1) (by omega) (x2 := Int32.ofNat (i + 1)) (np g) _ _ _ (n + 1) u (99999 - np g) (99999 - np g) (Nat.le_refl _) hM0 (by omega) rfl hL.rd (hL.ms.cg hf0)
          rw [show 99999 - np g + np g + 1 = 100000 by omega] at g1 g2
          dsimp only
          rw [g1, g2, Option.bind_some, Option.bind_some]
          have hf1 : FrXm r (r'.1, va_up r'.2.1 14 (r'.2.1 14 + 1), r'.2.2) := hf0.tr ⟨fun j h1 h2 h3 h4 => g6 j h1, fun j h => (up_ne (by omega)).trans (g7 j (by omega)), g8⟩
          have e14 : r'.2.1 14 = Int32.ofNat (L.length + 1) := (g7 14 (by decide)).trans hL.rd
          refine go _ _ g (b g) ((p, i + 1) :: L) (n + 1) u ⟨?_, (g5 3 (by decide)).trans rfl, ?_, rfl, hg, Nat.le_refl _, hbg, fun y hy => ?_, ⟨fun q hq hD => ?_, ⟨fun q hq hD => ?_, hL.sv.2.cg (fun a ha => ?_) (fun a ha => ?_) hdlt⟩⟩, ⟨?_, ?_, hL.rt.cg (fun a ha => ?_) (fun a ha => ?_)⟩, by omega, by rw [List.length_cons]; omega, hL.ms.cg hf1⟩ ?_ (by omega) hf1
          · rw [en1, show bs An ((p, i + 1) :: L) = (An p (i + 1)).1 - 1 + bs An L from rfl, N1, hnp, show 0 + ((An p i).1 - np g + 1 - 1 + bs An L) = (An p i).1 - np g + bs An L by omega]
            exact ⟨g3.kh, g3.rh, g3.kn, g3.rn, g3.ku, g3.ru, g3.k1, g3.r1, g3.k6, g3.st, g3.pr⟩
          · show r'.2.1 14 + 1 = _
            rw [e14, o_p1]
            rfl
          · rcases List.mem_cons.mp hy with e | e
            · rw [e]
              exact ⟨hL.pP, by show b p ≤ i + 1; omega, hi1, by show 1 ≤ (An p (i + 1)).1; rw [N1]; omega⟩
            · exact hL.lv y e
          · obtain ⟨j, hj, e⟩ := en3 q hq hD
            rw [e, (hnj j hj).1]
            exact g11 j hj
          · obtain ⟨y1, y2⟩ := hdlt p q hD
            show k'.1 2 _ = r'.1 33 _
            rw [g9 _ (by omega), g10 _ (by omega)]
            exact hL.sv.1 q (N3 q hq) hD
          · show k'.1 2 a = k.1 2 a
            rw [g9 _ (by omega)]
            rfl
          · show r'.1 33 a = r.1 33 a
            rw [g10 _ (by omega)]
            rfl
          · show k'.1 4 (L.length + 1) = _
            rw [g4 4 (by decide)]
            show upd (k.1 4) (L.length + 1) _ _ = _
            rw [ud_eq]
          · show r'.1 34 (L.length + 1) = _
            rw [g6 34 (by decide)]
            show upd (r.1 34) (L.length + 1) _ _ = _
            rw [ud_eq]
          · show k'.1 4 a = k.1 4 a
            rw [g4 4 (by decide)]
            show upd (k.1 4) (L.length + 1) _ _ = _
            rw [ud_ne (by omega)]
          · show r'.1 34 a = r.1 34 a
            rw [g6 34 (by decide)]
            show upd (r.1 34) (L.length + 1) _ _ = _
            rw [ud_ne (by omega)]
          · rw [hwt]
            show cr (n + 1) + (C.length - b g + 240 * (An g (b g)).2.1 + 1 + (C.length - (i + 1) + 240 * (An p (i + 1)).2.1 + 1 + wt An C.length L)) + 1 ≤ _
            rw [en2, N2]
            omega
    · intro j eX h1 h2 h3 hN h4 h5 h6
      cases eX
      obtain ⟨N1, N2, N3⟩ := hN
      have mcp' : Mc (k.1, va_up k.2 5 (Int32.ofNat (i + 1))) r (bs An L + 1) n u := by
        have := mcp
        rw [h3, Nat.add_comm 1] at this
        exact this
      obtain ⟨P1, P2, P3⟩ := mcp'.pop (by omega)
      rw [show ((4 : Int32), Int32.ofNat j).1 = 4 from rfl, show ((4 : Int32), Int32.ofNat j).2 = Int32.ofNat j from rfl, ad4, hpc1, P1, Option.bind_some, mx5 hi700 (m24.trans rfl), show r.1 25 i = Int32.ofNat j from m25.trans rfl, P2, Option.bind_some]
      have hi1 := hnx (by show (4 : Int32) ≠ 8; decide)
      have hfx : FrXm r (r.1, va_up r.2.1 13 (Int32.ofNat (bs An L)), r.2.2) := ⟨fun _ _ _ _ _ => rfl, fun j h => up_ne (by omega), rfl⟩
      by_cases hc : k.1 3 (bs An L) = 0
      · rw [if_pos hc, if_pos hc, Option.bind_some]
        exact one _ _ j u (by rw [h4, Nat.zero_add]; exact P3.pc) rfl rfl rfl (by omega) (by omega) (hL.sv.sub h6 rfl rfl hdlt) rfl rfl hfx (by omega) (by rw [h5]; omega)
      · rw [if_neg hc, if_neg hc, Option.bind_some]
        exact one _ _ (i + 1) u (by rw [N1, Nat.zero_add]; exact P3) rfl rfl rfl (by omega) hi1 (hL.sv.sub N3 rfl rfl hdlt) rfl rfl hfx (by omega) (by rw [N2]; omega)
    · intro eX h1 h2 h3
      cases eX
      have hi1 := hnx (by show (5 : Int32) ≠ 8; decide)
      rw [show ((5 : Int32), (0 : Int32)).1 = 5 from rfl, show ((5 : Int32), (0 : Int32)).2 = 0 from rfl, ad5, hpc1, mx8 hi700 (m24.trans rfl)]
      have k4 : (k.1, va_up k.2 5 (Int32.ofNat (i + 1))).2 4 = Int32.ofNat n := hL.mc.kn
      have hn3 := hL.n3
      rw [cn_0 hL.mc.rn hn3]
      by_cases hn : n = 300
      · rw [co_out k4 hn, if_pos hn, Option.bind_some, Option.bind_some, Option.bind_some, if_neg (show ¬ (1 : Int32) ≤ 0 by decide)]
        refine ⟨1, (k.1, va_up (va_up k.2 5 (Int32.ofNat (i + 1))) 6 1), r, ?_, rfl, hL.mc.fin (by omega) rfl rfl (hL.mc.k1.trans hL.mc.r1.symm) rfl rfl FrXm.rf⟩
        rw [show M + Φ + 2 = (M + Φ + 1) + 1 by omega, lp_succ, dk_stop (by show (1 : Int32) ≠ -1; decide) (by omega)]
        rfl
      · rw [co_in k4 (by omega), if_neg hn, Option.bind_some, Option.bind_some, Option.bind_some, if_pos (show (0 : Int32) ≤ 0 by decide)]
        have hcr := cr_s (n := n) (by omega)
        have hfx : FrXm r (r.1, va_up r.2.1 15 (Int32.ofNat (n + 1)), r.2.2) := ⟨fun _ _ _ _ _ => rfl, fun j h => up_ne (by omega), rfl⟩
        refine go _ _ p (i + 1) L (n + 1) u ⟨?_, hL.kd, hL.rd, rfl, hL.pP, by omega, hi1, hL.lv, hL.sv.sub h3 rfl rfl hdlt, hL.rt.cg (fun _ _ => rfl) (fun _ _ => rfl), by omega, hL.L7, hL.ms.cg hfx⟩ ?_ (by omega) hfx
        · rw [h1]
          exact ⟨hL.mc.kh, hL.mc.rh, rfl, rfl, hL.mc.ku, hL.mc.ru, hL.mc.k1, hL.mc.r1, hL.mc.k6, hL.mc.st, hL.mc.pr⟩
        · rw [hwt]
          show cr (n + 1) + (C.length - (i + 1) + 240 * (An p (i + 1)).2.1 + 1 + wt An C.length L) + 1 ≤ _
          rw [h2]
          omega
    · intro j eX h1 h2 h3 h4 h5
      cases eX
      have hhi := hL.hi
      rw [show ((6 : Int32), Int32.ofNat j).1 = 6 from rfl, show ((6 : Int32), Int32.ofNat j).2 = Int32.ofNat j from rfl, ad6, mx6 hi700 (m24.trans rfl), show r.1 25 i = Int32.ofNat j from m25.trans rfl, Option.bind_some]
      exact one _ _ j u (by rw [h3]; exact ⟨hL.mc.kh, hL.mc.rh, hL.mc.kn, hL.mc.rn, hL.mc.ku, hL.mc.ru, hL.mc.k1, hL.mc.r1, hL.mc.k6, hL.mc.st, hL.mc.pr⟩) rfl rfl rfl h1 (by omega) (hL.sv.sub h5 rfl rfl hdlt) rfl rfl FrXm.rf (by omega) (by omega)
    · intro eX h1 hN
      cases eX
      obtain ⟨N1, N2, N3⟩ := hN
      have hi1 := hnx (by show (7 : Int32) ≠ 8; decide)
      have mcp' : Mc (k.1, va_up k.2 5 (Int32.ofNat (i + 1))) r (bs An L + 1) n u := by
        have := mcp
        rw [h1, Nat.add_comm 1] at this
        exact this
      obtain ⟨P1, P2, P3⟩ := mcp'.pop (by omega)
      obtain ⟨k2, r2, e1, e2, e3, e4, e5, e6, e7, e8, e9⟩ := P3.keep (v := k.1 3 (bs An L)) (by omega)
      rw [show ((7 : Int32), (0 : Int32)).1 = 7 from rfl, show ((7 : Int32), (0 : Int32)).2 = 0 from rfl, ad7, hpc1, P1, Option.bind_some, e1, Option.bind_some, Option.bind_some, mx3 hi700 (m24.trans rfl), P2, Option.bind_some]
      have hfx : FrXm r r2 := ⟨fun j _ _ _ h => e7 j h, fun j h => (e8 j (by omega)).trans (up_ne (by omega)), e9⟩
      have fin2 := one k2 r2 (i + 1) (u + 1) (by rw [N1, Nat.zero_add]; exact e4) (e6 3 (by decide)) (e8 14 (by decide)) ((e6 5 (by decide)).trans rfl) (by omega) hi1 (hL.sv.sub N3 (e5 2 (by decide)) (e7 33 (by decide)) hdlt) (e5 4 (by decide)) (e7 34 (by decide)) hfx (by omega) (by rw [N2]; omega)
      by_cases hc : (32 : Int32) ≤ (va_up r.2.1 13 (Int32.ofNat (bs An L))) 16
      · rw [if_pos hc]
        rw [e2 hc] at fin2
        exact fin2
      · rw [if_neg hc, if_pos (e3 hc).1]
        rw [(e3 hc).2] at fin2
        exact fin2
    · intro eX h1
      cases eX
      have mcp' : Mc (k.1, va_up k.2 5 (Int32.ofNat (i + 1))) r (bs An L + 1) n u := by
        have := mcp
        rw [h1, Nat.add_comm 1] at this
        exact this
      obtain ⟨P1, P2, P3⟩ := mcp'.pop (by omega)
      rw [show ((8 : Int32), (0 : Int32)).1 = 8 from rfl, show ((8 : Int32), (0 : Int32)).2 = 0 from rfl, ad8, hpc1, P1, Option.bind_some, mx4 hi700 (m24.trans rfl) hL.rd (by omega)]
      cases L with
      | nil =>
        dsimp only
        rw [en_0 (k := (k.1, va_up (va_up k.2 5 (Int32.ofNat (i + 1))) 2 (Int32.ofNat (bs An ([] : List Lev))))) hL.kd, Option.bind_some, Option.bind_some]
        have h34 : r.1 34 0 = -1 := hL.rt
        refine ⟨0, (k.1, va_up (va_up (va_up (va_up (va_up k.2 5 (Int32.ofNat (i + 1))) 2 (Int32.ofNat (bs An ([] : List Lev)))) 3 (Int32.ofNat 0)) 1 (k.1 3 (bs An ([] : List Lev)))) 6 0), (r.1, va_up (va_up (va_up r.2.1 14 (Int32.ofNat 0)) 13 (Int32.ofNat 0)) 17 (k.1 3 0), r.2.2), ?_, ?_, hL.mc.fin (by omega) rfl rfl rfl rfl rfl ⟨fun _ _ _ _ _ => rfl, fun j h => by show va_up (va_up (va_up r.2.1 14 _) 13 _) 17 _ j = r.2.1 j; rw [up_ne (by omega), up_ne (by omega), up_ne (by omega)], rfl⟩⟩
        · rw [show M + Φ + 2 = (M + Φ + 1) + 1 by omega, lp_succ, dk_stop (by show (0 : Int32) ≠ -1; decide) (by omega)]
          rfl
        · rw [show M' + Φ + 2 = (M' + Φ + 1) + 1 by omega, lp_succ]
          have hst : k.1 3 0 = r.1 35 0 := hL.mc.st 0 (by show 0 < (An p i).1 + 0; omega)
          have h13 : (va_up r.2.1 14 (Int32.ofNat ([] : List Lev).length)) 13 = Int32.ofNat (0 + 1) := by
            show r.2.1 13 = _
            rw [hL.mc.rh, h1]
            rfl
          have hpop : f_Mo_pop (r.1, va_up r.2.1 14 (Int32.ofNat ([] : List Lev).length), r.2.2) = some (k.1 3 0, (r.1, va_up (va_up r.2.1 14 (Int32.ofNat ([] : List Lev).length)) 13 (Int32.ofNat 0), r.2.2)) := by
            rw [hst]
            exact po_m (h := 0) h13 (by omega)
          rw [show r.1 34 ([] : List Lev).length = -1 from h34]
          exact mx_end hpop
      | cons y L =>
        obtain ⟨p', i'⟩ := y
        obtain ⟨hp', hl', hh', h1'⟩ := hL.lv (p', i') (List.mem_cons_self ..)
        have hp1 : p' < P := hp'
        have hl1 : b p' ≤ i' := hl'
        have hh1 : i' < b (p' + 1) := hh'
        have h11 : 1 ≤ (An p' i').1 := h1'
        obtain ⟨rt1, rt2, rt3⟩ := hL.rt
        have hbe : bs An ((p', i') :: L) = (An p' i').1 - 1 + bs An L := rfl
        have hL7' : L.length + 1 ≤ 7 := hL7
        have hi'240 : i' < 240 := by
          have := hW.bC p' hp1
          omega
        dsimp only
        rw [en_s (k := (k.1, va_up (va_up k.2 5 (Int32.ofNat (i + 1))) 2 (Int32.ofNat (bs An ((p', i') :: L))))) (D := ((p', i') :: L).length) hL.kd (by rw [List.length_cons]; omega) (by rw [List.length_cons]; omega)]
        dsimp only
        have e34 : r.1 34 ((p', i') :: L).length = Int32.ofNat i' := rt2
        have e4 : k.1 4 ((p', i') :: L).length = Int32.ofNat i' := rt1
        rw [e34, e4]
        -- the value goes back where it was
        have hMq : Mc (k.1, va_up (va_up (va_up (va_up k.2 5 (Int32.ofNat (i + 1))) 2 (Int32.ofNat (bs An ((p', i') :: L)))) 3 (Int32.ofNat ((p', i') :: L).length)) 5 (Int32.ofNat i')) (r.1, va_up r.2.1 13 (Int32.ofNat (bs An ((p', i') :: L))), r.2.2) (bs An ((p', i') :: L)) n u := ⟨rfl, rfl, hL.mc.kn, hL.mc.rn, hL.mc.ku, hL.mc.ru, hL.mc.k1, hL.mc.r1, hL.mc.k6, P3.st, hL.mc.pr⟩
        obtain ⟨S1, -, -⟩ := hMq.push (v := k.1 3 (bs An ((p', i') :: L))) (by omega)
        have hst0 : k.1 3 (bs An ((p', i') :: L)) = r.1 35 (bs An ((p', i') :: L)) := hL.mc.st _ (by omega)
        rw [S1, Option.bind_some, Option.bind_some]
        have hfx : FrXm r (r.1, va_up r.2.1 14 (Int32.ofNat ((p', i') :: L).length), r.2.2) := ⟨fun _ _ _ _ _ => rfl, fun j h => up_ne (by omega), rfl⟩
        refine go _ _ p' i' L n u ⟨?_, rfl, rfl, rfl, hp1, hl1, hh1, fun y hy => hL.lv y (List.mem_cons_of_mem _ hy), hL.sv.2.cg (fun _ _ => rfl) (fun _ _ => rfl) hdlt, rt3.cg (fun _ _ => rfl) (fun _ _ => rfl), hL.n3, by omega, hL.ms.cg hfx⟩ ?_ (by omega) hfx
        · have eh : (An p' i').1 + bs An L = bs An ((p', i') :: L) + 1 := by omega
          rw [eh]
          refine ⟨rfl, ?_, hL.mc.kn, hL.mc.rn, hL.mc.ku, hL.mc.ru, hL.mc.k1, hL.mc.r1, hL.mc.k6, fun q hq => ?_, hL.mc.pr⟩
          · show r.2.1 13 = _
            rw [hL.mc.rh, h1, Nat.add_comm 1]
          · show upd (k.1 3) (bs An ((p', i') :: L)) (k.1 3 (bs An ((p', i') :: L))) q = r.1 35 q
            by_cases e : q = bs An ((p', i') :: L)
            · rw [e, ud_eq]; exact hst0
            · rw [ud_ne e]; exact hL.mc.st q (by omega)
        · rw [hwt]
          omega
    · intro t eX h1 h2 hN
      cases eX
      obtain ⟨N1, N2, N3⟩ := hN
      have hi1 := hnx (by rcases h1 with e | e | e | e <;> subst e <;> decide)
      have mcp1 : Mc (k.1, va_up k.2 5 (Int32.ofNat (i + 1))) r (((An p i).1 - 2 + bs An L) + 1 + 1) n u := by
        have := mcp
        rw [show (An p i).1 + bs An L = (An p i).1 - 2 + bs An L + 1 + 1 by omega] at this
        exact this
      obtain ⟨P1, P2, P3⟩ := mcp1.pop (by omega)
      obtain ⟨Q1, Q2, Q3⟩ := P3.pop (by omega)
      obtain ⟨S1, S2, S3⟩ := Q3.push (v := opv t (k.1 3 ((An p i).1 - 2 + bs An L)) (k.1 3 ((An p i).1 - 2 + bs An L + 1))) (by omega)
      rw [show (Int32.ofNat t, (0 : Int32)).1 = Int32.ofNat t from rfl, show (Int32.ofNat t, (0 : Int32)).2 = 0 from rfl, ado h1, hpc1, P1, Option.bind_some, Q1, Option.bind_some, S1, Option.bind_some, Option.bind_some, mxo h1 hi700 (m24.trans (by rw [tmo h1])), P2, Option.bind_some, Q2, Option.bind_some, S2, Option.bind_some]
      refine one _ _ (i + 1) u (by rw [N1, show (An p i).1 - 1 + bs An L = (An p i).1 - 2 + bs An L + 1 by omega]; exact S3) rfl rfl rfl (by omega) hi1 (hL.sv.sub N3 rfl rfl hdlt) rfl rfl ⟨fun j _ _ h _ => up_ne h, fun j h => by show va_up (va_up (va_up r.2.1 13 _) 13 _) 13 _ j = r.2.1 j; rw [up_ne (by omega), up_ne (by omega), up_ne (by omega)], rfl⟩ (by omega) (by rw [N2]; omega)
end
