/-! one order of each machine -/
section
variable {K : Int32 × Int32 × Int32 × DS × DS → Option (Int32 × DS × DS)} {a2 a3 : Int32} {k d : DS} {C : Cds} {i s : Nat}
theorem dk_step (hC : CD d C) (hi : i < C.length) (h240 : C.length ≤ 240) (h5 : k.2 5 = Int32.ofNat i) (h6 : k.2 6 = -1) (hs : s < 1000000) : BMa_perform_79 K (a2, a3, Int32.ofNat s, k, d) = (f_Ma_advance (C.getD i (0, 0)).1 (C.getD i (0, 0)).2 k d).bind fun q => K (a2, a3, Int32.ofNat (s + 1), q.1, q.2) := by
  have hle : ((1000000 : Int32) ≤ Int32.ofNat s) = False := (o_le (a := 1000000) (by omega) (by omega)).trans (eq_false (by omega))
  have hle2 : (d.2 6 ≤ Int32.ofNat i) = False := by rw [hC.1]; exact (o_le (by omega) (by omega)).trans (eq_false (by omega))
  have ii : inb (Int32.ofNat i) 240 = true := o_inb (by omega) (by omega)
  obtain ⟨c1, c2⟩ := hC.2 i hi
  unfold BMa_perform_79
  simp only [hle, hle2, h6, h5, ii, ↓reduceIte, o_nat (show i < 2147483648 by omega), bindv, c1, c2, o_p1]
theorem dk_stop (h6 : k.2 6 ≠ -1) (hs : s < 1000000) : BMa_perform_79 K (a2, a3, Int32.ofNat s, k, d) = some (k.2 6, k, d) := by
  have hle : ((1000000 : Int32) ≤ Int32.ofNat s) = False := (o_le (a := 1000000) (by omega) (by omega)).trans (eq_false (by omega))
  unfold BMa_perform_79
  simp only [hle, eq_false h6, ↓reduceIte]
end
section
variable {k d : DS} {v : Int32}
theorem ad0 : f_Ma_advance 0 v k d = (f_Ma_push v (k.1, va_up k.2 5 (k.2 5 + 1))).bind fun q => some (q, d) := by
  unfold f_Ma_advance
  rw [if_pos rfl]
theorem ad1 {t q : Nat} (ht : t < 240) (h14 : d.1 14 t = Int32.ofNat q) : f_Ma_advance 1 (Int32.ofNat t) k d = if inb ((k.2 3 - 1) * 240 + Int32.ofNat q) 1920 then (f_Ma_push (k.1 2 ((k.2 3 - 1) * 240 + Int32.ofNat q).toNatClampNeg) (k.1, va_up k.2 5 (k.2 5 + 1))).bind fun q => some (q, d) else none := by
  unfold f_Ma_advance
  rw [if_neg (by decide), if_pos rfl, if_pos (o_inb ht (by omega)), o_nat (by omega), h14]
  rfl
theorem ad2 {t q : Nat} (ht : t < 240) (h14 : d.1 14 t = Int32.ofNat q) : f_Ma_advance 2 (Int32.ofNat t) k d = (f_Ma_pop (k.1, va_up k.2 5 (k.2 5 + 1))).bind fun q11 => if inb ((k.2 3 - 1) * 240 + Int32.ofNat q) 1920 then some ((va_up q11.2.1 2 (upd (q11.2.1 2) ((k.2 3 - 1) * 240 + Int32.ofNat q).toNatClampNeg q11.1), q11.2.2), d) else none := by
  unfold f_Ma_advance
  rw [if_neg (by decide), if_neg (by decide), if_pos rfl, if_pos (o_inb ht (by omega)), o_nat (by omega), h14]
  rfl
theorem ad3 {t : Nat} {g : Int32} (ht : t < 240) (hf : f_Fn_find (d.1 5 t) d = some (g, d)) : f_Ma_advance 3 (Int32.ofNat t) k d = (f_Ma_begin g (k.1, va_up k.2 5 (k.2 5 + 1)) d).bind fun q => some (q.1, q.2) := by
  unfold f_Ma_advance
  rw [if_neg (by decide), if_neg (by decide), if_neg (by decide), if_pos rfl, if_pos (o_inb ht (by omega)), o_nat (by omega), hf]
  rfl
theorem ad4 : f_Ma_advance 4 v k d = (f_Ma_pop (k.1, va_up k.2 5 (k.2 5 + 1))).bind fun q18 => if q18.1 = 0 then some ((q18.2.1, va_up q18.2.2 5 v), d) else some (q18.2, d) := by
  unfold f_Ma_advance
  rw [if_neg (by decide), if_neg (by decide), if_neg (by decide), if_neg (by decide), if_pos rfl]
theorem ad5 : f_Ma_advance 5 v k d = (f_Ma_countOne (k.1, va_up k.2 5 (k.2 5 + 1))).bind fun q => some (q, d) := by
  unfold f_Ma_advance
  rw [if_neg (by decide), if_neg (by decide), if_neg (by decide), if_neg (by decide), if_neg (by decide), if_pos rfl]
theorem ad6 : f_Ma_advance 6 v k d = some ((k.1, va_up (va_up k.2 5 (k.2 5 + 1)) 5 v), d) := by
  unfold f_Ma_advance
  rw [if_neg (by decide), if_neg (by decide), if_neg (by decide), if_neg (by decide), if_neg (by decide), if_neg (by decide), if_pos rfl]
theorem ad7 : f_Ma_advance 7 v k d = (f_Ma_pop (k.1, va_up k.2 5 (k.2 5 + 1))).bind fun q24 => (f_Ma_keep q24.1 q24.2).bind fun q25 => some (q25, d) := by
  unfold f_Ma_advance
  rw [if_neg (by decide), if_neg (by decide), if_neg (by decide), if_neg (by decide), if_neg (by decide), if_neg (by decide), if_neg (by decide), if_pos rfl]
theorem ad8 : f_Ma_advance 8 v k d = (f_Ma_pop (k.1, va_up k.2 5 (k.2 5 + 1))).bind fun q27 => (f_Ma_end q27.1 q27.2).bind fun q28 => some (q28, d) := by
  unfold f_Ma_advance
  rw [if_neg (by decide), if_neg (by decide), if_neg (by decide), if_neg (by decide), if_neg (by decide), if_neg (by decide), if_neg (by decide), if_neg (by decide), if_pos rfl]
/-- What a sign makes of two values. -/
def opv (t : Nat) (x y : Int32) : Int32 := if t = 42 then x * y else if t = 43 then x + y else if t = 45 then x - y else if y ≤ x then 0 else 1
theorem ado {t : Nat} (h : t = 42 ∨ t = 43 ∨ t = 45 ∨ t = 60) : f_Ma_advance (Int32.ofNat t) v k d = (f_Ma_pop (k.1, va_up k.2 5 (k.2 5 + 1))).bind fun q1 => (f_Ma_pop q1.2).bind fun q2 => (f_Ma_push (opv t q2.1 q1.1) q2.2).bind fun q => some (q, d) := by
  have e : f_Ma_advance (Int32.ofNat t) v k d = (f_Ma_combine (Int32.ofNat t) (k.1, va_up k.2 5 (k.2 5 + 1))).bind fun q29 => some (q29, d) := by
    unfold f_Ma_advance
    rcases h with h | h | h | h <;> subst h <;> rw [if_neg (by decide), if_neg (by decide), if_neg (by decide), if_neg (by decide), if_neg (by decide), if_neg (by decide), if_neg (by decide), if_neg (by decide), if_neg (by decide)]
  rw [e]
  unfold f_Ma_combine
  cases f_Ma_pop (k.1, va_up k.2 5 (k.2 5 + 1)) with
  | none => rfl
  | some q1 =>
    simp only [Option.bind_some]
    cases f_Ma_pop q1.2 with
    | none => rfl
    | some q2 =>
      simp only [Option.bind_some]
      unfold opv
      rcases h with h | h | h | h
      · subst h
        rw [if_pos (show Int32.ofNat 42 = 42 from rfl), if_pos rfl]
        cases f_Ma_push (q2.1 * q1.1) q2.2 <;> rfl
      · subst h
        rw [if_neg (show ¬ Int32.ofNat 43 = 42 by decide), if_pos (show Int32.ofNat 43 = 43 from rfl), if_neg (show ¬ 43 = 42 by decide), if_pos rfl]
        cases f_Ma_push (q2.1 + q1.1) q2.2 <;> rfl
      · subst h
        rw [if_neg (show ¬ Int32.ofNat 45 = 42 by decide), if_neg (show ¬ Int32.ofNat 45 = 43 by decide), if_neg (show ¬ Int32.ofNat 45 = 44 by decide), if_pos (show Int32.ofNat 45 = 45 from rfl), if_neg (show ¬ 45 = 42 by decide), if_neg (show ¬ 45 = 43 by decide), if_pos rfl]
        cases f_Ma_push (q2.1 - q1.1) q2.2 <;> rfl
      · subst h
        rw [if_neg (show ¬ Int32.ofNat 60 = 42 by decide), if_neg (show ¬ Int32.ofNat 60 = 43 by decide), if_neg (show ¬ Int32.ofNat 60 = 44 by decide), if_neg (show ¬ Int32.ofNat 60 = 45 by decide), if_neg (show ¬ 60 = 42 by decide), if_neg (show ¬ 60 = 43 by decide), if_neg (show ¬ 60 = 45 by decide)]
        by_cases hc : q1.1 ≤ q2.1
        · rw [if_pos hc, if_pos hc]
          cases f_Ma_push 0 q2.2 <;> rfl
        · rw [if_neg hc, if_neg hc]
          cases f_Ma_push 1 q2.2 <;> rfl
end
section
variable {K : Int32 × Int32 × Int32 × RS → Option (Int32 × RS)} {x1 x2 : Int32} {r : RS} {i : Nat}
theorem mo_lt {v : Nat} (h : v < 100) : (Int32.ofNat v < 100) = True := (o_lt (b := 100) (by omega) (by omega)).trans (eq_true h)
theorem mx0 (hi : i < 700) (h : r.1 24 i = 0) : BMo_execute_74 K (x1, x2, Int32.ofNat i, r) = (f_Mo_push (r.1 25 i) r).bind fun q => K (x1, x2, Int32.ofNat (i + 1), q) := by
  have hn : (Int32.ofNat i < 0) = False := (o_lt (b := 0) (by omega) (by omega)).trans (eq_false (by omega))
  have h1 : ((0 : Int32) < 100) = True := mo_lt (v := 0) (by omega)
  unfold BMo_execute_74
  simp only [hn, o_inb hi (show i < 2147483648 by omega), o_nat (show i < 2147483648 by omega), h, h1, ↓reduceIte, o_p1]
theorem mx1 (hi : i < 700) (h : r.1 24 i = 1) : BMo_execute_74 K (x1, x2, Int32.ofNat i, r) = if inb (96 * (r.2.1 14 - 1) + r.1 25 i) 768 then (f_Mo_push (r.1 33 (96 * (r.2.1 14 - 1) + r.1 25 i).toNatClampNeg) r).bind fun q => K (x1, x2, Int32.ofNat (i + 1), q) else none := by
  have hn : (Int32.ofNat i < 0) = False := (o_lt (b := 0) (by omega) (by omega)).trans (eq_false (by omega))
  have h1 : ((1 : Int32) < 100) = True := mo_lt (v := 1) (by omega)
  unfold BMo_execute_74
  simp only [hn, o_inb hi (show i < 2147483648 by omega), o_nat (show i < 2147483648 by omega), h, h1, i10, ↓reduceIte, o_p1, bindv]
theorem mx2 (hi : i < 700) (h : r.1 24 i = 2) : BMo_execute_74 K (x1, x2, Int32.ofNat i, r) = (f_Mo_pop r).bind fun q36 => if inb (96 * (r.2.1 14 - 1) + r.1 25 i) 768 then K (x1, x2, Int32.ofNat (i + 1), (va_up q36.2.1 33 (upd (q36.2.1 33) (96 * (r.2.1 14 - 1) + r.1 25 i).toNatClampNeg q36.1), q36.2.2.1, q36.2.2.2)) else none := by
  have hn : (Int32.ofNat i < 0) = False := (o_lt (b := 0) (by omega) (by omega)).trans (eq_false (by omega))
  have h1 : ((2 : Int32) < 100) = True := mo_lt (v := 2) (by omega)
  have n0' : ((2 : Int32) = 0) = False := eq_false (by decide)
  have n1' : ((2 : Int32) = 1) = False := eq_false (by decide)
  unfold BMo_execute_74
  simp only [hn, o_inb hi (show i < 2147483648 by omega), o_nat (show i < 2147483648 by omega), h, h1, n0', n1', ↓reduceIte, o_p1, bindv]
theorem mx3 (hi : i < 700) (h : r.1 24 i = 3) : BMo_execute_74 K (x1, x2, Int32.ofNat i, r) = (f_Mo_pop r).bind fun q32 => (if 32 ≤ (q32.2.2.1 16) then K (x1, x2, Int32.ofNat (i + 1), (q32.2.1, (va_up q32.2.2.1 16 ((q32.2.2.1 16) + 1)), q32.2.2.2)) else if inb (q32.2.2.1 16) 32 then K (x1, x2, Int32.ofNat (i + 1), ((va_up q32.2.1 36 (upd (q32.2.1 36) (q32.2.2.1 16).toNatClampNeg q32.1)), (va_up q32.2.2.1 16 ((q32.2.2.1 16) + 1)), q32.2.2.2)) else none) := by
  have hn : (Int32.ofNat i < 0) = False := (o_lt (b := 0) (by omega) (by omega)).trans (eq_false (by omega))
  have h1 : ((3 : Int32) < 100) = True := mo_lt (v := 3) (by omega)
  have n0' : ((3 : Int32) = 0) = False := eq_false (by decide)
  have n1' : ((3 : Int32) = 1) = False := eq_false (by decide)
  have n2' : ((3 : Int32) = 2) = False := eq_false (by decide)
  unfold BMo_execute_74
  simp only [hn, o_inb hi (show i < 2147483648 by omega), o_nat (show i < 2147483648 by omega), h, h1, n0', n1', n2', ↓reduceIte, o_p1, bindv]
theorem mx4 {D : Nat} (hi : i < 700) (h : r.1 24 i = 4) (hD : r.2.1 14 = Int32.ofNat (D + 1)) (h8 : D < 9) : BMo_execute_74 K (x1, x2, Int32.ofNat i, r) = K (x1, x2, r.1 34 D, (r.1, va_up r.2.1 14 (Int32.ofNat D), r.2.2)) := by
  have hn : (Int32.ofNat i < 0) = False := (o_lt (b := 0) (by omega) (by omega)).trans (eq_false (by omega))
  have h1 : ((4 : Int32) < 100) = True := mo_lt (v := 4) (by omega)
  have n0' : ((4 : Int32) = 0) = False := eq_false (by decide)
  have n1' : ((4 : Int32) = 1) = False := eq_false (by decide)
  have n2' : ((4 : Int32) = 2) = False := eq_false (by decide)
  have n3' : ((4 : Int32) = 3) = False := eq_false (by decide)
  unfold BMo_execute_74
  simp only [hn, o_inb hi (show i < 2147483648 by omega), o_nat (show i < 2147483648 by omega), h, h1, n0', n1', n2', n3', hD, pop12 (show D < 90000 by omega), o_inb h8 (show D < 2147483648 by omega), o_nat (show D < 2147483648 by omega), ↓reduceIte, bindv]
theorem mx6 (hi : i < 700) (h : r.1 24 i = 6) : BMo_execute_74 K (x1, x2, Int32.ofNat i, r) = K (x1, x2, r.1 25 i, r) := by
  have hn : (Int32.ofNat i < 0) = False := (o_lt (b := 0) (by omega) (by omega)).trans (eq_false (by omega))
  have h1 : ((6 : Int32) < 100) = True := mo_lt (v := 6) (by omega)
  have n0' : ((6 : Int32) = 0) = False := eq_false (by decide)
  have n1' : ((6 : Int32) = 1) = False := eq_false (by decide)
  have n2' : ((6 : Int32) = 2) = False := eq_false (by decide)
  have n3' : ((6 : Int32) = 3) = False := eq_false (by decide)
  have n4' : ((6 : Int32) = 4) = False := eq_false (by decide)
  unfold BMo_execute_74
  simp only [hn, o_inb hi (show i < 2147483648 by omega), o_nat (show i < 2147483648 by omega), h, h1, n0', n1', n2', n3', n4', ↓reduceIte]
theorem mx5 (hi : i < 700) (h : r.1 24 i = 5) : BMo_execute_74 K (x1, x2, Int32.ofNat i, r) = (f_Mo_pop r).bind fun q28 => (if q28.1 = 0 then K (x1, x2, r.1 25 i, q28.2) else K (x1, x2, Int32.ofNat (i + 1), q28.2)) := by
  have hn : (Int32.ofNat i < 0) = False := (o_lt (b := 0) (by omega) (by omega)).trans (eq_false (by omega))
  have h1 : ((5 : Int32) < 100) = True := mo_lt (v := 5) (by omega)
  have n0' : ((5 : Int32) = 0) = False := eq_false (by decide)
  have n1' : ((5 : Int32) = 1) = False := eq_false (by decide)
  have n2' : ((5 : Int32) = 2) = False := eq_false (by decide)
  have n3' : ((5 : Int32) = 3) = False := eq_false (by decide)
  have n4' : ((5 : Int32) = 4) = False := eq_false (by decide)
  have n6' : ((5 : Int32) = 6) = False := eq_false (by decide)
  unfold BMo_execute_74
  simp only [hn, o_inb hi (show i < 2147483648 by omega), o_nat (show i < 2147483648 by omega), h, h1, n0', n1', n2', n3', n4', n6', ↓reduceIte, o_p1]
theorem mx7 (hi : i < 700) (h : r.1 24 i = 7) : BMo_execute_74 K (x1, x2, Int32.ofNat i, r) = (f_Mo_counts 1 r).bind fun q24 => (if q24.1 ≤ 0 then (f_Mo_uncounted (r.1 25 i) (Int32.ofNat (i + 1)) q24.2).bind fun q27 => K (x1, x2, q27.1, q27.2) else some (q24.1, q24.2)) := by
  have hn : (Int32.ofNat i < 0) = False := (o_lt (b := 0) (by omega) (by omega)).trans (eq_false (by omega))
  have h1 : ((7 : Int32) < 100) = True := mo_lt (v := 7) (by omega)
  have n0' : ((7 : Int32) = 0) = False := eq_false (by decide)
  have n1' : ((7 : Int32) = 1) = False := eq_false (by decide)
  have n2' : ((7 : Int32) = 2) = False := eq_false (by decide)
  have n3' : ((7 : Int32) = 3) = False := eq_false (by decide)
  have n4' : ((7 : Int32) = 4) = False := eq_false (by decide)
  have n6' : ((7 : Int32) = 6) = False := eq_false (by decide)
  have n5' : ((7 : Int32) = 5) = False := eq_false (by decide)
  unfold BMo_execute_74
  simp only [hn, o_inb hi (show i < 2147483648 by omega), o_nat (show i < 2147483648 by omega), h, h1, n0', n1', n2', n3', n4', n5', n6', ↓reduceIte, o_p1]
theorem mx8 (hi : i < 700) (h : r.1 24 i = 8) : BMo_execute_74 K (x1, x2, Int32.ofNat i, r) = (f_Mo_counts 0 r).bind fun q20 => (if q20.1 ≤ 0 then K (x1, x2, Int32.ofNat (i + 1), q20.2) else some (q20.1, q20.2)) := by
  have hn : (Int32.ofNat i < 0) = False := (o_lt (b := 0) (by omega) (by omega)).trans (eq_false (by omega))
  have h1 : ((8 : Int32) < 100) = True := mo_lt (v := 8) (by omega)
  have n0' : ((8 : Int32) = 0) = False := eq_false (by decide)
  have n1' : ((8 : Int32) = 1) = False := eq_false (by decide)
  have n2' : ((8 : Int32) = 2) = False := eq_false (by decide)
  have n3' : ((8 : Int32) = 3) = False := eq_false (by decide)
  have n4' : ((8 : Int32) = 4) = False := eq_false (by decide)
  have n6' : ((8 : Int32) = 6) = False := eq_false (by decide)
  have n5' : ((8 : Int32) = 5) = False := eq_false (by decide)
  have n7' : ((8 : Int32) = 7) = False := eq_false (by decide)
  unfold BMo_execute_74
  simp only [hn, o_inb hi (show i < 2147483648 by omega), o_nat (show i < 2147483648 by omega), h, h1, n0', n1', n2', n3', n4', n5', n6', n7', ↓reduceIte, o_p1]
theorem mxo {t : Nat} (ht : t = 42 ∨ t = 43 ∨ t = 45 ∨ t = 60) (hi : i < 700) (h : r.1 24 i = 100 + Int32.ofNat t) : BMo_execute_74 K (x1, x2, Int32.ofNat i, r) = (f_Mo_pop r).bind fun q1 => (f_Mo_pop q1.2).bind fun q2 => (f_Mo_push (opv t q2.1 q1.1) q2.2).bind fun q => K (x1, x2, Int32.ofNat (i + 1), q) := by
  have hn : (Int32.ofNat i < 0) = False := (o_lt (b := 0) (by omega) (by omega)).trans (eq_false (by omega))
  have h1 : (100 + Int32.ofNat t < 100) = False := by rcases ht with h | h | h | h <;> subst h <;> exact eq_false (by decide)
  have h2 : 100 + Int32.ofNat t - 100 = Int32.ofNat t := by rcases ht with h | h | h | h <;> subst h <;> decide
  have e : BMo_execute_74 K (x1, x2, Int32.ofNat i, r) = (f_Mo_reckon (Int32.ofNat t) r).bind fun q43 => K (x1, x2, Int32.ofNat (i + 1), q43) := by
    unfold BMo_execute_74
    simp only [hn, o_inb hi (show i < 2147483648 by omega), o_nat (show i < 2147483648 by omega), h, h1, h2, ↓reduceIte, o_p1, bindv]
  rw [e]
  unfold f_Mo_reckon
  cases f_Mo_pop r with
  | none => rfl
  | some q1 =>
    simp only [Option.bind_some]
    cases f_Mo_pop q1.2 with
    | none => rfl
    | some q2 =>
      simp only [Option.bind_some]
      unfold opv
      rcases ht with h | h | h | h
      · subst h
        rw [if_neg (show ¬ Int32.ofNat 42 = 43 by decide), if_neg (show ¬ Int32.ofNat 42 = 45 by decide), if_pos (show Int32.ofNat 42 = 42 from rfl), if_pos rfl]
        cases f_Mo_push (q2.1 * q1.1) q2.2 <;> rfl
      · subst h
        rw [if_pos (show Int32.ofNat 43 = 43 from rfl), if_neg (show ¬ 43 = 42 by decide), if_pos rfl]
        cases f_Mo_push (q2.1 + q1.1) q2.2 <;> rfl
      · subst h
        rw [if_neg (show ¬ Int32.ofNat 45 = 43 by decide), if_pos (show Int32.ofNat 45 = 45 from rfl), if_neg (show ¬ 45 = 42 by decide), if_neg (show ¬ 45 = 43 by decide), if_pos rfl]
        cases f_Mo_push (q2.1 - q1.1) q2.2 <;> rfl
      · subst h
        rw [if_neg (show ¬ Int32.ofNat 60 = 43 by decide), if_neg (show ¬ Int32.ofNat 60 = 45 by decide), if_neg (show ¬ Int32.ofNat 60 = 42 by decide), if_neg (show ¬ 60 = 42 by decide), if_neg (show ¬ 60 = 43 by decide), if_neg (show ¬ 60 = 45 by decide)]
        by_cases hc : q1.1 ≤ q2.1
        · rw [if_pos hc, if_pos hc]
          cases f_Mo_push 0 q2.2 <;> rfl
        · rw [if_neg hc, if_neg hc]
          cases f_Mo_push 1 q2.2 <;> rfl
end
