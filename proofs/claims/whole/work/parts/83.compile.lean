/-! the model's compile walks with the same steps -/
def FrF (r r' : RS) : Prop := (∀ i, i < 24 → r'.1 i = r.1 i) ∧ (∀ i, i < 11 → r'.2.1 i = r.2.1 i) ∧ r'.2.2 = r.2.2
theorem FrF.tr {r r' r2 : RS} (h : FrF r r') (h2 : FrF r' r2) : FrF r r2 := ⟨fun i a => (h2.1 i a).trans (h.1 i a), fun i a => (h2.2.1 i a).trans (h.2.1 i a), h2.2.2.trans h.2.2⟩
theorem FrK.ff {r r' : RS} (h : FrK r r') : FrF r r' := ⟨fun i a => h.1 i (by omega) (by omega) (by omega) (by omega), fun i a => h.2.1 i (by omega) (by omega), h.2.2⟩
def MQt (cl nm sk : Nat → Nat) (N : Nat) (R zb : Nat → Nat) (r : RS) : Prop := MTok cl nm sk N r ∧ (∀ k, k < N → r.1 9 k = Int32.ofNat (R k) ∧ R k ≤ 6 ∧ (R k ≠ 0 → cl k = 200) ∧ r.1 10 k = pm (zb k) ∧ zb k ≤ N) ∧ ∀ k, k < N → ∀ r' : RS, FrF r r' → f_Mo_partOf (Int32.ofNat k) r' = some (Int32.ofNat (pt cl N k), r')
theorem MQt.cg {cl nm sk : Nat → Nat} {N : Nat} {R zb : Nat → Nat} {r r' : RS} (h : MQt cl nm sk N R zb r) (hf : FrF r r') : MQt cl nm sk N R zb r' := by
  refine ⟨h.1.cg (hf.2.1 3 (by omega)) hf.2.2 (hf.1 5 (by omega)) (hf.1 6 (by omega)) (hf.1 2 (by omega)), fun k hk => ?_, fun k hk r2 h2 => h.2.2 k hk r2 (hf.tr h2)⟩
  rw [hf.1 9 (by omega), hf.1 10 (by omega)]
  exact h.2.1 k hk
theorem l_i32 {a : Nat} (h : a < 1073741824) : (Int64.ofNat a).toInt32 = Int32.ofNat a := by
  rw [i_eq, Int64.toInt_toInt32, Int.bmod_def, onat (by omega), l_nat (by omega)]
  split <;> omega
theorem i10 : ((1 : Int32) = 0) = False := eq_false (by decide)
section
variable {cl nm sk : Nat → Nat} {N : Nat} {R zb : Nat → Nat} {r : RS} {j : Nat} {a1 : Int32} {K : Int32 × Int32 × Int32 × RS → Option (Int32 × RS)}
theorem cp_num (hK : TK cl nm N) (hM : MQt cl nm sk N R zb r) (hj : j < N) (h : cl j = 300) : BMo_compile_9 K (a1, Int32.ofNat j, 1, r) = (f_Mo_emit 0 (Int32.ofNat (nm j)) r).bind fun q => K (a1, Int32.ofNat (j + 1), 1, q) := by
  have hN := hK.1
  obtain ⟨t5, t6, t7, t8, t9, t10⟩ := hM.1.2.2 j hj
  have ij : inb (Int32.ofNat j) 240 = true := o_inb (by omega) (by omega)
  have i6 : inb (Int32.ofNat (sk j)) 240 = true := o_inb t7 (by omega)
  have h5 : (r.1 5 j = 3) = True := eq_true (by rw [t5, h]; rfl)
  have h8 := t9 (Or.inr h)
  unfold BMo_compile_9
  simp only [i10, ij, t6, i6, o_nat (show j < 2147483648 by omega), h5, ↓reduceIte, bindv, h8, l_i32 (hK.2.2.1 j), o_p1]
theorem cp_var {b : Nat} (hK : TK cl nm N) (hM : MQt cl nm sk N R zb r) (hj : j < N) (h : R j = 5) (hb : zb j = b + 1) : BMo_compile_9 K (a1, Int32.ofNat j, 1, r) = (f_Mo_emit 1 (r.1 27 b) r).bind fun q => K (a1, Int32.ofNat (j + 1), 1, q) := by
  have hN := hK.1
  obtain ⟨t5, t6, t7, t8, t9, t10⟩ := hM.1.2.2 j hj
  obtain ⟨m9, m6, mc, m10, mN⟩ := hM.2.1 j hj
  have hc := mc (by omega)
  have ij : inb (Int32.ofNat j) 240 = true := o_inb (by omega) (by omega)
  have i6 : inb (Int32.ofNat (sk j)) 240 = true := o_inb t7 (by omega)
  have h5 : (r.1 5 j = 3) = False := eq_false (by rw [t5, hc]; decide)
  have h9 : (r.1 9 j = 5) = True := eq_true (by rw [m9, h]; rfl)
  have e10 : r.1 10 j = Int32.ofNat b := by rw [m10, hb]; rfl
  have ib : inb (Int32.ofNat b) 240 = true := o_inb (by omega) (by omega)
  unfold BMo_compile_9
  simp only [i10, ij, t6, i6, o_nat (show j < 2147483648 by omega), h5, h9, e10, ib, o_nat (show b < 2147483648 by omega), ↓reduceIte, bindv, o_p1]
theorem cp_call {b : Nat} (hK : TK cl nm N) (hM : MQt cl nm sk N R zb r) (hj : j < N) (h : R j = 6) (hb : zb j = b + 1) : BMo_compile_9 K (a1, Int32.ofNat j, 1, r) = (f_Mo_queue 40 (Int32.ofNat (pt cl N b)) r).bind fun q => K (a1, Int32.ofNat (j + 2), 1, q) := by
  have hN := hK.1
  obtain ⟨t5, t6, t7, t8, t9, t10⟩ := hM.1.2.2 j hj
  obtain ⟨m9, m6, mc, m10, mN⟩ := hM.2.1 j hj
  have hc := mc (by omega)
  have ij : inb (Int32.ofNat j) 240 = true := o_inb (by omega) (by omega)
  have i6 : inb (Int32.ofNat (sk j)) 240 = true := o_inb t7 (by omega)
  have h5 : (r.1 5 j = 3) = False := eq_false (by rw [t5, hc]; decide)
  have h9 : (r.1 9 j = 5) = False := eq_false (by rw [m9, h]; decide)
  have h96 : (r.1 9 j = 6) = True := eq_true (by rw [m9, h]; rfl)
  have e10 : r.1 10 j = Int32.ofNat b := by rw [m10, hb]; rfl
  have hp := hM.2.2 b (by omega) r ⟨fun _ _ => rfl, fun _ _ => rfl, rfl⟩
  unfold BMo_compile_9
  simp only [i10, ij, t6, i6, o_nat (show j < 2147483648 by omega), h5, h9, h96, e10, hp, ↓reduceIte, bindv, o_p1, Option.bind_some]
/-- What every sign has in common. -/
theorem cp_sign (hK : TK cl nm N) (hM : MQt cl nm sk N R zb r) (hj : j < N) (h0 : 0 < cl j) (h1 : cl j < 200) : BMo_compile_9 K (a1, Int32.ofNat j, 1, r) = (if Int32.ofNat (cl j) = 40 then (f_Mo_queue 40 (-1) r).bind fun q => K (a1, Int32.ofNat (j + 1), 1, q) else if Int32.ofNat (cl j) = 44 then (f_Mo_settle 1 r).bind fun q => K (a1, Int32.ofNat (j + 1), 1, q) else if Int32.ofNat (cl j) = 41 then (f_Mo_settle 1 r).bind fun q21 => if inb ((q21.2.1 12) - 1) 64 then bindv (q21.1 29 ((q21.2.1 12) - 1).toNatClampNeg) fun v23 => (if v23 < 0 then K (a1, Int32.ofNat (j + 1), 1, (q21.1, (va_up q21.2.1 12 ((q21.2.1 12) - 1)), q21.2.2)) else if inb ((q21.2.1 12) - 1) 64 then bindv (q21.1 29 ((q21.2.1 12) - 1).toNatClampNeg) fun v27 => (f_Mo_emit 7 v27 (q21.1, (va_up q21.2.1 12 ((q21.2.1 12) - 1)), q21.2.2)).bind fun q28 => K (a1, Int32.ofNat (j + 1), 1, q28) else none) else none else (f_Mo_rank (Int32.ofNat (cl j))).bind fun q14 => if q14 ≤ 0 then (f_Mo_settle 1 r).bind fun q16 => K (a1, Int32.ofNat j, 0, q16) else (f_Mo_rank (Int32.ofNat (cl j))).bind fun q17 => (f_Mo_settle q17 r).bind fun q18 => (f_Mo_queue (Int32.ofNat (cl j)) (-1) q18).bind fun q19 => K (a1, Int32.ofNat (j + 1), 1, q19)) := by
  have hN := hK.1
  obtain ⟨t5, t6, t7, t8, t9, t10⟩ := hM.1.2.2 j hj
  obtain ⟨m9, m6, mc, m10, mN⟩ := hM.2.1 j hj
  have hR : R j = 0 := by
    by_cases hz : R j = 0
    · exact hz
    · have := mc hz; omega
  have ij : inb (Int32.ofNat j) 240 = true := o_inb (by omega) (by omega)
  have i6 : inb (Int32.ofNat (sk j)) 240 = true := o_inb t7 (by omega)
  have h5 : (r.1 5 j = 3) = False := eq_false (by rw [t5, kk_4.mpr ⟨h0, h1⟩]; decide)
  have h9 : (r.1 9 j = 5) = False := eq_false (by rw [m9, hR]; decide)
  have h96 : (r.1 9 j = 6) = False := eq_false (by rw [m9, hR]; decide)
  have e2 := t8 h0 h1
  unfold BMo_compile_9
  simp only [i10, ij, t6, i6, o_nat (show j < 2147483648 by omega), o_nat (show sk j < 2147483648 by omega), h5, h9, h96, e2, ↓reduceIte, bindv, o_p1]
theorem cp_par (hK : TK cl nm N) (hM : MQt cl nm sk N R zb r) (hj : j < N) (h : cl j = 40) : BMo_compile_9 K (a1, Int32.ofNat j, 1, r) = (f_Mo_queue 40 (-1) r).bind fun q => K (a1, Int32.ofNat (j + 1), 1, q) := by
  rw [cp_sign hK hM hj (by omega) (by omega), h, if_pos (show Int32.ofNat 40 = 40 from rfl)]
theorem cp_com (hK : TK cl nm N) (hM : MQt cl nm sk N R zb r) (hj : j < N) (h : cl j = 44) : BMo_compile_9 K (a1, Int32.ofNat j, 1, r) = (f_Mo_settle 1 r).bind fun q => K (a1, Int32.ofNat (j + 1), 1, q) := by
  rw [cp_sign hK hM hj (by omega) (by omega), h, if_neg (show ¬ Int32.ofNat 44 = 40 by decide), if_pos (show Int32.ofNat 44 = 44 from rfl)]
theorem cp_cls {r1 : RS} {v : Int32} {Q : List (Nat × Int32)} (hK : TK cl nm N) (hM : MQt cl nm sk N R zb r) (hj : j < N) (h : cl j = 41) (hs : f_Mo_settle 1 r = some r1) (hQ : QU r1 ((40, v) :: Q)) (hl : Q.length < 64) : BMo_compile_9 K (a1, Int32.ofNat j, 1, r) = if v < 0 then K (a1, Int32.ofNat (j + 1), 1, (r1.1, va_up r1.2.1 12 (Int32.ofNat Q.length), r1.2.2)) else (f_Mo_emit 7 v (r1.1, va_up r1.2.1 12 (Int32.ofNat Q.length), r1.2.2)).bind fun q => K (a1, Int32.ofNat (j + 1), 1, q) := by
  have h12 : r1.2.1 12 = Int32.ofNat (Q.length + 1) := hQ.1
  have h29 : r1.1 29 Q.length = v := hQ.2.2.1
  rw [cp_sign hK hM hj (by omega) (by omega), h, if_neg (show ¬ Int32.ofNat 41 = 40 by decide), if_neg (show ¬ Int32.ofNat 41 = 44 by decide), if_pos (show Int32.ofNat 41 = 41 from rfl), hs, Option.bind_some, h12, pop12 (by omega), if_pos (o_inb hl (by omega)), o_nat (by omega), h29]
  show (if v < 0 then _ else if inb (Int32.ofNat Q.length) 64 = true then _ else none) = _
  rw [if_pos (show inb (Int32.ofNat Q.length) 64 = true from o_inb hl (by omega))]
  rfl
theorem cp_opr {t : Nat} (hK : TK cl nm N) (hM : MQt cl nm sk N R zb r) (hj : j < N) (h : cl j = t) (ht : t = 42 ∨ t = 43 ∨ t = 45 ∨ t = 60) : BMo_compile_9 K (a1, Int32.ofNat j, 1, r) = (f_Mo_settle (Int32.ofNat (rk t)) r).bind fun q18 => (f_Mo_queue (Int32.ofNat t) (-1) q18).bind fun q19 => K (a1, Int32.ofNat (j + 1), 1, q19) := by
  have hr := rank_ok t (by omega)
  have h1 : 1 ≤ rk t := by rcases ht with e | e | e | e <;> subst e <;> decide
  have h3 := rk_le t
  rw [cp_sign hK hM hj (by omega) (by omega), h, if_neg (show ¬ Int32.ofNat t = 40 by rw [show (40 : Int32) = Int32.ofNat 40 from rfl, o_eq (by omega) (by omega)]; omega), if_neg (show ¬ Int32.ofNat t = 44 by rw [show (44 : Int32) = Int32.ofNat 44 from rfl, o_eq (by omega) (by omega)]; omega), if_neg (show ¬ Int32.ofNat t = 41 by rw [show (41 : Int32) = Int32.ofNat 41 from rfl, o_eq (by omega) (by omega)]; omega), hr, Option.bind_some, if_neg (show ¬ Int32.ofNat (rk t) ≤ 0 by rw [show (0 : Int32) = Int32.ofNat 0 from rfl, o_le (by omega) (by omega)]; omega), Option.bind_some]
theorem cp_end {t : Nat} (hK : TK cl nm N) (hM : MQt cl nm sk N R zb r) (hj : j < N) (h : cl j = t) (ht : t = 59 ∨ t = 123) : BMo_compile_9 K (a1, Int32.ofNat j, 1, r) = (f_Mo_settle 1 r).bind fun q16 => K (a1, Int32.ofNat j, 0, q16) := by
  have hr := rank_ok t (by omega)
  have h1 : rk t = 0 := by rcases ht with e | e <;> subst e <;> decide
  rw [cp_sign hK hM hj (by omega) (by omega), h, if_neg (show ¬ Int32.ofNat t = 40 by rw [show (40 : Int32) = Int32.ofNat 40 from rfl, o_eq (by omega) (by omega)]; omega), if_neg (show ¬ Int32.ofNat t = 44 by rw [show (44 : Int32) = Int32.ofNat 44 from rfl, o_eq (by omega) (by omega)]; omega), if_neg (show ¬ Int32.ofNat t = 41 by rw [show (41 : Int32) = Int32.ofNat 41 from rfl, o_eq (by omega) (by omega)]; omega), hr, Option.bind_some, h1, if_pos (by decide)]
theorem cp_stop : BMo_compile_9 K (a1, Int32.ofNat j, 0, r) = some (Int32.ofNat j, r) := by
  unfold BMo_compile_9
  dsimp only
  rw [if_pos rfl]
end
def ql (pa : Nat → Nat) : List Fm → List (Nat × Int32)
  | [] => []
  | (ca, _, _, o) :: F => om o ++ (if F = [] then [] else (40, if ca = 0 then -1 else Int32.ofNat (pa (ca - 1))) :: ql pa F)
theorem ql_ft {pa : Nat → Nat} {R : Nat → Nat} {j : Nat} : ∀ {F : List Fm}, FT R j F → (ql pa F).length ≤ 4 * F.length
  | [], _ => Nat.le_refl _
  | (ca, le, cn, o) :: F, ⟨a, _, c⟩ => by
    have h3 := pw_3 a.2.2.1 a.2.2.2.1
    have ih := ql_ft (pa := pa) c
    have h3' : o.length ≤ 3 := h3
    show (om o ++ (if F = [] then [] else _ :: ql pa F)).length ≤ 4 * (F.length + 1)
    rw [List.length_append, List.length_map]
    split
    · show o.length + 0 ≤ _; omega
    · rw [List.length_cons]; omega
theorem ql_fi {pa : Nat → Nat} {R : Nat → Nat} {st j : Nat} : ∀ {F : List Fm}, FI R st j F → (ql pa F).length ≤ 4 * F.length
  | [], _ => Nat.le_refl _
  | (ca, le, cn, o) :: F, ⟨a, _, _, c⟩ => by
    have h3 := pw_3 a.2.2.1 a.2.2.2.1
    have ih := ql_ft (pa := pa) c
    have h3' : o.length ≤ 3 := h3
    show (om o ++ (if F = [] then [] else _ :: ql pa F)).length ≤ 4 * (F.length + 1)
    rw [List.length_append, List.length_map]
    split
    · show o.length + 0 ≤ _; omega
    · rw [List.length_cons]; omega
theorem os_le : ∀ {ca le cn : Nat} {o : List Nat} {F : List Fm}, o.length ≤ oS ((ca, le, cn, o) :: F) := by
  intro ca le cn o F
  show o.length ≤ o.length + (if ca = 0 then 0 else 1) + oS F
  omega
theorem At.un {cl nm : Nat → Nat} {f : Nat} {c0 : Cds} {xf : XS} {j : Nat} {x y : XS} (h : At cl nm f c0 xf j x) (h2 : At cl nm f c0 xf j y) : x = y := Option.some.inj (h.1.symm.trans h2.1)
theorem At.st {cl nm : Nat → Nat} {f : Nat} {c0 : Cds} {xf : XS} {j : Nat} {x y : XS} (h : At cl nm f c0 xf j x) (h2 : At cl nm f c0 xf (j + 1) y) (hf : f < j) : St cl nm f j x y := by
  obtain ⟨z, h3, h4⟩ := aut_go hf h2.1
  have e := Option.some.inj (h.1.symm.trans h3)
  subst e
  exact h4
/-- What is fixed while the model writes the code of one part. -/
def Pt (cl nm sk : Nat → Nat) (N : Nat) (R zb sl : Nat → Nat) (f m : Nat) (c0 : Cds) (xf : XS) : Prop :=
  (TK cl nm N) ∧
  (f < m) ∧
  (m ≤ N) ∧
  (aut cl nm f c0 m = some xf) ∧
  (xf.1 = 13) ∧
  (c0.length ≤ f) ∧
  (∀ k, f ≤ k → k < m → R k = xr xf k) ∧
  (∀ k, f ≤ k → k < m → 3 ≤ R k → 0 < zb k ∧ zb k ≤ N)
theorem Pt.tk {cl nm sk : Nat → Nat} {N : Nat} {R zb sl : Nat → Nat} {f m : Nat} {c0 : Cds} {xf : XS} (h : Pt cl nm sk N R zb sl f m c0 xf) : TK cl nm N := h.1
theorem Pt.fm {cl nm sk : Nat → Nat} {N : Nat} {R zb sl : Nat → Nat} {f m : Nat} {c0 : Cds} {xf : XS} (h : Pt cl nm sk N R zb sl f m c0 xf) : f < m := h.2.1
theorem Pt.mN {cl nm sk : Nat → Nat} {N : Nat} {R zb sl : Nat → Nat} {f m : Nat} {c0 : Cds} {xf : XS} (h : Pt cl nm sk N R zb sl f m c0 xf) : m ≤ N := h.2.2.1
theorem Pt.ax {cl nm sk : Nat → Nat} {N : Nat} {R zb sl : Nat → Nat} {f m : Nat} {c0 : Cds} {xf : XS} (h : Pt cl nm sk N R zb sl f m c0 xf) : aut cl nm f c0 m = some xf := h.2.2.2.1
theorem Pt.x13 {cl nm sk : Nat → Nat} {N : Nat} {R zb sl : Nat → Nat} {f m : Nat} {c0 : Cds} {xf : XS} (h : Pt cl nm sk N R zb sl f m c0 xf) : xf.1 = 13 := h.2.2.2.2.1
theorem Pt.c0f {cl nm sk : Nat → Nat} {N : Nat} {R zb sl : Nat → Nat} {f m : Nat} {c0 : Cds} {xf : XS} (h : Pt cl nm sk N R zb sl f m c0 xf) : c0.length ≤ f := h.2.2.2.2.2.1
theorem Pt.rx {cl nm sk : Nat → Nat} {N : Nat} {R zb sl : Nat → Nat} {f m : Nat} {c0 : Cds} {xf : XS} (h : Pt cl nm sk N R zb sl f m c0 xf) : ∀ k, f ≤ k → k < m → R k = xr xf k := h.2.2.2.2.2.2.1
theorem Pt.zr {cl nm sk : Nat → Nat} {N : Nat} {R zb sl : Nat → Nat} {f m : Nat} {c0 : Cds} {xf : XS} (h : Pt cl nm sk N R zb sl f m c0 xf) : ∀ k, f ≤ k → k < m → 3 ≤ R k → 0 < zb k ∧ zb k ≤ N := h.2.2.2.2.2.2.2
theorem Pt.at {cl nm sk : Nat → Nat} {N : Nat} {R zb sl : Nat → Nat} {f m : Nat} {c0 : Cds} {xf : XS} (h : Pt cl nm sk N R zb sl f m c0 xf) {j : Nat} (h1 : f < j) (h2 : j ≤ m) : ∃ x, At cl nm f c0 xf j x := by
  obtain ⟨x, hx⟩ := part_at (by have := h.tk.1; have := h.mN; omega) h.ax h.x13 h.c0f (j - (f + 1)) (by omega)
  rw [show f + 1 + (j - (f + 1)) = j by omega] at hx
  exact ⟨x, hx⟩
theorem Pt.lt {cl nm sk : Nat → Nat} {N : Nat} {R zb sl : Nat → Nat} {f m : Nat} {c0 : Cds} {xf : XS} (h : Pt cl nm sk N R zb sl f m c0 xf) {j : Nat} {x : XS} (h2 : j ≤ m) (hA : At cl nm f c0 xf j x) (h12 : x.1 ≤ 12) : j < m := by
  by_cases e : j < m
  · exact e
  · have : j = m := by omega
    subst this
    have e := Option.some.inj (hA.1.symm.trans h.ax)
    subst e
    have := h.x13
    omega
theorem At.role {cl nm : Nat → Nat} {f : Nat} {c0 : Cds} {xf : XS} {j : Nat} {x : XS} (h : At cl nm f c0 xf j x) {q : Nat} (hq : q < j) (hp : pend cl j x → q + 1 ≠ j) : xr xf q = xr x q := h.2.1.1 q hq hp
abbrev pa (cl : Nat → Nat) (N : Nat) (zb : Nat → Nat) (t : Nat) : Nat := pt cl N (zb t - 1)
theorem cp_loop {cl nm sk : Nat → Nat} {N : Nat} {R zb sl : Nat → Nat} {f m : Nat} {c0 : Cds} {xf : XS} (hP : Pt cl nm sk N R zb sl f m c0 xf) {a1 : Int32} : ∀ (z j : Nat) (x : XS) (r : RS) (M : Nat), m - j ≤ z → f < j → j ≤ m → At cl nm f c0 xf j x → 9 ≤ x.1 → x.1 ≤ 12 → ¬ pend cl j x → MQt cl nm sk N R zb r → (∀ k, f ≤ k → k < m → 3 ≤ R k → R k ≤ 5 → r.1 27 (zb k - 1) = Int32.ofNat (sl (zb k - 1))) → QU r (ql (pa cl N zb) x.2.1) → MCd zb sl (pt cl N) r (xc x) → ∃ (e st le : Nat) (o : List Nat) (ρ γ : Nat → Nat) (c : Cds) (r' : RS), At cl nm f c0 xf e (st, [(0, le, 0, o)], ρ, γ, c, x.2.2.2.2.2) ∧ (st = 11 ∨ st = 12) ∧ cl e = xen x ∧ j ≤ e ∧ e < m ∧ lpN BMo_compile_9 (M + z + 3) (a1, Int32.ofNat j, 1, r) = some (Int32.ofNat e, r') ∧ MCd zb sl (pt cl N) r' (c ++ oi o) ∧ FrK r r' := by
  have hK := hP.tk
  have hN := hK.1
  have hmN := hP.mN
  intro z
  induction z with
  | zero =>
    intro j x r M h1 h2 h3 hA h9 h12 _ _ _ _ _
    have := hP.lt h3 hA h12
    omega
  | succ z ih =>
    intro j x r M h1 h2 h3 hA h9 h12 hnp hM h27 hQ hC
    have hjm := hP.lt h3 hA h12
    obtain ⟨x', hA'⟩ := hP.at (j := j + 1) (by omega) (by omega)
    have hst := hA.st hA' h2
    obtain ⟨-, -, hwf, -, -, hf5, -, -, A, hG, -⟩ := id hA
    obtain ⟨-, -, -, -, -, hf5', -, -, A', hG', -⟩ := id hA'
    have hRj : ∀ {v : Nat}, xr x' j = v → (pend cl (j + 1) x' → False) → R j = v := fun {v} e hp => by
      rw [hP.rx j (by omega) hjm, hA'.role (by omega) (fun h => absurd (hp h) id)]
      exact e
    rw [show M + (z + 1) + 3 = (M + z + 3) + 1 by omega, lp_succ]
    have go : ∀ (x2 : XS) (j2 : Nat) (r1 : RS), At cl nm f c0 xf j2 x2 → j < j2 → j2 ≤ m → 9 ≤ x2.1 → x2.1 ≤ 12 → ¬ pend cl j2 x2 → x2.2.2.2.2.2 = x.2.2.2.2.2 → FrK r r1 → QU r1 (ql (pa cl N zb) x2.2.1) → MCd zb sl (pt cl N) r1 (xc x2) → ∃ (e st le : Nat) (o : List Nat) (ρ γ : Nat → Nat) (c : Cds) (r' : RS), At cl nm f c0 xf e (st, [(0, le, 0, o)], ρ, γ, c, x.2.2.2.2.2) ∧ (st = 11 ∨ st = 12) ∧ cl e = xen x ∧ j ≤ e ∧ e < m ∧ lpN BMo_compile_9 (M + z + 3) (a1, Int32.ofNat j2, 1, r1) = some (Int32.ofNat e, r') ∧ MCd zb sl (pt cl N) r' (c ++ oi o) ∧ FrK r r' := by
      intro x2 j2 r1 g1 g2 g3 g4 g5 g6 g7 g8 g9 g10
      obtain ⟨e, st, le, o, ρ, γ, c, r', k1, k2, k3, k4, k5, k6, k7, k8⟩ := ih j2 x2 r1 M (by omega) (by omega) g3 g1 g4 g5 g6 (hM.cg g8.ff) (fun k a b c d => by rw [g8.1 27 (by decide) (by decide) (by decide) (by decide)]; exact h27 k a b c d) g9 g10
      rw [g7] at k1
      have k3' : cl e = x2.2.2.2.2.2.2.1 := k3
      rw [g7] at k3'
      exact ⟨e, st, le, o, ρ, γ, c, r', k1, k2, k3', by omega, k5, k6, k7, g8.tr k8⟩
    have hbu := hG.bu (by omega)
    refine hst _ ?_ ?_ ?_ ?_ ?_ ?_ ?_ ?_ ?_ ?_ ?_ ?_ ?_ ?_ ?_ ?_ ?_ ?_ ?_ ?_ ?_ ?_ ?_ ?_ ?_
    · intro _ _ _ _ _ eX eY _
      cases eX
      cases eY
      exact absurd h9 (by show ¬ 9 ≤ 0; omega)
    · intro _ _ _ _ _ eX eY _
      cases eX
      cases eY
      exact absurd h9 (by show ¬ 9 ≤ 1; omega)
    · intro _ _ _ _ _ _ _ _ _ _ _ _ _ eX eY _
      cases eX
      cases eY
      exact absurd h9 (by show ¬ 9 ≤ 5; omega)
    · intro _ _ _ _ _ _ eX eY h _
      cases eX
      cases eY
      exact absurd h9 (by dsimp only; omega)
    · intro _ _ _ _ _ eX eY _
      cases eX
      cases eY
      exact absurd h9 (by show ¬ 9 ≤ 3; omega)
    · intro _ _ _ _ _ _ _ _ _ _ _ _ _ _ eX eY h _
      cases eX
      cases eY
      exact absurd h9 (by dsimp only; omega)
    · intro _ _ _ _ _ _ _ _ _ _ _ _ _ eX eY _ _
      cases eX
      cases eY
      exact absurd h9 (by show ¬ 9 ≤ 6; omega)
    · intro _ _ _ _ _ _ _ _ _ _ _ _ _ _ _ _ eX eY _
      cases eX
      cases eY
      exact absurd h9 (by show ¬ 9 ≤ 6; omega)
    · intro _ _ _ _ _ _ _ _ _ _ _ _ _ eX eY _
      cases eX
      cases eY
      exact absurd h9 (by show ¬ 9 ≤ 6; omega)
    · intro _ _ _ _ _ eX eY _
      cases eX
      cases eY
      exact absurd h9 (by show ¬ 9 ≤ 6; omega)
    · intro _ _ _ _ _ _ _ _ _ _ _ _ _ _ eX eY _
      cases eX
      cases eY
      exact absurd h9 (by show ¬ 9 ≤ 6; omega)
    · intro _ _ _ _ _ _ _ _ _ _ _ _ _ _ eX eY _
      cases eX
      cases eY
      exact absurd h9 (by show ¬ 9 ≤ 6; omega)
    · intro _ _ _ _ _ _ _ _ _ _ _ _ _ eX eY _
      cases eX
      cases eY
      exact absurd h9 (by show ¬ 9 ≤ 7; omega)
    · intro _ _ _ _ _ eX eY _
      cases eX
      cases eY
      exact absurd h9 (by show ¬ 9 ≤ 8; omega)
    · intro ca le cn o F ρ γ c V eX eY ht
      cases eX
      cases eY
      obtain ⟨f1, f2, -, f4⟩ : FI (xr xf) 10 j ((ca, le, cn, o) :: F) := hG.fi
      obtain ⟨hca, hcn, ho⟩ : ca ≠ 0 ∧ cn = 0 ∧ o = [] := f2 rfl
      subst hcn ho
      have hF : F ≠ [] := fun e => hca (f1.2.2.2.2.2 e)
      have hcaj : ca < j := f1.1
      have hQ' : QU r (om [] ++ (40, Int32.ofNat (pa cl N zb (ca - 1))) :: ql (pa cl N zb) F) := by
        have : QU r (om [] ++ (if F = [] then [] else (40, if ca = 0 then -1 else Int32.ofNat (pa cl N zb (ca - 1))) :: ql (pa cl N zb) F)) := hQ
        rw [if_neg hF, if_neg hca] at this
        exact this
      have hql := ql_ft (pa := pa cl N zb) f4
      have hf5F : F.length + 1 ≤ 5 := hf5
      have hcl : c.length + oS ((ca, le, 0, []) :: F) + 1 + 5 ≤ j := hbu
      obtain ⟨r1, s1, s2, s3, s4⟩ := settle_ok (a := 1) (l := 1) (by omega) (by omega) rfl (Or.inr ⟨_, _, rfl⟩) (fun t h => absurd h List.not_mem_nil) hQ' (by rw [List.length_append, List.length_cons]; show 0 + _ ≤ 64; omega) hC (by show c.length + 0 ≤ 690; omega)
      have s2' : QU r1 ((40, Int32.ofNat (pa cl N zb (ca - 1))) :: ql (pa cl N zb) F) := s2
      have s3' : MCd zb sl (pt cl N) r1 c := by
        have : MCd zb sl (pt cl N) r1 (c ++ oi []) := s3
        rw [show oi [] = [] from rfl, List.append_nil] at this
        exact this
      have hpa : pa cl N zb (ca - 1) < 2147483648 := by
        show pt cl N _ < _
        unfold pt
        repeat' split
        all_goals omega
      rw [cp_cls hK hM (by omega) ht s1 s2' (by omega), if_neg (show ¬ Int32.ofNat (pa cl N zb (ca - 1)) < 0 by rw [show (0 : Int32) = Int32.ofNat 0 from rfl, o_lt hpa (by omega)]; omega)]
      obtain ⟨r2, k1, k2, k3, k4, k5⟩ := emit_ok (p := (3, Int32.ofNat (ca - 1))) (r := (r1.1, va_up r1.2.1 12 (Int32.ofNat (ql (pa cl N zb) F).length), r1.2.2)) (s3'.cg rfl rfl rfl) (by omega) (tm3 (by omega))
      rw [k1, Option.bind_some]
      exact go _ (j + 1) r2 hA' (by omega) (by omega) (by show 9 ≤ 11; omega) (by show 11 ≤ 12; omega) (fun h => absurd h.1 (by show (11 : Nat) ≠ 12; omega)) rfl (s4.tr ⟨fun i a b _ _ => k3 i a b, fun i a b => (k4 i a).trans (up_ne b), k5⟩) ⟨(k4 12 (by decide)).trans rfl, s2'.2.2.2.cg (fun i _ => ⟨by rw [k3 28 (by decide) (by decide)], by rw [k3 29 (by decide) (by decide)]⟩)⟩ k2
    · intro st ca le cn o F ρ γ c V eX eY h9' ht
      cases eX
      cases eY
      have hcl : c.length + oS ((ca, le, cn, o) :: F) + (if 9 ≤ st ∧ st ≤ 12 then 1 else 0) + 5 ≤ j := hbu
      rw [cp_num hK hM (by omega) ht]
      obtain ⟨r2, k1, k2, k3, k4, k5⟩ := emit_ok (p := (0, Int32.ofNat (nm j))) hC (by show c.length < 700; omega) tm0
      rw [k1, Option.bind_some]
      exact go _ (j + 1) r2 hA' (by omega) (by omega) (by show 9 ≤ 11; omega) (by show 11 ≤ 12; omega) (fun h => absurd h.1 (by show (11 : Nat) ≠ 12; omega)) rfl ⟨fun i a b _ _ => k3 i a b, fun i a _ => k4 i a, k5⟩ (hQ.cg (k4 12 (by decide)) (k3 28 (by decide) (by decide)) (k3 29 (by decide) (by decide))) k2
    · intro st ca le cn o F ρ γ c V eX eY h9' ht h40
      cases eX
      cases eY
      have hcl : c.length + oS ((ca, le, cn, o) :: F) + (if 9 ≤ st ∧ st ≤ 12 then 1 else 0) + 5 ≤ j := hbu
      have hnp' : ¬ pend cl (j + 1) (12, (ca, le, if st = 10 then 1 else cn, o) :: F, upN ρ j 5, γ, c ++ [((1 : Int32), Int32.ofNat j)], V) := fun h => h40 ⟨h.2.1, by have h4 : F.length + 1 ≤ 4 := h.2.2; omega⟩
      have hR : R j = 5 := hRj (v := 5) (by show upN ρ j 5 j = 5; exact uN_eq) (fun h => hnp' h)
      obtain ⟨z1, z2⟩ := hP.zr j (by omega) hjm (by omega)
      rw [cp_var (b := zb j - 1) hK hM (by omega) hR (by omega), h27 j (by omega) hjm (by omega) (by omega)]
      obtain ⟨r2, k1, k2, k3, k4, k5⟩ := emit_ok (p := (1, Int32.ofNat j)) hC (by show c.length < 700; omega) (tm1 (by omega))
      rw [k1, Option.bind_some]
      exact go _ (j + 1) r2 hA' (by omega) (by omega) (by show 9 ≤ 12; omega) (by show 12 ≤ 12; omega) hnp' rfl ⟨fun i a b _ _ => k3 i a b, fun i a _ => k4 i a, k5⟩ (hQ.cg (k4 12 (by decide)) (k3 28 (by decide) (by decide)) (k3 29 (by decide) (by decide))) k2
    · intro st ca le cn o F ρ γ c V eX eY h9' ht h40 hF
      cases eX
      cases eY
      have hj1 : j + 1 < m := hP.lt (by omega) hA' (by show 12 ≤ 12; omega)
      obtain ⟨x2, hA2⟩ := hP.at (j := j + 2) (by omega) (by omega)
      have hst2 := hA'.st hA2 (by omega)
      have htm := hG'.tm (by show 8 ≤ 12; omega) (by show 12 ≤ 12; omega)
      generalize hx1 : (12, (ca, le, if st = 10 then 1 else cn, o) :: F, upN ρ j 5, γ, c, V) = x1 at hst2 htm hA' hG'
      refine hst2 _ ?_ ?_ ?_ ?_ ?_ ?_ ?_ ?_ ?_ ?_ ?_ ?_ ?_ ?_ ?_ ?_ ?_ ?_ ?_ ?_ ?_ ?_ ?_ ?_ ?_
      · intro _ _ _ _ _ eX eY _
        cases eX
        cases eY
        injection hx1 with e1 e2; omega
      · intro _ _ _ _ _ eX eY _
        cases eX
        cases eY
        injection hx1 with e1 e2; omega
      · intro _ _ _ _ _ _ _ _ _ _ _ _ _ eX eY _
        cases eX
        cases eY
        injection hx1 with e1 e2; omega
      · intro _ _ _ _ _ _ eX eY h _
        cases eX
        cases eY
        injection hx1 with e1 e2; omega
      · intro _ _ _ _ _ eX eY _
        cases eX
        cases eY
        injection hx1 with e1 e2; omega
      · intro _ _ _ _ _ _ _ _ _ _ _ _ _ _ eX eY h _
        cases eX
        cases eY
        injection hx1 with e1 e2; omega
      · intro _ _ _ _ _ _ _ _ _ _ _ _ _ eX eY _ _
        cases eX
        cases eY
        injection hx1 with e1 e2; omega
      · intro _ _ _ _ _ _ _ _ _ _ _ _ _ _ _ _ eX eY _
        cases eX
        cases eY
        injection hx1 with e1 e2; omega
      · intro _ _ _ _ _ _ _ _ _ _ _ _ _ eX eY _
        cases eX
        cases eY
        injection hx1 with e1 e2; omega
      · intro _ _ _ _ _ eX eY _
        cases eX
        cases eY
        injection hx1 with e1 e2; omega
      · intro _ _ _ _ _ _ _ _ _ _ _ _ _ _ eX eY _
        cases eX
        cases eY
        injection hx1 with e1 e2; omega
      · intro _ _ _ _ _ _ _ _ _ _ _ _ _ _ eX eY _
        cases eX
        cases eY
        injection hx1 with e1 e2; omega
      · intro _ _ _ _ _ _ _ _ _ _ _ _ _ eX eY _
        cases eX
        cases eY
        injection hx1 with e1 e2; omega
      · intro _ _ _ _ _ eX eY _
        cases eX
        cases eY
        injection hx1 with e1 e2; omega
      · intro _ _ _ _ _ _ _ _ _ eX eY _
        cases eX
        cases eY
        injection hx1 with e1 e2; omega
      · intro _ _ _ _ _ _ _ _ _ _ eX eY h _
        cases eX
        cases eY
        injection hx1 with e1 e2; omega
      · intro _ _ _ _ _ _ _ _ _ _ eX eY h _ _
        cases eX
        cases eY
        injection hx1 with e1 e2; omega
      · intro _ _ _ _ _ _ _ _ _ _ eX eY h _ _ _
        cases eX
        cases eY
        injection hx1 with e1 e2; omega
      · intro _ _ _ _ _ _ _ _ _ _ eX eY h _ _
        cases eX
        cases eY
        injection hx1 with e1 e2; omega
      · intro ca2 le2 cn2 o2 F2 ρ2 γ2 c2 V2 eX eY _ _
        cases eX
        cases eY
        injection hx1 with e1 e2
        injection e2 with e2 e3
        injection e3 with e3 e4
        injection e4 with e4 e5
        injection e5 with e5 e6
        injection e2 with e7 e8
        injection e7 with e7 e9
        injection e9 with e9 e10
        injection e10 with e10 e11
        subst e3 e4 e5 e6 e7 e8 e9 e10 e11
        have hR : R j = 6 := by
          rw [hP.rx j (by omega) hjm, hA2.role (by omega) (fun h => absurd h.1 (by show (10 : Nat) ≠ 12; omega))]
          show upN (upN ρ j 5) (j + 1 - 1) 6 j = 6
          rw [Nat.add_sub_cancel, uN_eq]
        obtain ⟨z1, z2⟩ := hP.zr j (by omega) hjm (by omega)
        rw [cp_call (b := zb j - 1) hK hM (by omega) hR (by omega)]
        have hql := ql_fi (pa := pa cl N zb) hG.fi
        have hf5' : F.length + 1 ≤ 5 := hf5
        have hql' : (ql (pa cl N zb) ((ca, le, cn, o) :: F)).length ≤ 4 * (F.length + 1) := hql
        obtain ⟨r2, k1, k2, k3, k4⟩ := queue_ok (t := 40) (v := Int32.ofNat (pt cl N (zb j - 1))) (a1 := 40) hC hQ (by show (ql (pa cl N zb) ((ca, le, cn, o) :: F)).length < 64; omega) rfl
        rw [k1, Option.bind_some]
        refine go _ (j + 2) r2 hA2 (by omega) (by omega) (by show 9 ≤ 10; omega) (by show 10 ≤ 12; omega) (fun h => absurd h.1 (by show (10 : Nat) ≠ 12; omega)) rfl k4 ?_ k2
        show QU r2 (om [] ++ (if (ca, le, if st = 10 then 1 else cn, o) :: F = [] then [] else (40, if j + 1 = 0 then -1 else Int32.ofNat (pa cl N zb (j + 1 - 1))) :: ql (pa cl N zb) ((ca, le, if st = 10 then 1 else cn, o) :: F)))
        rw [if_neg (List.cons_ne_nil _ _), if_neg (by omega), Nat.add_sub_cancel]
        exact k3
      · intro _ _ _ _ _ _ _ _ _ _ _ _ eX eY h11 hc _
        cases eX
        cases eY
        omega
      · intro _ _ _ _ _ _ _ _ _ _ _ _ _ _ _ _ eX eY _ hc _
        cases eX
        cases eY
        omega
      · intro st2 ca2 le2 cn2 o2 ρ2 γ2 c2 bl2 en2 ln2 ag2 fin2 np2 σ2 α2 ω2 eX eY _ hc he
        cases eX
        cases eY
        have : en2 = 59 := by
          rcases htm.1 with e | e
          · exact e.1
          · exact absurd e.1 he
        omega
      · intro _ _ _ _ _ _ _ _ _ _ eX eY _ hc _
        cases eX
        cases eY
        omega
      · intro _ _ _ _ _ _ _ _ _ _ eX eY _ hc _ _
        cases eX
        cases eY
        omega
    · intro st ca le cn o F ρ γ c V eX eY h9' ht hF
      cases eX
      cases eY
      have hql := ql_fi (pa := pa cl N zb) hG.fi
      have hf5' : F.length + 1 ≤ 5 := hf5
      have hql' : (ql (pa cl N zb) ((ca, le, cn, o) :: F)).length ≤ 4 * (F.length + 1) := hql
      rw [cp_par hK hM (by omega) ht]
      obtain ⟨r2, k1, k2, k3, k4⟩ := queue_ok (t := 40) (v := -1) (a1 := 40) hC hQ (by show (ql (pa cl N zb) ((ca, le, cn, o) :: F)).length < 64; omega) rfl
      rw [k1, Option.bind_some]
      refine go _ (j + 1) r2 hA' (by omega) (by omega) (by show 9 ≤ 9; omega) (by show 9 ≤ 12; omega) (fun h => absurd h.1 (by show (9 : Nat) ≠ 12; omega)) rfl k4 ?_ k2
      show QU r2 (om [] ++ (if (ca, le, if st = 10 then 1 else cn, o) :: F = [] then [] else (40, if 0 = 0 then -1 else Int32.ofNat (pa cl N zb (0 - 1))) :: ql (pa cl N zb) ((ca, le, if st = 10 then 1 else cn, o) :: F)))
      rw [if_neg (List.cons_ne_nil _ _), if_pos rfl]
      exact k3
    · intro ca le cn o F ρ γ c V eX eY ht hF
      cases eX
      cases eY
      exact absurd ⟨rfl, ht, by show F.length + 1 ≤ 4; omega⟩ hnp
    · intro st t le' ca le cn o F ρ γ c V eX eY h9' ht ht2
      cases eX
      cases eY
      obtain ⟨f1, -, f3, f4⟩ : FI (xr xf) st j ((ca, le, cn, o) :: F) := hG.fi
      have hcl : c.length + oS ((ca, le, cn, o) :: F) + (if 9 ≤ st ∧ st ≤ 12 then 1 else 0) + 5 ≤ j := hbu
      have hol := os_le (ca := ca) (le := le) (cn := cn) (o := o) (F := F)
      have hql : (ql (pa cl N zb) ((ca, le, cn, o) :: F)).length ≤ 4 * (F.length + 1) := ql_fi (pa := pa cl N zb) hG.fi
      have hf5F : F.length + 1 ≤ 5 := hf5
      have h1k : 1 ≤ rk t := by rcases ht2 with e | e | e | e <;> subst e <;> decide
      have p4 := (pw_dw (l := rk t) (o := o) f1.2.2.2.1).2.2.2
      obtain ⟨r1, s1, s2, s3, s4⟩ := settle_ok (l := rk t) (a := Int32.ofNat (rk t)) h1k (rk_le t) rfl (rest := if F = [] then [] else (40, if ca = 0 then -1 else Int32.ofNat (pa cl N zb (ca - 1))) :: ql (pa cl N zb) F) (by split; exact Or.inl rfl; exact Or.inr ⟨_, _, rfl⟩) f1.2.2.1 hQ (Nat.le_trans hql (by omega)) hC (by show c.length + o.length ≤ 690; omega)
      have hlen : (om (dw (rk t) o) ++ (if F = [] then [] else (40, if ca = 0 then -1 else Int32.ofNat (pa cl N zb (ca - 1))) :: ql (pa cl N zb) F)).length < 64 := by
        have e : (om o ++ (if F = [] then [] else (40, if ca = 0 then (-1 : Int32) else Int32.ofNat (pa cl N zb (ca - 1))) :: ql (pa cl N zb) F)).length ≤ 4 * (F.length + 1) := hql
        rw [List.length_append, List.length_map] at e ⊢
        omega
      rw [cp_opr hK hM (by omega) ht ht2, s1, Option.bind_some]
      obtain ⟨r2, k1, k2, k3, k4⟩ := queue_ok (t := t) (v := -1) (a1 := Int32.ofNat t) s3 s2 hlen rfl
      rw [k1, Option.bind_some]
      exact go _ (j + 1) r2 hA' (by omega) (by omega) (by show 9 ≤ 9; omega) (by show 9 ≤ 12; omega) (fun h => absurd h.1 (by show (9 : Nat) ≠ 12; omega)) rfl (s4.tr k4) k3 k2
    · intro st ca le cn o ρ γ c bl ln ag fin np σ α ω eX eY h9' ht hb4
      cases eX
      cases eY
      obtain ⟨f1, -, f3, f4⟩ : FI (xr xf) st j [(ca, le, cn, o)] := hG.fi
      have hca : ca = 0 := f1.2.2.2.2.2 rfl
      have hcn : cn = 0 := f1.2.1 hca
      subst hca hcn
      have hcl : c.length + (o.length + 0 + 0) + (if 9 ≤ st ∧ st ≤ 12 then 1 else 0) + 5 ≤ j := hbu
      have h3o : o.length ≤ 3 := pw_3 f1.2.2.1 f1.2.2.2.1
      have hQ' : QU r (om o ++ []) := hQ
      obtain ⟨r1, s1, s2, s3, s4⟩ := settle_ok (l := 1) (a := 1) (by omega) (by omega) rfl (Or.inl rfl) f1.2.2.1 hQ' (by rw [List.append_nil, List.length_map]; show o.length ≤ 64; omega) hC (by show c.length + o.length ≤ 690; omega)
      rw [(tw_1 f1.2.2.1).1] at s3
      refine ⟨j, st, le, o, ρ, γ, c, r1, hA, h9', ht, Nat.le_refl _, hjm, ?_, s3, s4⟩
      rw [cp_end hK hM (by omega) ht (Or.inr rfl), s1, Option.bind_some, show M + z + 3 = (M + z + 2) + 1 by omega, lp_succ]
      exact cp_stop
    · intro st ca le cn o ρ γ c bl en ln ag fin np σ α ω eX eY h9' ht he
      cases eX
      cases eY
      obtain ⟨f1, -, f3, f4⟩ : FI (xr xf) st j [(ca, le, cn, o)] := hG.fi
      have hca : ca = 0 := f1.2.2.2.2.2 rfl
      have hcn : cn = 0 := f1.2.1 hca
      subst hca hcn
      have hen : en = 59 := by
        have htm := hG.tm (by dsimp only; omega) (by dsimp only; omega)
        rcases htm.1 with e | e
        · exact e.1
        · exact absurd e.1 he
      have hcl : c.length + (o.length + 0 + 0) + (if 9 ≤ st ∧ st ≤ 12 then 1 else 0) + 5 ≤ j := hbu
      have h3o : o.length ≤ 3 := pw_3 f1.2.2.1 f1.2.2.2.1
      have hQ' : QU r (om o ++ []) := hQ
      obtain ⟨r1, s1, s2, s3, s4⟩ := settle_ok (l := 1) (a := 1) (by omega) (by omega) rfl (Or.inl rfl) f1.2.2.1 hQ' (by rw [List.append_nil, List.length_map]; show o.length ≤ 64; omega) hC (by show c.length + o.length ≤ 690; omega)
      rw [(tw_1 f1.2.2.1).1] at s3
      refine ⟨j, st, le, o, ρ, γ, c, r1, hA, h9', ht, Nat.le_refl _, hjm, ?_, s3, s4⟩
      rw [cp_end hK hM (by omega) ht (Or.inl hen), s1, Option.bind_some, show M + z + 3 = (M + z + 2) + 1 by omega, lp_succ]
      exact cp_stop
    · intro st ca le cn o F ρ γ c V eX eY h9' ht hF
      cases eX
      cases eY
      obtain ⟨f1, -, f3, f4⟩ : FI (xr xf) st j ((ca, le, cn, o) :: F) := hG.fi
      have hcl : c.length + oS ((ca, le, cn, o) :: F) + (if 9 ≤ st ∧ st ≤ 12 then 1 else 0) + 5 ≤ j := hbu
      have hol := os_le (ca := ca) (le := le) (cn := cn) (o := o) (F := F)
      have hql : (ql (pa cl N zb) ((ca, le, cn, o) :: F)).length ≤ 4 * (F.length + 1) := ql_fi (pa := pa cl N zb) hG.fi
      have hqF := ql_ft (pa := pa cl N zb) f4
      have hf5F : F.length + 1 ≤ 5 := hf5
      have hcaj : ca < j := f1.1
      have hQ' : QU r (om o ++ (40, if ca = 0 then -1 else Int32.ofNat (pa cl N zb (ca - 1))) :: ql (pa cl N zb) F) := by
        have : QU r (om o ++ (if F = [] then [] else (40, if ca = 0 then -1 else Int32.ofNat (pa cl N zb (ca - 1))) :: ql (pa cl N zb) F)) := hQ
        rw [if_neg hF] at this
        exact this
      have h3o : o.length ≤ 3 := pw_3 f1.2.2.1 f1.2.2.2.1
      obtain ⟨r1, s1, s2, s3, s4⟩ := settle_ok (l := 1) (a := 1) (o := o) (by omega) (by omega) rfl (Or.inr ⟨_, _, rfl⟩) f1.2.2.1 hQ' (by rw [List.length_append, List.length_map, List.length_cons]; omega) hC (by show c.length + o.length ≤ 690; omega)
      rw [(tw_1 f1.2.2.1).1] at s3
      rw [(tw_1 f1.2.2.1).2] at s2
      have s2' : QU r1 ((40, if ca = 0 then -1 else Int32.ofNat (pa cl N zb (ca - 1))) :: ql (pa cl N zb) F) := s2
      rw [cp_cls hK hM (by omega) ht s1 s2' (by omega)]
      have hC2 : MCd zb sl (pt cl N) (r1.1, va_up r1.2.1 12 (Int32.ofNat (ql (pa cl N zb) F).length), r1.2.2) (c ++ oi o) := s3.cg rfl rfl rfl
      by_cases hca : ca = 0
      · rw [if_pos (show (if ca = 0 then (-1 : Int32) else Int32.ofNat (pa cl N zb (ca - 1))) < 0 by rw [if_pos hca]; decide)]
        refine go _ (j + 1) _ hA' (by omega) (by omega) (by show 9 ≤ 11; omega) (by show 11 ≤ 12; omega) (fun h => absurd h.1 (by show (11 : Nat) ≠ 12; omega)) rfl (s4.tr ⟨fun _ _ _ _ _ => rfl, fun i _ b => up_ne b, rfl⟩) ⟨rfl, s2'.2.2.2.cg (fun i _ => ⟨rfl, rfl⟩)⟩ ?_
        show MCd zb sl (pt cl N) _ (c ++ oi o ++ (if ca = 0 then [] else _))
        rw [if_pos hca, List.append_nil]
        exact hC2
      · have hpa : pa cl N zb (ca - 1) < 2147483648 := by
          show pt cl N _ < _
          unfold pt
          repeat' split
          all_goals omega
        rw [if_neg (show ¬ (if ca = 0 then (-1 : Int32) else Int32.ofNat (pa cl N zb (ca - 1))) < 0 by rw [if_neg hca, show (0 : Int32) = Int32.ofNat 0 from rfl, o_lt hpa (by omega)]; omega), if_neg hca]
        obtain ⟨r2, k1, k2, k3, k4, k5⟩ := emit_ok (p := (3, Int32.ofNat (ca - 1))) hC2 (by rw [List.length_append, oi_len]; omega) (tm3 (by omega))
        rw [k1, Option.bind_some]
        refine go _ (j + 1) r2 hA' (by omega) (by omega) (by show 9 ≤ 11; omega) (by show 11 ≤ 12; omega) (fun h => absurd h.1 (by show (11 : Nat) ≠ 12; omega)) rfl (s4.tr ⟨fun i a b _ _ => k3 i a b, fun i a b => (k4 i a).trans (up_ne b), k5⟩) ⟨(k4 12 (by decide)).trans rfl, s2'.2.2.2.cg (fun i _ => ⟨by rw [k3 28 (by decide) (by decide)], by rw [k3 29 (by decide) (by decide)]⟩)⟩ ?_
        show MCd zb sl (pt cl N) _ (c ++ oi o ++ (if ca = 0 then [] else _))
        rw [if_neg hca]
        exact k2
    · intro st ca le cn o F ρ γ c V eX eY h9' ht hF hca
      cases eX
      cases eY
      obtain ⟨f1, -, f3, f4⟩ : FI (xr xf) st j ((ca, le, cn, o) :: F) := hG.fi
      have hcl : c.length + oS ((ca, le, cn, o) :: F) + (if 9 ≤ st ∧ st ≤ 12 then 1 else 0) + 5 ≤ j := hbu
      have hol := os_le (ca := ca) (le := le) (cn := cn) (o := o) (F := F)
      have hql : (ql (pa cl N zb) ((ca, le, cn, o) :: F)).length ≤ 4 * (F.length + 1) := ql_fi (pa := pa cl N zb) hG.fi
      have hf5F : F.length + 1 ≤ 5 := hf5
      obtain ⟨r1, s1, s2, s3, s4⟩ := settle_ok (l := 1) (a := 1) (by omega) (by omega) rfl (rest := if F = [] then [] else (40, if ca = 0 then -1 else Int32.ofNat (pa cl N zb (ca - 1))) :: ql (pa cl N zb) F) (by split; exact Or.inl rfl; exact Or.inr ⟨_, _, rfl⟩) f1.2.2.1 hQ (Nat.le_trans hql (by omega)) hC (by show c.length + o.length ≤ 690; omega)
      rw [(tw_1 f1.2.2.1).1] at s3
      rw [(tw_1 f1.2.2.1).2] at s2
      rw [cp_com hK hM (by omega) ht, s1, Option.bind_some]
      exact go _ (j + 1) r1 hA' (by omega) (by omega) (by show 9 ≤ 9; omega) (by show 9 ≤ 12; omega) (fun h => absurd h.1 (by show (9 : Nat) ≠ 12; omega)) rfl s4 s2 s3
