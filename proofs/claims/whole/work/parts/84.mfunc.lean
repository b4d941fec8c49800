/-! the model's function: one statement at a time -/
section
variable {cl nm sk : Nat → Nat} {N : Nat} {R zb : Nat → Nat} {r : RS} {j p m dep : Nat} {n : Int32} {K : Int32 × Int32 × Int32 × Int32 × RS → Option RS}
theorem is_no (hK : TK cl nm N) (hM : MTok cl nm sk N r) (hj : j < N) {t : Nat} {a : Int32} (ha : a = Int32.ofNat t) (ht : 0 < t) (ht2 : t < 200) (h : cl j ≠ t) : f_Mo_is (Int32.ofNat j) a r = some (0, r) := by
  rw [is_ok hK hM hj ha ht ht2, if_neg h]
theorem is_yes (hK : TK cl nm N) (hM : MTok cl nm sk N r) (hj : j < N) {t : Nat} {a : Int32} (ha : a = Int32.ofNat t) (ht : 0 < t) (ht2 : t < 200) (h : cl j = t) : f_Mo_is (Int32.ofNat j) a r = some (1, r) := by
  rw [is_ok hK hM hj ha ht ht2, if_pos h]
theorem fn_blk (hK : TK cl nm N) (hM : MQt cl nm sk N R zb r) (hj : j < N) (hp : p < 4) (h17 : r.1 17 p = Int32.ofNat m) (hjm : j < m) (hm : m ≤ 240) (hd : dep < 6) (h : cl j = 123) : BMo_function_91 K (Int32.ofNat p, n, Int32.ofNat j, Int32.ofNat dep, r) = K (Int32.ofNat p, n, Int32.ofNat (j + 1), Int32.ofNat (dep + 1), (va_up r.1 30 (upd (r.1 30) dep 0), r.2.1, r.2.2)) := by
  have hN := hK.1
  have t5 := (hM.1.2.2 j hj).1
  have ij : inb (Int32.ofNat j) 240 = true := o_inb (by omega) (by omega)
  have ip : inb (Int32.ofNat p) 122 = true := o_inb (by omega) (by omega)
  have idp : inb (Int32.ofNat dep) 6 = true := o_inb (by omega) (by omega)
  have hle : (Int32.ofNat m ≤ Int32.ofNat j) = False := (o_le (by omega) (by omega)).trans (eq_false (by omega))
  have h5 : (r.1 5 j = 1) = False := eq_false (by rw [t5, h]; decide)
  have hi := is_yes hK hM.1 hj (a := 123) (t := 123) rfl (by omega) (by omega) h
  unfold BMo_function_91
  simp only [ij, ip, idp, h17, hle, h5, hi, i10, o_nat (show j < 2147483648 by omega), o_nat (show p < 2147483648 by omega), o_nat (show dep < 2147483648 by omega), ↓reduceIte, Option.bind_some, o_p1]
theorem fn_asg {b : Nat} (hK : TK cl nm N) (hM : MQt cl nm sk N R zb r) (hj : j < N) (hp : p < 4) (h17 : r.1 17 p = Int32.ofNat m) (hjm : j < m) (hm : m ≤ 240) (h : cl j = 200) {e : Int32} {r1 : RS} (hc : f_Mo_compile (Int32.ofNat (j + 2)) r = some (e, r1)) (h10 : r1.1 10 j = Int32.ofNat b) (hb : b < 240) : BMo_function_91 K (Int32.ofNat p, n, Int32.ofNat j, Int32.ofNat dep, r) = (f_Mo_emit 2 (r1.1 27 b) r1).bind fun q => K (Int32.ofNat p, n, e + 1, Int32.ofNat dep, q) := by
  have hN := hK.1
  have t5 := (hM.1.2.2 j hj).1
  have ij : inb (Int32.ofNat j) 240 = true := o_inb (by omega) (by omega)
  have ip : inb (Int32.ofNat p) 122 = true := o_inb (by omega) (by omega)
  have ib : inb (Int32.ofNat b) 240 = true := o_inb (by omega) (by omega)
  have hle : (Int32.ofNat m ≤ Int32.ofNat j) = False := (o_le (by omega) (by omega)).trans (eq_false (by omega))
  have h5 : (r.1 5 j = 1) = False := eq_false (by rw [t5, h]; decide)
  have hi := is_no hK hM.1 hj (a := 123) (t := 123) rfl (by omega) (by omega) (by omega)
  have hi2 := is_no hK hM.1 hj (a := 125) (t := 125) rfl (by omega) (by omega) (by omega)
  have e2 : Int32.ofNat j + 2 = Int32.ofNat (j + 2) := o_add (b := 2)
  have y0 : (0 : Int32) = 0 := rfl
  unfold BMo_function_91
  dsimp only
  rw [if_pos ip, o_nat (show p < 2147483648 by omega), h17, if_neg (of_eq_false hle), if_pos ij, o_nat (show j < 2147483648 by omega), if_neg (of_eq_false h5), hi, Option.bind_some]
  dsimp only
  rw [if_pos y0, hi2, Option.bind_some]
  dsimp only
  rw [if_pos y0, e2, hc, Option.bind_some]
  dsimp only
  rw [if_pos ij, h10, if_pos ib, o_nat (show b < 2147483648 by omega)]
  rfl
/-- What the keywords have in common. -/
theorem fn_key (hK : TK cl nm N) (hM : MQt cl nm sk N R zb r) (hj : j < N) (hp : p < 4) (h17 : r.1 17 p = Int32.ofNat m) (hjm : j < m) (hm : m ≤ 240) (h4 : 400 ≤ cl j) : (r.1 17 p ≤ Int32.ofNat j) = False ∧ inb (Int32.ofNat j) 240 = true ∧ inb (Int32.ofNat p) 122 = true ∧ (r.1 5 j = 1) = True ∧ f_Mo_is (Int32.ofNat j) 123 r = some (0, r) ∧ f_Mo_is (Int32.ofNat j) 125 r = some (0, r) ∧ f_Mo_keyword (r.2.2 8 j) r = some (Int32.ofNat (cl j - 400), r) := by
  have hN := hK.1
  have t5 := (hM.1.2.2 j hj).1
  have h5 : kk (cl j) = 1 := kk_1.mpr (by omega)
  refine ⟨?_, o_inb (by omega) (by omega), o_inb (by omega) (by omega), eq_true (by rw [t5, h5]; rfl), is_no hK hM.1 hj (t := 123) rfl (by omega) (by omega) (by omega), is_no hK hM.1 hj (t := 125) rfl (by omega) (by omega) (by omega), kwT hK hM.1 hj h4⟩
  rw [h17]
  exact (o_le (by omega) (by omega)).trans (eq_false (by omega))
theorem fn_let {b : Nat} (hK : TK cl nm N) (hM : MQt cl nm sk N R zb r) (hj : j < N) (hp : p < 4) (h17 : r.1 17 p = Int32.ofNat m) (hjm : j < m) (hm : m ≤ 240) (h : cl j = 401) {e : Int32} {r1 : RS} (hc : f_Mo_compile (Int32.ofNat (j + 3)) r = some (e, r1)) (hj1 : j + 1 < 240) (h10 : r1.1 10 (j + 1) = Int32.ofNat b) (hb : b < 240) : BMo_function_91 K (Int32.ofNat p, n, Int32.ofNat j, Int32.ofNat dep, r) = (f_Mo_emit 2 (r1.1 27 b) r1).bind fun q => K (Int32.ofNat p, n, e + 1, Int32.ofNat dep, q) := by
  have hN := hK.1
  obtain ⟨k1, k2, k3, k4, k5, k6, k7⟩ := fn_key hK hM hj hp h17 hjm hm (by omega)
  rw [h] at k7
  have k7' : f_Mo_keyword (r.2.2 8 j) r = some (1, r) := k7
  have ij1 : inb (Int32.ofNat (j + 1)) 240 = true := o_inb (by omega) (by omega)
  have ib : inb (Int32.ofNat b) 240 = true := o_inb (by omega) (by omega)
  have e2 : Int32.ofNat (j + 1) + 2 = Int32.ofNat (j + 3) := o_add (b := 2)
  have y0 : (0 : Int32) = 0 := rfl
  unfold BMo_function_91
  dsimp only
  rw [if_pos k3, o_nat (show p < 2147483648 by omega), if_neg (of_eq_false k1), if_pos k2, o_nat (show j < 2147483648 by omega), if_pos (of_eq_true k4), if_pos k2, k7', Option.bind_some]
  dsimp only
  rw [k5, Option.bind_some]
  dsimp only
  rw [if_pos y0, k6, Option.bind_some]
  dsimp only
  rw [if_pos y0, if_neg (show ¬ (1 : Int32) = 2 by decide), if_neg (show ¬ (1 : Int32) = 3 by decide), if_neg (show ¬ (1 : Int32) = 4 by decide), if_neg (show ¬ (1 : Int32) = 5 by decide), if_pos (show (1 : Int32) = 1 from rfl), o_p1, e2, hc, Option.bind_some]
  dsimp only
  rw [if_pos ij1, o_nat (show j + 1 < 2147483648 by omega), h10, if_pos ib, o_nat (show b < 2147483648 by omega)]
  rfl
theorem fn_use {fi : Int32} (hK : TK cl nm N) (hM : MQt cl nm sk N R zb r) (hj : j < N) (hp : p < 4) (h17 : r.1 17 p = Int32.ofNat m) (hjm : j < m) (hm : m ≤ 240) (h : cl j = 404 ∧ fi = 3 ∨ cl j = 405 ∧ fi = 4) {e : Int32} {r1 : RS} (hc : f_Mo_compile (Int32.ofNat (j + 1)) r = some (e, r1)) : BMo_function_91 K (Int32.ofNat p, n, Int32.ofNat j, Int32.ofNat dep, r) = (f_Mo_emit fi 0 r1).bind fun q => K (Int32.ofNat p, n, e + 1, Int32.ofNat dep, q) := by
  have hN := hK.1
  obtain ⟨k1, k2, k3, k4, k5, k6, k7⟩ := fn_key hK hM hj hp h17 hjm hm (by omega)
  have y0 : (0 : Int32) = 0 := rfl
  rcases h with ⟨h, hf⟩ | ⟨h, hf⟩
  · rw [h] at k7
    have k7' : f_Mo_keyword (r.2.2 8 j) r = some (4, r) := k7
    rw [hf]
    unfold BMo_function_91
    dsimp only
    rw [if_pos k3, o_nat (show p < 2147483648 by omega), if_neg (of_eq_false k1), if_pos k2, o_nat (show j < 2147483648 by omega), if_pos (of_eq_true k4), if_pos k2, k7', Option.bind_some]
    dsimp only
    rw [k5, Option.bind_some]
    dsimp only
    rw [if_pos y0, k6, Option.bind_some]
    dsimp only
    rw [if_pos y0, if_neg (show ¬ (4 : Int32) = 2 by decide), if_neg (show ¬ (4 : Int32) = 3 by decide), if_pos (show (4 : Int32) = 4 from rfl), o_p1, hc, Option.bind_some]
    dsimp only
    rw [if_pos (show (4 : Int32) = 4 from rfl)]
  · rw [h] at k7
    have k7' : f_Mo_keyword (r.2.2 8 j) r = some (5, r) := k7
    rw [hf]
    unfold BMo_function_91
    dsimp only
    rw [if_pos k3, o_nat (show p < 2147483648 by omega), if_neg (of_eq_false k1), if_pos k2, o_nat (show j < 2147483648 by omega), if_pos (of_eq_true k4), if_pos k2, k7', Option.bind_some]
    dsimp only
    rw [k5, Option.bind_some]
    dsimp only
    rw [if_pos y0, k6, Option.bind_some]
    dsimp only
    rw [if_pos y0, if_neg (show ¬ (5 : Int32) = 2 by decide), if_neg (show ¬ (5 : Int32) = 3 by decide), if_neg (show ¬ (5 : Int32) = 4 by decide), if_pos (show (5 : Int32) = 5 from rfl), o_p1, hc, Option.bind_some]
    dsimp only
    rw [if_neg (show ¬ (5 : Int32) = 4 by decide)]
theorem fn_if (hK : TK cl nm N) (hM : MQt cl nm sk N R zb r) (hj : j < N) (hp : p < 4) (h17 : r.1 17 p = Int32.ofNat m) (hjm : j < m) (hm : m ≤ 240) (hd : dep < 6) (h : cl j = 402) {e : Nat} {r1 : RS} (hc : f_Mo_compile (Int32.ofNat (j + 1)) (va_up r.1 32 (upd (r.1 32) dep (r.2.1 11)), r.2.1, r.2.2) = some (Int32.ofNat e, r1)) : BMo_function_91 K (Int32.ofNat p, n, Int32.ofNat j, Int32.ofNat dep, r) = (f_Mo_emit 5 0 (va_up r1.1 31 (upd (r1.1 31) dep (r1.2.1 11)), r1.2.1, r1.2.2)).bind fun q => K (Int32.ofNat p, n, Int32.ofNat (e + 1), Int32.ofNat (dep + 1), (va_up q.1 30 (upd (q.1 30) dep 2), q.2.1, q.2.2)) := by
  have hN := hK.1
  obtain ⟨k1, k2, k3, k4, k5, k6, k7⟩ := fn_key hK hM hj hp h17 hjm hm (by omega)
  rw [h] at k7
  have k7' : f_Mo_keyword (r.2.2 8 j) r = some (2, r) := k7
  have n3 : ((2 : Int32) = 3) = False := eq_false (by decide)
  have idp : inb (Int32.ofNat dep) 6 = true := o_inb (by omega) (by omega)
  unfold BMo_function_91
  simp only [k1, k2, k3, k4, k5, k6, k7', n3, idp, hc, o_nat (show j < 2147483648 by omega), o_nat (show p < 2147483648 by omega), o_nat (show dep < 2147483648 by omega), ↓reduceIte, Option.bind_some, o_p1, bindv]
theorem fn_whl (hK : TK cl nm N) (hM : MQt cl nm sk N R zb r) (hj : j < N) (hp : p < 4) (h17 : r.1 17 p = Int32.ofNat m) (hjm : j < m) (hm : m ≤ 240) (hd : dep < 6) (h : cl j = 403) {e : Nat} {r1 : RS} (hc : f_Mo_compile (Int32.ofNat (j + 1)) (va_up r.1 32 (upd (r.1 32) dep (r.2.1 11)), r.2.1, r.2.2) = some (Int32.ofNat e, r1)) : BMo_function_91 K (Int32.ofNat p, n, Int32.ofNat j, Int32.ofNat dep, r) = (f_Mo_emit 5 0 (va_up r1.1 31 (upd (r1.1 31) dep (r1.2.1 11)), r1.2.1, r1.2.2)).bind fun q => (f_Mo_emit 8 0 q).bind fun q => K (Int32.ofNat p, n, Int32.ofNat (e + 1), Int32.ofNat (dep + 1), (va_up q.1 30 (upd (q.1 30) dep 3), q.2.1, q.2.2)) := by
  have hN := hK.1
  obtain ⟨k1, k2, k3, k4, k5, k6, k7⟩ := fn_key hK hM hj hp h17 hjm hm (by omega)
  rw [h] at k7
  have k7' : f_Mo_keyword (r.2.2 8 j) r = some (3, r) := k7
  have n2 : ((3 : Int32) = 2) = False := eq_false (by decide)
  have idp : inb (Int32.ofNat dep) 6 = true := o_inb (by omega) (by omega)
  unfold BMo_function_91
  simp only [k1, k2, k3, k4, k5, k6, k7', n2, idp, hc, o_nat (show j < 2147483648 by omega), o_nat (show p < 2147483648 by omega), o_nat (show dep < 2147483648 by omega), ↓reduceIte, Option.bind_some, o_p1, bindv]
theorem fn_cls (hK : TK cl nm N) (hM : MQt cl nm sk N R zb r) (hj : j < N) (hp : p < 4) (h17 : r.1 17 p = Int32.ofNat m) (hjm : j < m) (hm : m ≤ 240) (hd : dep < 6) (h : cl j = 125) : BMo_function_91 K (Int32.ofNat p, n, Int32.ofNat j, Int32.ofNat (dep + 1), r) = (if r.1 30 dep = 3 then (f_Mo_emit 6 (r.1 32 dep) r).bind fun q => (if q.1 30 dep = 0 then K (Int32.ofNat p, n, Int32.ofNat (j + 1), Int32.ofNat dep, q) else if inb (q.1 31 dep) 700 then K (Int32.ofNat p, n, Int32.ofNat (j + 1), Int32.ofNat dep, (va_up q.1 25 (upd (q.1 25) (q.1 31 dep).toNatClampNeg (q.2.1 11)), q.2.1, q.2.2)) else none) else if r.1 30 dep = 0 then K (Int32.ofNat p, n, Int32.ofNat (j + 1), Int32.ofNat dep, r) else if inb (r.1 31 dep) 700 then K (Int32.ofNat p, n, Int32.ofNat (j + 1), Int32.ofNat dep, (va_up r.1 25 (upd (r.1 25) (r.1 31 dep).toNatClampNeg (r.2.1 11)), r.2.1, r.2.2)) else none) := by
  have hN := hK.1
  have t5 := (hM.1.2.2 j hj).1
  have ij : inb (Int32.ofNat j) 240 = true := o_inb (by omega) (by omega)
  have ip : inb (Int32.ofNat p) 122 = true := o_inb (by omega) (by omega)
  have idp : inb (Int32.ofNat dep) 6 = true := o_inb (by omega) (by omega)
  have hle : (Int32.ofNat m ≤ Int32.ofNat j) = False := (o_le (by omega) (by omega)).trans (eq_false (by omega))
  have h5 : (r.1 5 j = 1) = False := eq_false (by rw [t5, h]; decide)
  have hi := is_no hK hM.1 hj (a := 123) (t := 123) rfl (by omega) (by omega) (by omega)
  have hi2 := is_yes hK hM.1 hj (a := 125) (t := 125) rfl (by omega) (by omega) h
  have ed := pop12 (n := dep) (by omega)
  unfold BMo_function_91
  simp only [ij, ip, idp, h17, hle, h5, hi, hi2, ed, i10, o_nat (show j < 2147483648 by omega), o_nat (show p < 2147483648 by omega), o_nat (show dep < 2147483648 by omega), ↓reduceIte, Option.bind_some, o_p1]
theorem fn_end (hp : p < 4) (h17 : r.1 17 p = Int32.ofNat m) (hjm : m ≤ j) (hm : j ≤ 240) : BMo_function_91 K (Int32.ofNat p, n, Int32.ofNat j, Int32.ofNat dep, r) = (f_Mo_emit 0 0 r).bind fun q => (f_Mo_emit 4 0 q).bind fun q => some q := by
  have ip : inb (Int32.ofNat p) 122 = true := o_inb (by omega) (by omega)
  have hle : (Int32.ofNat m ≤ Int32.ofNat j) = True := (o_le (by omega) (by omega)).trans (eq_true (by omega))
  unfold BMo_function_91
  simp only [ip, h17, hle, o_nat (show p < 2147483648 by omega), ↓reduceIte]
end
/-! the walk's inversions -/
section
variable {cl nm : Nat → Nat} {f k : Nat} {ρ γ : Nat → Nat} {c : Cds} {bl : List (Nat × Nat × Nat)} {en ln ag : Nat} {fin : Int32 × Int32} {np : Nat} {σ α ω : Nat → Nat} {x' : XS}
theorem inv7 {fr : List Fm} (h : St cl nm f k (7, fr, ρ, γ, c, bl, en, ln, ag, fin, np, σ, α, ω) x') : cl k = 200 ∧ x' = (8, [], upN ρ k 3, γ, c, bl, 59, k + 1, 0, (2, Int32.ofNat k), np, upN σ k (bl.headD (0, 0, 0)).1, α, ω) := by
  generalize hx : (7, fr, ρ, γ, c, bl, en, ln, ag, fin, np, σ, α, ω) = x at h
  refine h _ ?_ ?_ ?_ ?_ ?_ ?_ ?_ ?_ ?_ ?_ ?_ ?_ ?_ ?_ ?_ ?_ ?_ ?_ ?_ ?_ ?_ ?_ ?_ ?_ ?_
  · intro _ _ _ _ _ eX eY _
    cases eX
    cases eY
    exfalso; injection hx with e1 e2; omega
  · intro _ _ _ _ _ eX eY _
    cases eX
    cases eY
    exfalso; injection hx with e1 e2; omega
  · intro _ _ _ _ _ _ _ _ _ _ _ _ _ eX eY _
    cases eX
    cases eY
    exfalso; injection hx with e1 e2; omega
  · intro _ _ _ _ _ _ eX eY _ _
    cases eX
    cases eY
    exfalso; injection hx with e1 e2; omega
  · intro _ _ _ _ _ eX eY _
    cases eX
    cases eY
    exfalso; injection hx with e1 e2; omega
  · intro _ _ _ _ _ _ _ _ _ _ _ _ _ _ eX eY _ _
    cases eX
    cases eY
    exfalso; injection hx with e1 e2; omega
  · intro _ _ _ _ _ _ _ _ _ _ _ _ _ eX eY _ _
    cases eX
    cases eY
    exfalso; injection hx with e1 e2; omega
  · intro _ _ _ _ _ _ _ _ _ _ _ _ _ _ _ _ eX eY _
    cases eX
    cases eY
    exfalso; injection hx with e1 e2; omega
  · intro _ _ _ _ _ _ _ _ _ _ _ _ _ eX eY _
    cases eX
    cases eY
    exfalso; injection hx with e1 e2; omega
  · intro _ _ _ _ _ eX eY _
    cases eX
    cases eY
    exfalso; injection hx with e1 e2; omega
  · intro _ _ _ _ _ _ _ _ _ _ _ _ _ _ eX eY _
    cases eX
    cases eY
    exfalso; injection hx with e1 e2; omega
  · intro _ _ _ _ _ _ _ _ _ _ _ _ _ _ eX eY _
    cases eX
    cases eY
    exfalso; injection hx with e1 e2; omega
  · intro _ _ _ _ _ _ _ _ _ _ _ _ _ eX eY h1
    cases eX
    cases eY
    cases hx
    exact ⟨h1, rfl⟩
  · intro _ _ _ _ _ eX eY _
    cases eX
    cases eY
    exfalso; injection hx with e1 e2; omega
  · intro _ _ _ _ _ _ _ _ _ eX eY _
    cases eX
    cases eY
    exfalso; injection hx with e1 e2; omega
  · intro _ _ _ _ _ _ _ _ _ _ eX eY _ _
    cases eX
    cases eY
    exfalso; injection hx with e1 e2; omega
  · intro _ _ _ _ _ _ _ _ _ _ eX eY _ _ _
    cases eX
    cases eY
    exfalso; injection hx with e1 e2; omega
  · intro _ _ _ _ _ _ _ _ _ _ eX eY _ _ _ _
    cases eX
    cases eY
    exfalso; injection hx with e1 e2; omega
  · intro _ _ _ _ _ _ _ _ _ _ eX eY _ _ _
    cases eX
    cases eY
    exfalso; injection hx with e1 e2; omega
  · intro _ _ _ _ _ _ _ _ _ eX eY _ _
    cases eX
    cases eY
    exfalso; injection hx with e1 e2; omega
  · intro _ _ _ _ _ _ _ _ _ _ _ _ eX eY _ _ _
    cases eX
    cases eY
    exfalso; injection hx with e1 e2; omega
  · intro _ _ _ _ _ _ _ _ _ _ _ _ _ _ _ _ eX eY _ _ _
    cases eX
    cases eY
    exfalso; injection hx with e1 e2; omega
  · intro _ _ _ _ _ _ _ _ _ _ _ _ _ _ _ _ _ eX eY _ _ _
    cases eX
    cases eY
    exfalso; injection hx with e1 e2; omega
  · intro _ _ _ _ _ _ _ _ _ _ eX eY _ _ _
    cases eX
    cases eY
    exfalso; injection hx with e1 e2; omega
  · intro _ _ _ _ _ _ _ _ _ _ eX eY _ _ _ _
    cases eX
    cases eY
    exfalso; injection hx with e1 e2; omega
theorem inv8 {fr : List Fm} {V : VS} (h : St cl nm f k (8, fr, ρ, γ, c, V) x') : cl k = 61 ∧ x' = (9, [(0, 0, 0, [])], ρ, γ, c, V) := by
  generalize hx : (8, fr, ρ, γ, c, V) = x at h
  refine h _ ?_ ?_ ?_ ?_ ?_ ?_ ?_ ?_ ?_ ?_ ?_ ?_ ?_ ?_ ?_ ?_ ?_ ?_ ?_ ?_ ?_ ?_ ?_ ?_ ?_
  · intro _ _ _ _ _ eX eY _
    cases eX
    cases eY
    exfalso; injection hx with e1 e2; omega
  · intro _ _ _ _ _ eX eY _
    cases eX
    cases eY
    exfalso; injection hx with e1 e2; omega
  · intro _ _ _ _ _ _ _ _ _ _ _ _ _ eX eY _
    cases eX
    cases eY
    exfalso; injection hx with e1 e2; omega
  · intro _ _ _ _ _ _ eX eY _ _
    cases eX
    cases eY
    exfalso; injection hx with e1 e2; omega
  · intro _ _ _ _ _ eX eY _
    cases eX
    cases eY
    exfalso; injection hx with e1 e2; omega
  · intro _ _ _ _ _ _ _ _ _ _ _ _ _ _ eX eY _ _
    cases eX
    cases eY
    exfalso; injection hx with e1 e2; omega
  · intro _ _ _ _ _ _ _ _ _ _ _ _ _ eX eY _ _
    cases eX
    cases eY
    exfalso; injection hx with e1 e2; omega
  · intro _ _ _ _ _ _ _ _ _ _ _ _ _ _ _ _ eX eY _
    cases eX
    cases eY
    exfalso; injection hx with e1 e2; omega
  · intro _ _ _ _ _ _ _ _ _ _ _ _ _ eX eY _
    cases eX
    cases eY
    exfalso; injection hx with e1 e2; omega
  · intro _ _ _ _ _ eX eY _
    cases eX
    cases eY
    exfalso; injection hx with e1 e2; omega
  · intro _ _ _ _ _ _ _ _ _ _ _ _ _ _ eX eY _
    cases eX
    cases eY
    exfalso; injection hx with e1 e2; omega
  · intro _ _ _ _ _ _ _ _ _ _ _ _ _ _ eX eY _
    cases eX
    cases eY
    exfalso; injection hx with e1 e2; omega
  · intro _ _ _ _ _ _ _ _ _ _ _ _ _ eX eY _
    cases eX
    cases eY
    exfalso; injection hx with e1 e2; omega
  · intro _ _ _ _ _ eX eY h1
    cases eX
    cases eY
    cases hx
    exact ⟨h1, rfl⟩
  · intro _ _ _ _ _ _ _ _ _ eX eY _
    cases eX
    cases eY
    exfalso; injection hx with e1 e2; omega
  · intro _ _ _ _ _ _ _ _ _ _ eX eY _ _
    cases eX
    cases eY
    exfalso; injection hx with e1 e2; omega
  · intro _ _ _ _ _ _ _ _ _ _ eX eY _ _ _
    cases eX
    cases eY
    exfalso; injection hx with e1 e2; omega
  · intro _ _ _ _ _ _ _ _ _ _ eX eY _ _ _ _
    cases eX
    cases eY
    exfalso; injection hx with e1 e2; omega
  · intro _ _ _ _ _ _ _ _ _ _ eX eY _ _ _
    cases eX
    cases eY
    exfalso; injection hx with e1 e2; omega
  · intro _ _ _ _ _ _ _ _ _ eX eY _ _
    cases eX
    cases eY
    exfalso; injection hx with e1 e2; omega
  · intro _ _ _ _ _ _ _ _ _ _ _ _ eX eY _ _ _
    cases eX
    cases eY
    exfalso; injection hx with e1 e2; omega
  · intro _ _ _ _ _ _ _ _ _ _ _ _ _ _ _ _ eX eY _ _ _
    cases eX
    cases eY
    exfalso; injection hx with e1 e2; omega
  · intro _ _ _ _ _ _ _ _ _ _ _ _ _ _ _ _ _ eX eY _ _ _
    cases eX
    cases eY
    exfalso; injection hx with e1 e2; omega
  · intro _ _ _ _ _ _ _ _ _ _ eX eY _ _ _
    cases eX
    cases eY
    exfalso; injection hx with e1 e2; omega
  · intro _ _ _ _ _ _ _ _ _ _ eX eY _ _ _ _
    cases eX
    cases eY
    exfalso; injection hx with e1 e2; omega
theorem invE {st le : Nat} {o : List Nat} (h9 : st = 11 ∨ st = 12) (hen : en = 59 ∨ en = 123) (hc : cl k = en) (h : St cl nm f k (st, [(0, le, 0, o)], ρ, γ, c, bl, en, ln, ag, fin, np, σ, α, ω) x') : (en = 59 → x' = (6, [], ρ, γ, c ++ oi o ++ [fin], bl, en, 0, ag, fin, np, σ, (if ln = 0 then α else upN α (ln - 1) (k + 1)), ω)) ∧ (en = 123 → bl.length < 4 ∧ x' = (6, [], ρ, γ, c ++ oi o ++ [(4, 0)] ++ (if ag = 0 then [] else [(5, 0)]), (k, c.length + o.length + 1, ag) :: bl, en, ln, ag, fin, np, σ, α, ω)) := by
  generalize hx : (st, [(0, le, 0, o)], ρ, γ, c, bl, en, ln, ag, fin, np, σ, α, ω) = x at h
  refine h _ ?_ ?_ ?_ ?_ ?_ ?_ ?_ ?_ ?_ ?_ ?_ ?_ ?_ ?_ ?_ ?_ ?_ ?_ ?_ ?_ ?_ ?_ ?_ ?_ ?_
  · intro _ _ _ _ _ eX eY _
    cases eX
    cases eY
    exfalso; injection hx with e1 e2; omega
  · intro _ _ _ _ _ eX eY _
    cases eX
    cases eY
    exfalso; injection hx with e1 e2; omega
  · intro _ _ _ _ _ _ _ _ _ _ _ _ _ eX eY _
    cases eX
    cases eY
    exfalso; injection hx with e1 e2; omega
  · intro _ _ _ _ _ _ eX eY _ _
    cases eX
    cases eY
    exfalso; injection hx with e1 e2; omega
  · intro _ _ _ _ _ eX eY _
    cases eX
    cases eY
    exfalso; injection hx with e1 e2; omega
  · intro _ _ _ _ _ _ _ _ _ _ _ _ _ _ eX eY _ _
    cases eX
    cases eY
    exfalso; injection hx with e1 e2; omega
  · intro _ _ _ _ _ _ _ _ _ _ _ _ _ eX eY _ _
    cases eX
    cases eY
    exfalso; injection hx with e1 e2; omega
  · intro _ _ _ _ _ _ _ _ _ _ _ _ _ _ _ _ eX eY _
    cases eX
    cases eY
    exfalso; injection hx with e1 e2; omega
  · intro _ _ _ _ _ _ _ _ _ _ _ _ _ eX eY _
    cases eX
    cases eY
    exfalso; injection hx with e1 e2; omega
  · intro _ _ _ _ _ eX eY _
    cases eX
    cases eY
    exfalso; injection hx with e1 e2; omega
  · intro _ _ _ _ _ _ _ _ _ _ _ _ _ _ eX eY _
    cases eX
    cases eY
    exfalso; injection hx with e1 e2; omega
  · intro _ _ _ _ _ _ _ _ _ _ _ _ _ _ eX eY _
    cases eX
    cases eY
    exfalso; injection hx with e1 e2; omega
  · intro _ _ _ _ _ _ _ _ _ _ _ _ _ eX eY _
    cases eX
    cases eY
    exfalso; injection hx with e1 e2; omega
  · intro _ _ _ _ _ eX eY _
    cases eX
    cases eY
    exfalso; injection hx with e1 e2; omega
  · intro _ _ _ _ _ _ _ _ _ eX eY _
    cases eX
    cases eY
    exfalso; injection hx with e1 e2; omega
  · intro _ _ _ _ _ _ _ _ _ _ eX eY _ _
    cases eX
    cases eY
    exfalso; injection hx with e1 e2; omega
  · intro _ _ _ _ _ _ _ _ _ _ eX eY _ _ _
    cases eX
    cases eY
    exfalso; injection hx with e1 e2; omega
  · intro _ _ _ _ _ _ _ _ _ _ eX eY _ _ _ _
    cases eX
    cases eY
    exfalso; injection hx with e1 e2; omega
  · intro _ _ _ _ _ _ _ _ _ _ eX eY _ _ _
    cases eX
    cases eY
    exfalso; injection hx with e1 e2; omega
  · intro _ _ _ _ _ _ _ _ _ eX eY h1 h2
    cases eX
    cases eY
    exfalso; omega
  · intro _ _ _ _ _ _ _ _ _ _ _ _ eX eY h1 h2 h3
    cases eX
    cases eY
    exfalso; omega
  · intro _ _ _ _ _ _ _ _ _ _ _ _ _ _ _ _ eX eY h1 h2 h3
    cases eX
    cases eY
    cases hx
    exact ⟨fun e => absurd e (by decide), fun _ => ⟨h3, rfl⟩⟩
  · intro _ _ _ _ _ _ _ _ _ _ _ _ _ _ _ _ _ eX eY h1 h2 h3
    cases eX
    cases eY
    cases hx
    exact ⟨fun _ => rfl, fun e => absurd e h3⟩
  · intro _ _ _ _ _ _ _ _ _ _ eX eY h1 h2 h3
    cases eX
    cases eY
    exfalso; omega
  · intro _ _ _ _ _ _ _ _ _ _ eX eY h1 h2 h3 h4
    cases eX
    cases eY
    exfalso; omega
end
