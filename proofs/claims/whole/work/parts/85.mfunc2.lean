/-! the model's function writes the code of its part -/
def Bq (r : RS) : List (Nat × Nat × Nat) → Prop
  | [] => True
  | (_, te, ag) :: B => r.1 30 B.length = (if te = 0 then 0 else if ag = 0 then 2 else 3) ∧ (te ≠ 0 → r.1 31 B.length = Int32.ofNat (te - 1)) ∧ (ag ≠ 0 → r.1 32 B.length = Int32.ofNat (ag - 1)) ∧ Bq r B
theorem Bq.cg {r r' : RS} : ∀ {bl : List (Nat × Nat × Nat)}, Bq r bl → (∀ i, i < bl.length → r'.1 30 i = r.1 30 i ∧ r'.1 31 i = r.1 31 i ∧ r'.1 32 i = r.1 32 i) → Bq r' bl
  | [], _, _ => trivial
  | (o, te, ag) :: B, ⟨a, b, c, d⟩, h => by
    obtain ⟨h1, h2, h3⟩ := h B.length (by rw [List.length_cons]; omega)
    exact ⟨h1.trans a, fun e => h2.trans (b e), fun e => h3.trans (c e), Bq.cg d (fun i hi => h i (by rw [List.length_cons]; omega))⟩
def FrB (r r' : RS) : Prop := (∀ i, i ≠ 24 → i ≠ 25 → i ≠ 28 → i ≠ 29 → i ≠ 30 → i ≠ 31 → i ≠ 32 → r'.1 i = r.1 i) ∧ (∀ i, i ≠ 11 → i ≠ 12 → r'.2.1 i = r.2.1 i) ∧ r'.2.2 = r.2.2
theorem FrB.tr {r r' r2 : RS} (h : FrB r r') (h2 : FrB r' r2) : FrB r r2 := ⟨fun i a b c d e f g => (h2.1 i a b c d e f g).trans (h.1 i a b c d e f g), fun i a b => (h2.2.1 i a b).trans (h.2.1 i a b), h2.2.2.trans h.2.2⟩
theorem FrK.fb {r r' : RS} (h : FrK r r') : FrB r r' := ⟨fun i a b c d _ _ _ => h.1 i a b c d, h.2.1, h.2.2⟩
theorem FrB.ff {r r' : RS} (h : FrB r r') : FrF r r' := ⟨fun i a => h.1 i (by omega) (by omega) (by omega) (by omega) (by omega) (by omega) (by omega), fun i a => h.2.1 i (by omega) (by omega), h.2.2⟩
theorem FrB.em {r r' : RS} (h1 : ∀ i, i ≠ 24 → i ≠ 25 → r'.1 i = r.1 i) (h2 : ∀ i, i ≠ 11 → r'.2.1 i = r.2.1 i) (h3 : r'.2.2 = r.2.2) : FrB r r' := ⟨fun i a b _ _ _ _ _ => h1 i a b, fun i a _ => h2 i a, h3⟩
theorem FrB.a30 {r : RS} {k : Nat} {v : Int32} : FrB r (va_up r.1 30 (upd (r.1 30) k v), r.2.1, r.2.2) := ⟨fun i _ _ _ _ a _ _ => up_ne a, fun _ _ _ => rfl, rfl⟩
theorem FrB.a31 {r : RS} {k : Nat} {v : Int32} : FrB r (va_up r.1 31 (upd (r.1 31) k v), r.2.1, r.2.2) := ⟨fun i _ _ _ _ _ a _ => up_ne a, fun _ _ _ => rfl, rfl⟩
theorem FrB.a32 {r : RS} {k : Nat} {v : Int32} : FrB r (va_up r.1 32 (upd (r.1 32) k v), r.2.1, r.2.2) := ⟨fun i _ _ _ _ _ _ a => up_ne a, fun _ _ _ => rfl, rfl⟩
theorem FrB.a25 {r : RS} {k : Nat} {v : Int32} : FrB r (va_up r.1 25 (upd (r.1 25) k v), r.2.1, r.2.2) := ⟨fun i _ a _ _ _ _ _ => up_ne a, fun _ _ _ => rfl, rfl⟩
theorem MCd.set {zb sl pq : Nat → Nat} {r : RS} {c : Cds} {te : Nat} {v : Int32} (h : MCd zb sl pq r c) (ht : te ≠ 0) (htc : te ≤ c.length) (h4 : (c.getD (te - 1) (0, 0)).1 = 4) : MCd zb sl pq (va_up r.1 25 (upd (r.1 25) (te - 1) v), r.2.1, r.2.2) (c.set (te - 1) (4, v)) := by
  refine ⟨by rw [List.length_set]; exact h.1, fun i hi => ?_⟩
  rw [List.length_set] at hi
  obtain ⟨a, b⟩ := h.2 i hi
  show r.1 24 i = _ ∧ upd (r.1 25) (te - 1) v i = _
  rw [List.getD_eq_getElem?_getD]
  by_cases hk : i = te - 1
  · subst hk
    rw [List.getElem?_set_self hi, ud_eq]
    refine ⟨?_, rfl⟩
    rw [a]
    generalize c.getD (te - 1) (0, 0) = p at h4
    obtain ⟨p1, p2⟩ := p
    have h4' : p1 = 4 := h4
    subst h4'
    rfl
  · rw [List.getElem?_set_ne (fun e => hk e.symm), ← List.getD_eq_getElem?_getD, ud_ne hk]
    exact ⟨a, b⟩
section
variable {cl nm sk : Nat → Nat} {N : Nat} {R zb sl : Nat → Nat} {f m : Nat} {c0 : Cds} {xf : XS}
theorem compile_ok (hP : Pt cl nm sk N R zb sl f m c0 xf) {j : Nat} {ρ γ : Nat → Nat} {c : Cds} {V : VS} {r : RS} (h2 : f < j) (h3 : j ≤ m) (hA : At cl nm f c0 xf j (9, [(0, 0, 0, [])], ρ, γ, c, V)) (hM : MQt cl nm sk N R zb r) (h27 : ∀ k, f ≤ k → k < m → 3 ≤ R k → R k ≤ 5 → r.1 27 (zb k - 1) = Int32.ofNat (sl (zb k - 1))) (hC : MCd zb sl (pt cl N) r c) : ∃ (e st le : Nat) (o : List Nat) (ρ' γ' : Nat → Nat) (c' : Cds) (r' : RS), At cl nm f c0 xf e (st, [(0, le, 0, o)], ρ', γ', c', V) ∧ (st = 11 ∨ st = 12) ∧ cl e = V.2.1 ∧ j ≤ e ∧ e < m ∧ f_Mo_compile (Int32.ofNat j) r = some (Int32.ofNat e, r') ∧ MCd zb sl (pt cl N) r' (c' ++ oi o) ∧ FrK r r' := by
  have hN := hP.tk.1
  have hmN := hP.mN
  have f0 : FrK r (r.1, va_up r.2.1 12 0, r.2.2) := ⟨fun _ _ _ _ _ => rfl, fun i _ b => up_ne b, rfl⟩
  obtain ⟨e, st, le, o, ρ', γ', c', r', k1, k2, k3, k4, k5, k6, k7, k8⟩ := cp_loop hP (a1 := Int32.ofNat j) (m - j) j _ (r.1, va_up r.2.1 12 0, r.2.2) (99997 - (m - j)) (Nat.le_refl _) h2 h3 hA (by show 9 ≤ 9; omega) (by show 9 ≤ 12; omega) (fun h => absurd h.1 (by show (9 : Nat) ≠ 12; omega)) (hM.cg f0.ff) h27 ⟨rfl, trivial⟩ (hC.cg rfl rfl rfl)
  refine ⟨e, st, le, o, ρ', γ', c', r', k1, k2, k3, k4, k5, ?_, k7, f0.tr k8⟩
  rw [show 99997 - (m - j) + (m - j) + 3 = 100000 by omega] at k6
  exact k6
theorem fn91 (hP : Pt cl nm sk N R zb sl f m c0 xf) {p : Nat} {n : Int32} (hp : p < 4) : ∀ (z j : Nat) (x : XS) (r : RS) (M : Nat), m - j ≤ z → f < j → j ≤ m → At cl nm f c0 xf j x → (x.1 = 6 ∨ x.1 = 13 ∨ x.1 = 5 ∧ cl j = 123) → MQt cl nm sk N R zb r → (∀ k, f ≤ k → k < m → 3 ≤ R k → R k ≤ 5 → r.1 27 (zb k - 1) = Int32.ofNat (sl (zb k - 1))) → r.1 17 p = Int32.ofNat m → Bq r (xb x) → MCd zb sl (pt cl N) r (xc x) → ∃ r' : RS, lpN BMo_function_91 (M + z + 1) (Int32.ofNat p, n, Int32.ofNat j, Int32.ofNat (xb x).length, r) = some r' ∧ MCd zb sl (pt cl N) r' (xc xf ++ [(0, 0)] ++ [(8, 0)]) ∧ FrB r r' := by
  have hK := hP.tk
  have hN := hK.1
  have hmN := hP.mN
  intro z
  induction z with
  | zero =>
    intro j x r M h1 h2 h3 hA h6 hM h27 h17 hB hC
    have hj : j = m := by omega
    subst hj
    have e := Option.some.inj (hA.1.symm.trans hP.ax)
    subst e
    have hlen := (part_co (by omega) (by omega) hP.ax hP.x13 hP.c0f).1
    rw [Nat.add_zero, lp_succ, fn_end hp h17 (Nat.le_refl _) (by omega)]
    obtain ⟨r1, k1, k2, k3, k4, k5⟩ := emit_ok (p := (0, 0)) hC (by omega) tm0
    obtain ⟨r2, g1, g2, g3, g4, g5⟩ := emit_ok (p := (8, 0)) k2 (by rw [lenc]; omega) tm8
    rw [k1, Option.bind_some, g1, Option.bind_some]
    exact ⟨r2, rfl, g2, (FrB.em k3 k4 k5).tr (FrB.em g3 g4 g5)⟩
  | succ z ih =>
    intro j x r M h1 h2 h3 hA h6 hM h27 h17 hB hC
    by_cases hjm : j < m
    · obtain ⟨x', hA'⟩ := hP.at (j := j + 1) (by omega) (by omega)
      have hst := hA.st hA' h2
      obtain ⟨-, -, hwf, -, hb5, -, -, hg4, A, hG, -⟩ := id hA
      have hlen4 := hG.len
      rw [show M + (z + 1) + 1 = (M + z + 1) + 1 by omega, lp_succ]
      have go : ∀ (x2 : XS) (j2 : Nat) (r1 : RS) (len : Nat), At cl nm f c0 xf j2 x2 → (xb x2).length = len → j < j2 → j2 ≤ m → (x2.1 = 6 ∨ x2.1 = 13) → FrB r r1 → Bq r1 (xb x2) → MCd zb sl (pt cl N) r1 (xc x2) → ∃ r' : RS, lpN BMo_function_91 (M + z + 1) (Int32.ofNat p, n, Int32.ofNat j2, Int32.ofNat len, r1) = some r' ∧ MCd zb sl (pt cl N) r' (xc xf ++ [(0, 0)] ++ [(8, 0)]) ∧ FrB r r' := by
        intro x2 j2 r1 len g1 hln g2 g3 g4 g5 g6 g7
        subst hln
        obtain ⟨r', k1, k2, k3⟩ := ih j2 x2 r1 M (by omega) (by omega) g3 g1 (by omega) (hM.cg g5.ff) (fun k a b c d => by rw [g5.1 27 (by decide) (by decide) (by decide) (by decide) (by decide) (by decide) (by decide)]; exact h27 k a b c d) (by rw [g5.ff.1 17 (by omega)]; exact h17) g6 g7
        exact ⟨r', k1, k2, g5.tr k3⟩
      have h27' : ∀ {r1 : RS}, FrB r r1 → ∀ k, f ≤ k → k < m → 3 ≤ R k → R k ≤ 5 → r1.1 27 (zb k - 1) = Int32.ofNat (sl (zb k - 1)) := fun {r1} g5 k a b c d => by
        rw [g5.1 27 (by decide) (by decide) (by decide) (by decide) (by decide) (by decide) (by decide)]; exact h27 k a b c d
      have hbu : 6 ≤ x.1 → (xc x).length + 5 ≤ j := fun h => by
        have := hG.bu h
        omega
      obtain ⟨st, fr, ρ, γ, c, bl, en, ln, ag, fin, np, σ, α, ω⟩ := x
      have h6 : st = 6 ∨ st = 13 ∨ st = 5 ∧ cl j = 123 := h6
      have hlen4 : bl.length ≤ 4 := hlen4
      have hB : Bq r bl := hB
      have hC : MCd zb sl (pt cl N) r c := hC
      show ∃ r' : RS, BMo_function_91 (lpN BMo_function_91 (M + z + 1)) (Int32.ofNat p, n, Int32.ofNat j, Int32.ofNat bl.length, r) = some r' ∧ _ ∧ _
      have blk : (x' = (6, [], ρ, γ, c, (j, 0, 0) :: bl, en, ln, ag, fin, np, σ, α, ω)) → cl j = 123 → ∃ r' : RS, BMo_function_91 (lpN BMo_function_91 (M + z + 1)) (Int32.ofNat p, n, Int32.ofNat j, Int32.ofNat bl.length, r) = some r' ∧ MCd zb sl (pt cl N) r' (xc xf ++ [(0, 0)] ++ [(8, 0)]) ∧ FrB r r' := by
        intro hx' hc
        rw [fn_blk hK hM (by omega) hp h17 hjm (by omega) (by omega) hc]
        have hAx := hA'
        rw [hx'] at hAx
        refine go _ (j + 1) (va_up r.1 30 (upd (r.1 30) bl.length 0), r.2.1, r.2.2) _ hAx rfl (by omega) (by omega) (Or.inl rfl) FrB.a30 ⟨?_, fun h => absurd rfl h, fun h => absurd rfl h, hB.cg (fun i hi => ⟨?_, rfl, rfl⟩)⟩ (hC.cg rfl rfl rfl)
        · show upd (r.1 30) bl.length 0 bl.length = _
          rw [ud_eq, if_pos rfl]
        · show upd (r.1 30) bl.length 0 i = _
          rw [ud_ne (by omega)]
      -- a statement with an expression that ends in ';'
      have semi : ∀ (j1 : Nat) (ρ1 γ1 : Nat → Nat) (ln1 : Nat) (fin1 : Int32 × Int32) (σ1 : Nat → Nat), j < j1 → j1 ≤ m → At cl nm f c0 xf j1 (9, [(0, 0, 0, [])], ρ1, γ1, c, bl, 59, ln1, 0, fin1, np, σ1, α, ω) → ∃ (e : Nat) (r1 : RS), f_Mo_compile (Int32.ofNat j1) r = some (Int32.ofNat e, r1) ∧ FrK r r1 ∧ e < m ∧ ∀ a1 a2 : Int32, tm zb sl (pt cl N) fin1 = (a1, a2) → ∃ r' : RS, ((f_Mo_emit a1 a2 r1).bind fun q => lpN BMo_function_91 (M + z + 1) (Int32.ofNat p, n, Int32.ofNat (e + 1), Int32.ofNat bl.length, q)) = some r' ∧ MCd zb sl (pt cl N) r' (xc xf ++ [(0, 0)] ++ [(8, 0)]) ∧ FrB r r' := by
        intro j1 ρ1 γ1 ln1 fin1 σ1 q1 q2 q3
        obtain ⟨e, st', le, o, ρ', γ', c', r1, k1, k2, k3, k4, k5, k6, k7, k8⟩ := compile_ok hP (by omega) q2 q3 hM h27 hC
        refine ⟨e, r1, k6, k8, k5, fun a1 a2 ht => ?_⟩
        obtain ⟨x2, hA2⟩ := hP.at (j := e + 1) (by omega) (by omega)
        have hs2 := k1.st hA2 (by omega)
        have hx2 := (invE k2 (Or.inl rfl) k3 hs2).1 rfl
        obtain ⟨-, -, -, -, -, -, -, -, A2, hG2, -⟩ := id k1
        have hbu2 : c'.length + (o.length + 0 + 0) + (if 9 ≤ st' ∧ st' ≤ 12 then 1 else 0) + 5 ≤ e := hG2.bu (by dsimp only; omega)
        obtain ⟨r2, g1, g2, g3, g4, g5⟩ := emit_ok (p := fin1) k7 (by rw [List.length_append, oi_len]; omega) ht
        rw [g1, Option.bind_some]
        have hFr : FrB r r2 := k8.fb.tr (FrB.em g3 g4 g5)
        rw [hx2] at hA2
        exact go _ (e + 1) r2 _ hA2 rfl (by omega) (by omega) (Or.inl rfl) hFr (hB.cg (fun i _ => ⟨by rw [g3 30 (by decide) (by decide), k8.1 30 (by decide) (by decide) (by decide) (by decide)], by rw [g3 31 (by decide) (by decide), k8.1 31 (by decide) (by decide) (by decide) (by decide)], by rw [g3 32 (by decide) (by decide), k8.1 32 (by decide) (by decide) (by decide) (by decide)]⟩)) g2
      refine hst _ ?_ ?_ ?_ ?_ ?_ ?_ ?_ ?_ ?_ ?_ ?_ ?_ ?_ ?_ ?_ ?_ ?_ ?_ ?_ ?_ ?_ ?_ ?_ ?_ ?_
      · intro _ _ _ _ _ eX eY _
        cases eX
        cases eY
        omega
      · intro _ _ _ _ _ eX eY _
        cases eX
        cases eY
        omega
      · intro _ _ _ _ _ _ _ _ _ _ _ _ _ eX eY hc
        cases eX
        cases eY
        exact blk rfl hc
      · intro _ _ _ _ _ _ eX eY h _
        cases eX
        cases eY
        omega
      · intro _ _ _ _ _ eX eY _
        cases eX
        cases eY
        omega
      · intro _ _ _ _ _ _ _ _ _ _ _ _ _ _ eX eY h _
        cases eX
        cases eY
        omega
      · intro _ _ _ _ _ _ _ _ _ _ _ _ _ eX eY hc _
        cases eX
        cases eY
        exact blk rfl hc
      · intro _ _ _ _ o te ag0 B _ _ _ _ _ _ _ _ eX eY hc
        cases eX
        cases eY
        obtain ⟨b1, b2, b3, b4⟩ : r.1 30 B.length = (if te = 0 then 0 else if ag0 = 0 then 2 else 3) ∧ (te ≠ 0 → r.1 31 B.length = Int32.ofNat (te - 1)) ∧ (ag0 ≠ 0 → r.1 32 B.length = Int32.ofNat (ag0 - 1)) ∧ Bq r B := hB
        have hlen4' : B.length + 1 ≤ 4 := hlen4
        obtain ⟨-, -, hbt, hba⟩ := hG.bk
        have hbu' : c.length + 5 ≤ j := hbu (by show 6 ≤ 6; omega)
        have h4 : te ≠ 0 → te ≤ c.length ∧ (c.getD (te - 1) (0, 0)).1 = 4 := hg4 (o, te, ag0) (List.mem_cons_self ..)
        show ∃ r' : RS, BMo_function_91 (lpN BMo_function_91 (M + z + 1)) (Int32.ofNat p, n, Int32.ofNat j, Int32.ofNat (B.length + 1), r) = some r' ∧ _ ∧ _
        rw [fn_cls hK hM (by omega) hp h17 hjm (by omega) (by omega) hc]
        have hst' : (if B = [] then 13 else 6) = 6 ∨ (if B = [] then 13 else 6) = 13 := by split <;> omega
        by_cases ht : te = 0
        · have ha : ag0 = 0 := by
            by_cases ha : ag0 = 0
            · exact ha
            · exact absurd ht (hba ha).1
          rw [if_pos ht] at b1
          rw [b1, if_neg (show ¬ (0 : Int32) = 3 by decide), if_pos (show (0 : Int32) = 0 from rfl)]
          refine go _ (j + 1) r _ hA' rfl (by omega) (by omega) hst' FrK.rf.fb b4 ?_
          show MCd zb sl (pt cl N) r (clo c te ag0)
          unfold clo
          rw [if_pos ht, if_pos ha, List.append_nil]
          exact hC
        · obtain ⟨ht1, ht2⟩ := h4 ht
          rw [if_neg ht] at b1
          by_cases ha : ag0 = 0
          · rw [if_pos ha] at b1
            rw [b1, if_neg (show ¬ (2 : Int32) = 3 by decide), if_neg (show ¬ (2 : Int32) = 0 by decide), b2 ht, if_pos (o_inb (by omega) (by omega)), o_nat (by omega), hC.1]
            refine go _ (j + 1) _ _ hA' rfl (by omega) (by omega) hst' FrB.a25 (b4.cg (fun i _ => ⟨rfl, rfl, rfl⟩)) ?_
            show MCd zb sl (pt cl N) _ (clo c te ag0)
            unfold clo
            rw [if_neg ht, if_pos ha, List.append_nil]
            exact hC.set ht ht1 ht2
          · rw [if_neg ha] at b1
            obtain ⟨r1, k1, k2, k3, k4, k5⟩ := emit_ok (p := (6, Int32.ofNat (ag0 - 1))) hC (by omega) tm6
            rw [b1, if_pos (show (3 : Int32) = 3 from rfl), b3 ha, k1, Option.bind_some, k3 30 (by decide) (by decide), b1, if_neg (show ¬ (3 : Int32) = 0 by decide), k3 31 (by decide) (by decide), b2 ht, if_pos (o_inb (by omega) (by omega)), o_nat (by omega), k2.1]
            refine go _ (j + 1) _ _ hA' rfl (by omega) (by omega) hst' ((FrB.em k3 k4 k5).tr FrB.a25) (b4.cg (fun i _ => ⟨congrFun (k3 30 (by decide) (by decide)) i, congrFun (k3 31 (by decide) (by decide)) i, congrFun (k3 32 (by decide) (by decide)) i⟩)) ?_
            show MCd zb sl (pt cl N) _ (clo c te ag0)
            unfold clo
            rw [if_neg ht, if_neg ha]
            exact k2.set ht (by rw [lenc]; omega) (by rw [gc_old (by omega)]; exact ht2)
      · intro _ _ _ _ _ _ _ _ _ _ _ _ _ eX eY hc
        cases eX
        cases eY
        have hj1 := hP.lt (by omega) hA' (by show 8 ≤ 12; omega)
        obtain ⟨x2, hA2⟩ := hP.at (j := j + 2) (by omega) (by omega)
        obtain ⟨c61, e2⟩ := inv8 (hA'.st hA2 (by omega))
        rw [e2] at hA2
        have hR : R j = 4 := by
          rw [hP.rx j (by omega) hjm, hA'.role (by omega) (fun h => absurd h.1 (by show (8 : Nat) ≠ 12; omega))]
          show upN ρ j 4 j = 4
          exact uN_eq
        obtain ⟨z1, z2⟩ := hP.zr j (by omega) hjm (by omega)
        obtain ⟨e, r1, k1, k2, k3, k4⟩ := semi (j + 2) _ _ _ _ _ (by omega) (by omega) hA2
        have e10 : r1.1 10 j = Int32.ofNat (zb j - 1) := by
          rw [k2.1 10 (by decide) (by decide) (by decide) (by decide), (hM.2.1 j (by omega)).2.2.2.1]
          cases hz : zb j with
          | zero => omega
          | succ v => rfl
        rw [fn_asg hK hM (by omega) hp h17 hjm (by omega) hc k1 e10 (by omega), h27' k2.fb j (by omega) hjm (by omega) (by omega), o_p1 (a := e)]
        exact k4 _ _ (tm2 (by omega))
      · intro _ _ _ _ _ eX eY hc
        cases eX
        cases eY
        have hj1 := hP.lt (by omega) hA' (by show 7 ≤ 12; omega)
        obtain ⟨x2, hA2⟩ := hP.at (j := j + 2) (by omega) (by omega)
        obtain ⟨c200, e2⟩ := inv7 (hA'.st hA2 (by omega))
        rw [e2] at hA2
        have hj2 := hP.lt (by omega) hA2 (by show 8 ≤ 12; omega)
        obtain ⟨x3, hA3⟩ := hP.at (j := j + 3) (by omega) (by omega)
        obtain ⟨c61, e3⟩ := inv8 (hA2.st hA3 (by omega))
        rw [e3] at hA3
        have hR : R (j + 1) = 3 := by
          rw [hP.rx (j + 1) (by omega) hj1, hA2.role (by omega) (fun h => absurd h.1 (by show (8 : Nat) ≠ 12; omega))]
          show upN ρ (j + 1) 3 (j + 1) = 3
          exact uN_eq
        obtain ⟨z1, z2⟩ := hP.zr (j + 1) (by omega) hj1 (by omega)
        obtain ⟨e, r1, k1, k2, k3, k4⟩ := semi (j + 3) _ _ _ _ _ (by omega) (by omega) hA3
        have e10 : r1.1 10 (j + 1) = Int32.ofNat (zb (j + 1) - 1) := by
          rw [k2.1 10 (by decide) (by decide) (by decide) (by decide), (hM.2.1 (j + 1) (by omega)).2.2.2.1]
          cases hz : zb (j + 1) with
          | zero => omega
          | succ v => rfl
        rw [fn_let hK hM (by omega) hp h17 hjm (by omega) hc k1 (by omega) e10 (by omega), h27' k2.fb (j + 1) (by omega) hj1 (by omega) (by omega), o_p1 (a := e)]
        exact k4 _ _ (tm2 (by omega))
      · intro _ _ _ _ _ _ _ _ _ fi _ _ _ _ eX eY hc
        cases eX
        cases eY
        obtain ⟨e, r1, k1, k2, k3, k4⟩ := semi (j + 1) _ _ _ _ _ (by omega) (by omega) hA'
        rcases hc with ⟨hc, hf⟩ | ⟨hc, hf⟩
        · rw [fn_use (fi := 3) hK hM (by omega) hp h17 hjm (by omega) (Or.inl ⟨hc, rfl⟩) k1, o_p1 (a := e)]
          exact k4 3 0 (by rw [hf]; exact tm7)
        · rw [fn_use (fi := 4) hK hM (by omega) hp h17 hjm (by omega) (Or.inr ⟨hc, rfl⟩) k1, o_p1 (a := e)]
          exact k4 4 0 (by rw [hf]; exact tm8)
      · intro _ _ _ _ _ _ _ _ ag' _ _ _ _ _ eX eY hc
        cases eX
        cases eY
        have f32 : FrB r (va_up r.1 32 (upd (r.1 32) bl.length (r.2.1 11)), r.2.1, r.2.2) := FrB.a32
        obtain ⟨e, st', le, o, ρ', γ', c', r1, k1, k2, k3, k4, k5, k6, k7, k8⟩ := compile_ok hP (by omega) (by omega) hA' (hM.cg f32.ff) (h27' f32) (hC.cg rfl rfl rfl)
        obtain ⟨x2, hA2⟩ := hP.at (j := e + 1) (by omega) (by omega)
        have hs2 := k1.st hA2 (by omega)
        obtain ⟨hb4, hx2⟩ := (invE k2 (Or.inr rfl) k3 hs2).2 rfl
        obtain ⟨-, -, -, -, -, -, -, -, A2, hG2, -⟩ := id k1
        have hbu2 : c'.length + (o.length + 0 + 0) + (if 9 ≤ st' ∧ st' ≤ 12 then 1 else 0) + 5 ≤ e := hG2.bu (by dsimp only; omega)
        have hl : (c' ++ oi o).length = c'.length + o.length := by rw [List.length_append, oi_len]
        have hC1 : MCd zb sl (pt cl N) (va_up r1.1 31 (upd (r1.1 31) bl.length (r1.2.1 11)), r1.2.1, r1.2.2) (c' ++ oi o) := k7.cg rfl rfl rfl
        obtain ⟨r2, g1, g2, g3, g4, g5⟩ := emit_ok (p := (4, 0)) hC1 (by omega) tm4
        have hFr2 : FrB r r2 := f32.tr (k8.fb.tr (FrB.a31.tr (FrB.em g3 g4 g5)))
        rw [hx2] at hA2
        have a30 : ∀ i, r2.1 30 i = r.1 30 i := fun i => by
          rw [g3 30 (by decide) (by decide)]
          show r1.1 30 i = _
          rw [k8.1 30 (by decide) (by decide) (by decide) (by decide)]
          rfl
        have a31 : ∀ i, r2.1 31 i = upd (r.1 31) bl.length (Int32.ofNat (c'.length + o.length)) i := fun i => by
          rw [g3 31 (by decide) (by decide)]
          show upd (r1.1 31) bl.length (r1.2.1 11) i = _
          rw [k8.1 31 (by decide) (by decide) (by decide) (by decide), k7.1, hl]
          rfl
        have a32 : ∀ i, r2.1 32 i = upd (r.1 32) bl.length (Int32.ofNat c.length) i := fun i => by
          rw [g3 32 (by decide) (by decide)]
          show r1.1 32 i = _
          rw [k8.1 32 (by decide) (by decide) (by decide) (by decide)]
          show upd (r.1 32) bl.length (r.2.1 11) i = _
          rw [hC.1]
        have bq : ∀ (v : Int32) (r3 : RS), (∀ i, r3.1 30 i = r2.1 30 i) → (∀ i, r3.1 31 i = r2.1 31 i) → (∀ i, r3.1 32 i = r2.1 32 i) → v = (if c'.length + o.length + 1 = 0 then 0 else if ag' = 0 then 2 else 3) → (ag' ≠ 0 → ag' = c.length + 1) → Bq (va_up r3.1 30 (upd (r3.1 30) bl.length v), r3.2.1, r3.2.2) ((e, c'.length + o.length + 1, ag') :: bl) := by
          intro v r3 q0 q1 q2 q3 q4
          refine ⟨?_, fun _ => ?_, fun ha => ?_, hB.cg (fun i hi => ⟨?_, ?_, ?_⟩)⟩
          · show upd (r3.1 30) bl.length v bl.length = _
            rw [ud_eq]; exact q3
          · show r3.1 31 bl.length = _
            rw [q1, a31, ud_eq]; rfl
          · show r3.1 32 bl.length = _
            rw [q2, a32, ud_eq, q4 ha]; rfl
          · show upd (r3.1 30) bl.length v i = _
            rw [ud_ne (Nat.ne_of_lt hi), q0, a30]
          · show r3.1 31 i = _
            rw [q1, a31, ud_ne (Nat.ne_of_lt hi)]
          · show r3.1 32 i = _
            rw [q2, a32, ud_ne (Nat.ne_of_lt hi)]
        rcases hc with ⟨hc, ha⟩ | ⟨hc, ha⟩
        · rw [fn_if hK hM (by omega) hp h17 hjm (by omega) (by omega) hc k6, g1, Option.bind_some]
          refine go _ (e + 1) _ _ hA2 rfl (by omega) (by omega) (Or.inl rfl) (hFr2.tr FrB.a30) (bq 2 r2 (fun _ => rfl) (fun _ => rfl) (fun _ => rfl) (by rw [if_neg (by omega), if_pos ha]) (fun h => absurd ha h)) ?_
          show MCd zb sl (pt cl N) _ (c' ++ oi o ++ [(4, 0)] ++ (if ag' = 0 then [] else [(5, 0)]))
          rw [if_pos ha, List.append_nil]
          exact g2.cg rfl rfl rfl
        · obtain ⟨r3, m1, m2, m3, m4, m5⟩ := emit_ok (p := (5, 0)) g2 (by rw [lenc]; omega) tm5
          rw [fn_whl hK hM (by omega) hp h17 hjm (by omega) (by omega) hc k6, g1, Option.bind_some, m1, Option.bind_some]
          refine go _ (e + 1) _ _ hA2 rfl (by omega) (by omega) (Or.inl rfl) (hFr2.tr ((FrB.em m3 m4 m5).tr FrB.a30)) (bq 3 r3 (fun i => congrFun (m3 30 (by decide) (by decide)) i) (fun i => congrFun (m3 31 (by decide) (by decide)) i) (fun i => congrFun (m3 32 (by decide) (by decide)) i) (by rw [if_neg (by omega), if_neg (by omega)]) (fun _ => ha)) ?_
          show MCd zb sl (pt cl N) _ (c' ++ oi o ++ [(4, 0)] ++ (if ag' = 0 then [] else [(5, 0)]))
          rw [if_neg (by omega)]
          exact m2.cg rfl rfl rfl
      · intro _ _ _ _ _ _ _ _ _ _ _ _ _ eX eY _
        cases eX
        cases eY
        omega
      · intro _ _ _ _ _ eX eY _
        cases eX
        cases eY
        omega
      · intro _ _ _ _ _ _ _ _ _ eX eY _
        cases eX
        cases eY
        omega
      · intro _ _ _ _ _ _ _ _ _ _ eX eY h _
        cases eX
        cases eY
        omega
      · intro _ _ _ _ _ _ _ _ _ _ eX eY h _ _
        cases eX
        cases eY
        omega
      · intro _ _ _ _ _ _ _ _ _ _ eX eY h _ _ _
        cases eX
        cases eY
        omega
      · intro _ _ _ _ _ _ _ _ _ _ eX eY h _ _
        cases eX
        cases eY
        omega
      · intro _ _ _ _ _ _ _ _ _ eX eY _ _
        cases eX
        cases eY
        omega
      · intro _ _ _ _ _ _ _ _ _ _ _ _ eX eY h _ _
        cases eX
        cases eY
        omega
      · intro _ _ _ _ _ _ _ _ _ _ _ _ _ _ _ _ eX eY h _ _
        cases eX
        cases eY
        omega
      · intro _ _ _ _ _ _ _ _ _ _ _ _ _ _ _ _ _ eX eY h _ _
        cases eX
        cases eY
        omega
      · intro _ _ _ _ _ _ _ _ _ _ eX eY h _ _
        cases eX
        cases eY
        omega
      · intro _ _ _ _ _ _ _ _ _ _ eX eY h _ _ _
        cases eX
        cases eY
        omega
    · have hj : j = m := by omega
      subst hj
      have e := Option.some.inj (hA.1.symm.trans hP.ax)
      subst e
      have hlen := (part_co (by omega) (by omega) hP.ax hP.x13 hP.c0f).1
      rw [show M + (z + 1) + 1 = (M + z + 1) + 1 by omega, lp_succ, fn_end hp h17 (Nat.le_refl _) (by omega)]
      obtain ⟨r1, k1, k2, k3, k4, k5⟩ := emit_ok (p := (0, 0)) hC (by omega) tm0
      obtain ⟨r2, g1, g2, g3, g4, g5⟩ := emit_ok (p := (8, 0)) k2 (by rw [lenc]; omega) tm8
      rw [k1, Option.bind_some, g1, Option.bind_some]
      exact ⟨r2, rfl, g2, (FrB.em k3 k4 k5).tr (FrB.em g3 g4 g5)⟩
end
