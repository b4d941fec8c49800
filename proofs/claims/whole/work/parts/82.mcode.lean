/-! the model's code: how an order of the desk's looks in the model, and the waiting signs -/
def tm (zb sl pq : Nat → Nat) (p : Int32 × Int32) : Int32 × Int32 :=
  if p.1 = 0 then (0, p.2) else if p.1 = 1 then (1, Int32.ofNat (sl (zb p.2.toNatClampNeg - 1))) else if p.1 = 2 then (2, Int32.ofNat (sl (zb p.2.toNatClampNeg - 1))) else if p.1 = 3 then (7, Int32.ofNat (pq (zb p.2.toNatClampNeg - 1))) else if p.1 = 4 then (5, p.2) else if p.1 = 5 then (8, 0) else if p.1 = 6 then (6, p.2) else if p.1 = 7 then (3, 0) else if p.1 = 8 then (4, 0) else (100 + p.1, 0)
section
variable {zb sl pq : Nat → Nat}
theorem tm0 {v : Int32} : tm zb sl pq (0, v) = (0, v) := rfl
theorem tm1 {t : Nat} (h : t < 2147483648) : tm zb sl pq (1, Int32.ofNat t) = (1, Int32.ofNat (sl (zb t - 1))) := by
  show (1, Int32.ofNat (sl (zb (Int32.ofNat t).toNatClampNeg - 1))) = _
  rw [o_nat h]
theorem tm2 {t : Nat} (h : t < 2147483648) : tm zb sl pq (2, Int32.ofNat t) = (2, Int32.ofNat (sl (zb t - 1))) := by
  show (2, Int32.ofNat (sl (zb (Int32.ofNat t).toNatClampNeg - 1))) = _
  rw [o_nat h]
theorem tm3 {t : Nat} (h : t < 2147483648) : tm zb sl pq (3, Int32.ofNat t) = (7, Int32.ofNat (pq (zb t - 1))) := by
  show (7, Int32.ofNat (pq (zb (Int32.ofNat t).toNatClampNeg - 1))) = _
  rw [o_nat h]
theorem tm4 {v : Int32} : tm zb sl pq (4, v) = (5, v) := rfl
theorem tm5 {v : Int32} : tm zb sl pq (5, v) = (8, 0) := rfl
theorem tm6 {v : Int32} : tm zb sl pq (6, v) = (6, v) := rfl
theorem tm7 {v : Int32} : tm zb sl pq (7, v) = (3, 0) := rfl
theorem tm8 {v : Int32} : tm zb sl pq (8, v) = (4, 0) := rfl
theorem tmo {t : Nat} (h : t = 42 ∨ t = 43 ∨ t = 45 ∨ t = 60) : tm zb sl pq (Int32.ofNat t, 0) = (100 + Int32.ofNat t, 0) := by
  rcases h with h | h | h | h <;> subst h <;> rfl
def MCd (zb sl pq : Nat → Nat) (r : RS) (c : Cds) : Prop := r.2.1 11 = Int32.ofNat c.length ∧ ∀ i, i < c.length → r.1 24 i = (tm zb sl pq (c.getD i (0, 0))).1 ∧ r.1 25 i = (tm zb sl pq (c.getD i (0, 0))).2
theorem MCd.cg {r r' : RS} {c : Cds} (h : MCd zb sl pq r c) (h1 : r'.2.1 11 = r.2.1 11) (h24 : r'.1 24 = r.1 24) (h25 : r'.1 25 = r.1 25) : MCd zb sl pq r' c := by
  unfold MCd at *
  rw [h1, h24, h25]; exact h
def FrK (r r' : RS) : Prop := (∀ i, i ≠ 24 → i ≠ 25 → i ≠ 28 → i ≠ 29 → r'.1 i = r.1 i) ∧ (∀ i, i ≠ 11 → i ≠ 12 → r'.2.1 i = r.2.1 i) ∧ r'.2.2 = r.2.2
theorem FrK.rf {r : RS} : FrK r r := ⟨fun _ _ _ _ _ => rfl, fun _ _ _ => rfl, rfl⟩
theorem FrK.tr {r r' r2 : RS} (h : FrK r r') (h2 : FrK r' r2) : FrK r r2 := ⟨fun i a b c e => (h2.1 i a b c e).trans (h.1 i a b c e), fun i a b => (h2.2.1 i a b).trans (h.2.1 i a b), h2.2.2.trans h.2.2⟩
theorem emit_ok {r : RS} {c : Cds} {p : Int32 × Int32} {a1 a2 : Int32} (h : MCd zb sl pq r c) (hc : c.length < 700) (hp : tm zb sl pq p = (a1, a2)) : ∃ r', f_Mo_emit a1 a2 r = some r' ∧ MCd zb sl pq r' (c ++ [p]) ∧ (∀ i, i ≠ 24 → i ≠ 25 → r'.1 i = r.1 i) ∧ (∀ i, i ≠ 11 → r'.2.1 i = r.2.1 i) ∧ r'.2.2 = r.2.2 := by
  unfold f_Mo_emit
  rw [h.1, if_pos (o_inb hc (by omega)), if_pos (o_inb hc (by omega)), o_nat (by omega), onat1 (by omega)]
  refine ⟨_, rfl, ⟨by rw [lenc]; rfl, fun i hi => ?_⟩, fun i h1 h2 => ?_, fun i h1 => up_ne h1, rfl⟩
  · rw [lenc] at hi
    show upd (r.1 24) c.length a1 i = _ ∧ upd (r.1 25) c.length a2 i = _
    by_cases hi2 : i < c.length
    · rw [gc_old hi2, ud_ne (by omega), ud_ne (by omega)]
      exact h.2 i hi2
    · have : i = c.length := by omega
      subst this
      rw [gc_new, ud_eq, ud_eq, hp]
      exact ⟨rfl, rfl⟩
  · show va_up (va_up _ _ _) _ _ _ = _
    rw [up_ne h2, up_ne h1]
def QR (r : RS) : List (Nat × Int32) → Prop
  | [] => True
  | (t, v) :: Q => r.1 28 Q.length = Int32.ofNat t ∧ r.1 29 Q.length = v ∧ QR r Q
def QU (r : RS) (Q : List (Nat × Int32)) : Prop := r.2.1 12 = Int32.ofNat Q.length ∧ QR r Q
theorem QR.cg {r r' : RS} : ∀ {Q : List (Nat × Int32)}, QR r Q → (∀ i, i < Q.length → r'.1 28 i = r.1 28 i ∧ r'.1 29 i = r.1 29 i) → QR r' Q
  | [], _, _ => trivial
  | (t, v) :: Q, ⟨a, b, c⟩, h => by
    have hq := h Q.length (by rw [List.length_cons]; omega)
    exact ⟨hq.1.trans a, hq.2.trans b, QR.cg c (fun i hi => h i (by rw [List.length_cons]; omega))⟩
theorem QU.cg {r r' : RS} {Q : List (Nat × Int32)} (h : QU r Q) (h12 : r'.2.1 12 = r.2.1 12) (h28 : r'.1 28 = r.1 28) (h29 : r'.1 29 = r.1 29) : QU r' Q := ⟨h12.trans h.1, h.2.cg (fun i _ => ⟨by rw [h28], by rw [h29]⟩)⟩
theorem queue_ok {r : RS} {c : Cds} {Q : List (Nat × Int32)} {t : Nat} {v a1 : Int32} (h : MCd zb sl pq r c) (hQ : QU r Q) (hl : Q.length < 64) (ha : a1 = Int32.ofNat t) : ∃ r', f_Mo_queue a1 v r = some r' ∧ MCd zb sl pq r' c ∧ QU r' ((t, v) :: Q) ∧ FrK r r' := by
  unfold f_Mo_queue
  rw [hQ.1, if_pos (o_inb hl (by omega)), if_pos (o_inb hl (by omega)), o_nat (by omega), onat1 (by omega), ha]
  refine ⟨_, rfl, h.cg rfl rfl rfl, ⟨by rw [List.length_cons]; rfl, ?_, ?_, ?_⟩, fun i _ _ h1 h2 => ?_, fun i _ h2 => up_ne h2, rfl⟩
  · show upd (r.1 28) Q.length (Int32.ofNat t) Q.length = _
    rw [ud_eq]
  · show upd (r.1 29) Q.length v Q.length = _
    rw [ud_eq]
  · refine hQ.2.cg (fun i hi => ⟨?_, ?_⟩)
    · show upd (r.1 28) Q.length (Int32.ofNat t) i = _
      rw [ud_ne (by omega)]
    · show upd (r.1 29) Q.length v i = _
      rw [ud_ne (by omega)]
  · show va_up (va_up _ _ _) _ _ _ = _
    rw [up_ne h2, up_ne h1]
theorem rank_ok : ∀ t, t < 200 → f_Mo_rank (Int32.ofNat t) = some (Int32.ofNat (rk t)) := by decide +kernel
abbrev om (o : List Nat) : List (Nat × Int32) := o.map (fun t => (t, (-1 : Int32)))
theorem pop12 {n : Nat} (h : n < 90000) : Int32.ofNat (n + 1) - 1 = Int32.ofNat n := by rw [o_sub1 (by omega) (by omega), Nat.add_sub_cancel]
theorem settle_step {K : Int32 × RS → Option RS} {l t n : Nat} {r : RS} (h12 : r.2.1 12 = Int32.ofNat (n + 1)) (h28 : r.1 28 n = Int32.ofNat t) (hl : n < 64) (ht : t < 200) : BMo_settle_0 K (Int32.ofNat l, r) = if Int32.ofNat (rk t) < Int32.ofNat l then some r else (f_Mo_emit (100 + Int32.ofNat t) 0 (r.1, va_up r.2.1 12 (Int32.ofNat n), r.2.2)).bind fun q8 => K (Int32.ofNat l, q8) := by
  have hle : (Int32.ofNat (n + 1) ≤ 0) = False := (o_le (b := 0) (by omega) (by omega)).trans (eq_false (by omega))
  unfold BMo_settle_0
  simp only [h12, hle, pop12 (show n < 90000 by omega), o_inb hl (show n < 2147483648 by omega), o_nat (show n < 2147483648 by omega), h28, bindv, rank_ok t ht, Option.bind_some, ↓reduceIte]
theorem settle_loop {l : Nat} (hl1 : 1 ≤ l) (hl3 : l ≤ 3) {rest : List (Nat × Int32)} (hrest : rest = [] ∨ ∃ v Q, rest = (40, v) :: Q) : ∀ (o : List Nat) (r : RS) (c : Cds) (M : Nat), (∀ t, t ∈ o → t = 42 ∨ t = 43 ∨ t = 45 ∨ t = 60) → QU r (om o ++ rest) → (om o ++ rest).length ≤ 64 → MCd zb sl pq r c → c.length + o.length ≤ 690 → ∃ r', lpN BMo_settle_0 (M + o.length + 1) (Int32.ofNat l, r) = some r' ∧ QU r' (om (dw l o) ++ rest) ∧ MCd zb sl pq r' (c ++ oi (tw l o)) ∧ FrK r r'
  | [], r, c, M, _, hQ, hlen, hC, _ => by
    refine ⟨r, ?_, hQ, by rw [show oi (tw l []) = [] from rfl, List.append_nil]; exact hC, FrK.rf⟩
    rw [lp_succ]
    rcases hrest with e | ⟨v, Q, e⟩
    · subst e
      have h12 : r.2.1 12 = Int32.ofNat 0 := hQ.1
      unfold BMo_settle_0
      dsimp only
      rw [h12, if_pos (by decide)]
    · subst e
      have h12 : r.2.1 12 = Int32.ofNat (Q.length + 1) := hQ.1
      have hlen' : Q.length + 1 ≤ 64 := hlen
      have h28 : r.1 28 Q.length = Int32.ofNat 40 := hQ.2.1
      rw [settle_step h12 h28 (by omega) (by omega), if_pos (by rw [o_lt (by decide) (by omega)]; show 0 < l; omega)]
  | t :: o, r, c, M, ht, hQ, hlen, hC, hcl => by
    have h12 : r.2.1 12 = Int32.ofNat ((om o ++ rest).length + 1) := hQ.1
    have hlen' : (om o ++ rest).length + 1 ≤ 64 := hlen
    have h28 : r.1 28 (om o ++ rest).length = Int32.ofNat t := hQ.2.1
    have htt := ht t (List.mem_cons_self ..)
    rw [List.length_cons] at hcl
    have hrk := rk_le t
    have s0 : lpN BMo_settle_0 (M + (t :: o).length + 1) (Int32.ofNat l, r) = if Int32.ofNat (rk t) < Int32.ofNat l then some r else (f_Mo_emit (100 + Int32.ofNat t) 0 (r.1, va_up r.2.1 12 (Int32.ofNat (om o ++ rest).length), r.2.2)).bind fun q8 => lpN BMo_settle_0 (M + o.length + 1) (Int32.ofNat l, q8) := by
      rw [List.length_cons, show M + (o.length + 1) + 1 = (M + o.length + 1) + 1 by omega, lp_succ]
      exact settle_step h12 h28 (by omega) (by omega)
    rw [s0]
    by_cases hl : l ≤ rk t
    · have e1 : dw l (t :: o) = dw l o := by
        show List.dropWhile _ (t :: o) = _
        rw [List.dropWhile_cons_of_pos (by simpa using hl)]; rfl
      have e2 : tw l (t :: o) = t :: tw l o := by
        show List.takeWhile _ (t :: o) = _
        rw [List.takeWhile_cons_of_pos (by simpa using hl)]; rfl
      rw [if_neg (by rw [o_lt (by omega) (by omega)]; omega), e1, e2]
      have hC' : MCd zb sl pq (r.1, va_up r.2.1 12 (Int32.ofNat (om o ++ rest).length), r.2.2) c := hC.cg rfl rfl rfl
      obtain ⟨r1, k1, k2, k3, k4, k5⟩ := emit_ok hC' (by omega) (tmo htt)
      rw [k1]
      obtain ⟨r2, m1, m2, m3, m4⟩ := settle_loop hl1 hl3 hrest o r1 (c ++ [(Int32.ofNat t, 0)]) M (fun u hu => ht u (List.mem_cons_of_mem _ hu)) ⟨(k4 12 (by decide)).trans rfl, hQ.2.2.2.cg (fun i _ => ⟨by rw [k3 28 (by decide) (by decide)], by rw [k3 29 (by decide) (by decide)]⟩)⟩ (by omega) k2 (by rw [lenc]; omega)
      refine ⟨r2, m1, m2, ?_, FrK.tr ⟨fun i h1 h2 _ _ => k3 i h1 h2, fun i h1 h2 => (k4 i h1).trans (up_ne h2), k5⟩ m4⟩
      rw [show oi (t :: tw l o) = [(Int32.ofNat t, 0)] ++ oi (tw l o) from rfl, ← List.append_assoc]
      exact m3
    · have e1 : dw l (t :: o) = t :: o := by
        show List.dropWhile _ (t :: o) = _
        rw [List.dropWhile_cons_of_neg (by simpa using hl)]
      have e2 : tw l (t :: o) = [] := by
        show List.takeWhile _ (t :: o) = _
        rw [List.takeWhile_cons_of_neg (by simpa using hl)]
      rw [if_pos (by rw [o_lt (by omega) (by omega)]; omega), e1, e2]
      exact ⟨r, rfl, hQ, by rw [show oi [] = [] from rfl, List.append_nil]; exact hC, FrK.rf⟩
theorem settle_ok {l : Nat} {a : Int32} (hl1 : 1 ≤ l) (hl3 : l ≤ 3) (ha : a = Int32.ofNat l) {rest : List (Nat × Int32)} (hrest : rest = [] ∨ ∃ v Q, rest = (40, v) :: Q) {o : List Nat} {r : RS} {c : Cds} (ho : ∀ t, t ∈ o → t = 42 ∨ t = 43 ∨ t = 45 ∨ t = 60) (hQ : QU r (om o ++ rest)) (hlen : (om o ++ rest).length ≤ 64) (hC : MCd zb sl pq r c) (hc : c.length + o.length ≤ 690) : ∃ r', f_Mo_settle a r = some r' ∧ QU r' (om (dw l o) ++ rest) ∧ MCd zb sl pq r' (c ++ oi (tw l o)) ∧ FrK r r' := by
  have hol : o.length ≤ 64 := by
    rw [List.length_append, List.length_map] at hlen; omega
  unfold f_Mo_settle
  rw [ha, show (100000 : Nat) = (99999 - o.length) + o.length + 1 by omega]
  exact settle_loop hl1 hl3 hrest o r c _ ho hQ hlen hC hc
end
theorem tw_1 : ∀ {o : List Nat}, (∀ t, t ∈ o → t = 42 ∨ t = 43 ∨ t = 45 ∨ t = 60) → tw 1 o = o ∧ dw 1 o = []
  | [], _ => ⟨rfl, rfl⟩
  | t :: o, h => by
    have ht := h t (List.mem_cons_self ..)
    have h1 : 1 ≤ rk t := by rcases ht with e | e | e | e <;> subst e <;> decide
    obtain ⟨a, b⟩ := tw_1 (fun u hu => h u (List.mem_cons_of_mem _ hu))
    constructor
    · show List.takeWhile _ (t :: o) = _
      rw [List.takeWhile_cons_of_pos (by simpa using h1)]
      exact congrArg _ a
    · show List.dropWhile _ (t :: o) = _
      rw [List.dropWhile_cons_of_pos (by simpa using h1)]
      exact b
theorem pw_le : ∀ {o : List Nat}, (∀ t, t ∈ o → t = 42 ∨ t = 43 ∨ t = 45 ∨ t = 60) → o.Pairwise (fun a b => rk b < rk a) → ∀ t, (∀ u, u ∈ o → rk u < t) → o.length < t + (if t = 0 then 1 else 0) ∨ o = []
  | [], _, _, _, _ => Or.inr rfl
  | u :: o, h, hp, t, ht => by
    left
    have hp' := List.pairwise_cons.mp hp
    have hu := ht u (List.mem_cons_self ..)
    have h1 : 1 ≤ rk u := by rcases h u (List.mem_cons_self ..) with e | e | e | e <;> subst e <;> decide
    have := pw_le (fun v hv => h v (List.mem_cons_of_mem _ hv)) hp'.2 (rk u) (fun v hv => hp'.1 v hv)
    rw [if_neg (by omega)] at this ⊢
    rw [List.length_cons]
    rcases this with w | w
    · omega
    · rw [w]; show 0 + 1 < t + 0; omega
theorem pw_3 {o : List Nat} (h : ∀ t, t ∈ o → t = 42 ∨ t = 43 ∨ t = 45 ∨ t = 60) (hp : o.Pairwise (fun a b => rk b < rk a)) : o.length ≤ 3 := by
  rcases pw_le h hp 4 (fun u _ => by have := rk_le u; omega) with w | w
  · rw [if_neg (by omega)] at w; omega
  · rw [w]; decide
