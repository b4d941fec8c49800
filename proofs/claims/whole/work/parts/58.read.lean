/-! both sides read a text alike -/
abbrev LL (T : Nat → Nat) (n : Nat) : List (Nat × Nat) := scanL T n n 0
abbrev NN (T : Nat → Nat) (n : Nat) : Nat := (LL T n).length
abbrev CL (T : Nat → Nat) (n : Nat) : Nat → Nat := clL T (LL T n)
abbrev NM (T : Nat → Nat) (n : Nat) : Nat → Nat := nmL T (LL T n)
abbrev SK (T : Nat → Nat) (n : Nat) : Nat → Nat := fun k => ((LL T n).getD k (0, 0)).1
abbrev EK (T : Nat → Nat) (n : Nat) : Nat → Nat := fun k => ((LL T n).getD k (0, 0)).2
abbrev zB (T : Nat → Nat) (n : Nat) (cs : Nat → Cds) : Nat → Nat := wB (CL T n) (NM T n) (NN T n) (gR (CL T n) (NM T n) (NN T n) cs) (gSc (CL T n) (NM T n) (NN T n) cs) (gSi (CL T n) (NM T n) (NN T n) cs) (gUn (CL T n) (NM T n) (NN T n) cs)
abbrev zF (T : Nat → Nat) (n : Nat) (cs : Nat → Cds) : Nat → Nat := wF (CL T n) (NM T n) (NN T n) (gR (CL T n) (NM T n) (NN T n) cs) (gG (CL T n) (NM T n) (NN T n) cs) (gSc (CL T n) (NM T n) (NN T n) cs) (gSi (CL T n) (NM T n) (NN T n) cs) (gUn (CL T n) (NM T n) (NN T n) cs) (gN (CL T n) (NM T n) (NN T n) cs)
/-- A fault's entry. -/
def zE (T : Nat → Nat) (n : Nat) (cs : Nat → Cds) (x : Nat) : Prop := B1 (CL T n) (NM T n) (SK T n) (EK T n) (NN T n) cs (ps (CL T n) (NN T n)).length x ∨ ∃ q, (q < NN T n ∧ zF T n cs q ≠ 0) ∧ x = zF T n cs q + 8 * SK T n q
/-- The desk holds the reading of its text. -/
def Red (T : Nat → Nat) (n : Nat) (cs : Nat → Cds) (l : List Nat) (d : DS) : Prop := TxD T n d ∧ DW (CL T n) (NM T n) (NN T n) (gR (CL T n) (NM T n) (NN T n) cs) (gG (CL T n) (NM T n) (NN T n) cs) (gSc (CL T n) (NM T n) (NN T n) cs) (gSi (CL T n) (NM T n) (NN T n) cs) (gUn (CL T n) (NM T n) (NN T n) cs) (gN (CL T n) (NM T n) (NN T n) cs) (okP (CL T n) (NM T n) (NN T n) cs) d ∧ (∀ k, k < NN T n → d.1 4 k = Int32.ofNat (kd T (SK T n k) (EK T n k)) ∧ d.1 6 k = Int32.ofNat (SK T n k) ∧ d.1 7 k = Int32.ofNat (EK T n k)) ∧ (∀ q, q < NN T n → d.1 14 q = pm (zB T n cs q)) ∧ FD d l ∧ l.Pairwise (· < ·) ∧ l.length ≤ 244 ∧ (∀ x, x ∈ l ↔ zE T n cs x) ∧ (∀ q, q < (ps (CL T n) (NN T n)).length → DF (CL T n) (NM T n) (SK T n) (EK T n) (NN T n) cs q d) ∧ CD d (cs (ps (CL T n) (NN T n)).length) ∧ cs 0 = []
theorem tok_all {T : Nat → Nat} {n : Nat} (hn : n ≤ 240) (hT : ∀ i, i < n → T i ≤ 126) : TkL T n (LL T n) ∧ NN T n ≤ 240 ∧ TK (CL T n) (NM T n) (NN T n) ∧ TS (SK T n) (EK T n) (NN T n) := by
  obtain ⟨s1, s2⟩ := scanL_ok T n n 0 (by omega) (by omega)
  have s3 : NN T n ≤ 240 := by
    show (LL T n).length ≤ 240
    have : (LL T n).length ≤ n - 0 := s1
    omega
  refine ⟨s2, s3, tk_ok s2 s3 hT, fun k hk => ?_, fun k hk => (scanL_ts T n n 0 (by omega) (by omega)).2 k hk⟩
  obtain ⟨a1, a2, -⟩ := s2 k hk
  refine ⟨a1, ?_⟩
  show ((LL T n).getD k (0, 0)).2 ≤ 240
  have : ((LL T n).getD k (0, 0)).2 ≤ n := a2
  omega
theorem B1_bnd {cl nm sk ek : Nat → Nat} {N : Nat} {cs : Nat → Cds} {x : Nat} (hK : TK cl nm N) (hS : TS sk ek N) (h : B1 cl nm sk ek N cs (ps cl N).length x) : x % 8 = 1 ∧ x ≤ 1921 := by
  obtain ⟨q, b, q1, q2, q3⟩ := h
  obtain ⟨i1, i2, i3⟩ := q2.in hK hS q1
  have b3 := (bd_ok hK).2.2.1 q q1
  have b5 := (bd_ok hK).2.2.2.2.1 (q + 1)
  have := (hS.1 (bd cl N (q + 1) - 1) (by omega)).2
  omega
theorem refreshD {T : Nat → Nat} {n : Nat} {d : DS} (hX : TxD T n d) (h2 : d.2 2 = 0) : ∃ (d' : DS) (cs : Nat → Cds) (l : List Nat), f_Dr_refresh d = some d' ∧ Red T n cs l d' ∧ d'.2 2 = 1 ∧ d'.2 3 = d.2 3 ∧ d'.1 2 = d.1 2 := by
  have hn := hX.2.1
  have hT : ∀ i, i < n → T i ≤ 126 := fun i hi => (hX.2.2 i hi).2.2
  obtain ⟨hl, hN, hK, hS⟩ := tok_all hn hT
  have hX1 : TxD T n (d.1, va_up d.2 2 1) := ⟨hX.1, hX.2.1, hX.2.2⟩
  obtain ⟨d1, a1, a2, a3, a4⟩ := readFrom_ok hX1
  have hT1 : DTok (CL T n) (NM T n) (NN T n) d1 := dtok_ok hl hT a2 a3
  obtain ⟨d2, c1, c2, c3, c4⟩ := clearD hN a2
  have hT2 : DTok (CL T n) (NM T n) (NN T n) (d2.1, va_up (va_up d2.2 5 0) 6 0) := hT1.cg (by rw [c3]; rfl) (c2 4 (by decide) (by decide) (by decide)) (c2 5 (by decide) (by decide) (by decide))
  obtain ⟨d3, s1, s2, s3, s4, s5⟩ := splitD hK hT2
  have hT3 : DTok (CL T n) (NM T n) (NN T n) d3 := hT2.cg (s5 4 (by decide)) (s4 4 (by decide)) (s4 5 (by decide))
  have y6 : d3.1 6 = d1.1 6 := (s4 6 (by decide)).trans (c2 6 (by decide) (by decide) (by decide))
  have y7 : d3.1 7 = d1.1 7 := (s4 7 (by decide)).trans (c2 7 (by decide) (by decide) (by decide))
  have h67 : ∀ k, k < NN T n → d3.1 6 k = Int32.ofNat (SK T n k) ∧ d3.1 7 k = Int32.ofNat (EK T n k) ∧ SK T n k ≤ 240 ∧ EK T n k ≤ 240 := fun k hk => by
    obtain ⟨t4, t6, t7, t5⟩ := a3 k hk
    rw [y6, y7]
    have := hS.1 k hk
    exact ⟨t6, t7, by omega, by omega⟩
  have z13 : ∀ q, q < NN T n → d3.1 13 q = 0 ∧ d3.1 14 q = -1 ∧ d3.1 15 q = -1 := fun q hq => by
    rw [s4 13 (by decide), s4 14 (by decide), s4 15 (by decide)]
    exact c4 q hq
  have hb0 : bd (CL T n) (NN T n) 0 = 0 := (bd_ok hK).2.1
  obtain ⟨d4, l4, r1, r2, r3, r4, r5, r6, r7, r8⟩ := rd53 (sk := SK T n) (ek := EK T n) hK (ps (CL T n) (NN T n)).length 0 d3 [[]] (99999 - (ps (CL T n) (NN T n)).length) rfl (by omega) rfl hT3 h67 s2 s3 (fun k _ hk => (z13 k hk).1) (s5 5 (by decide)) ⟨s5 6 (by decide), fun i hi => absurd hi (Nat.not_lt_zero _)⟩ (Nat.zero_le _) (fun q hq => absurd hq (Nat.not_lt_zero _))
  have hP4 := (bd_ok hK).1
  rw [show 99999 - (ps (CL T n) (NN T n)).length + (ps (CL T n) (NN T n)).length + 1 = 100000 by omega] at r1
  have hDF : ∀ q, q < (ps (CL T n) (NN T n)).length → DF (CL T n) (NM T n) (SK T n) (EK T n) (NN T n) (csOf l4) q (d4.1, va_up d4.2 1 0) := r4
  have hW : DW (CL T n) (NM T n) (NN T n) (gR (CL T n) (NM T n) (NN T n) (csOf l4)) (gG (CL T n) (NM T n) (NN T n) (csOf l4)) (gSc (CL T n) (NM T n) (NN T n) (csOf l4)) (gSi (CL T n) (NM T n) (NN T n) (csOf l4)) (gUn (CL T n) (NM T n) (NN T n) (csOf l4)) (gN (CL T n) (NM T n) (NN T n) (csOf l4)) (okP (CL T n) (NM T n) (NN T n) (csOf l4)) (d4.1, va_up d4.2 1 0) := gDW hK (r3.cg rfl rfl rfl) hDF r5
  have fA : ∀ i, i = 4 ∨ i = 6 ∨ i = 7 ∨ i = 27 ∨ i = 14 ∨ i = 15 ∨ i = 2 → d4.1 i = d3.1 i := fun i hi => r2.1 i (by omega) (by omega) (by omega) (by omega) (by omega) (by omega) (by omega) (by omega) (by omega) (by omega) (by omega) (by omega) (by omega) (by omega)
  obtain ⟨d5, l5, j1, j2, j3, j4, j5, j6, j7⟩ := jd122 (cs := csOf l4) (G := gG (CL T n) (NM T n) (NN T n) (csOf l4)) (np := gN (CL T n) (NM T n) (NN T n) (csOf l4)) hK hS (gAW (csOf l4) hK) (ps (CL T n) (NN T n)).length 0 (d4.1, va_up d4.2 1 0) [] (99999 - (ps (CL T n) (NN T n)).length) rfl (by omega) hW ((r2.2 0 (by decide) (by decide) (by decide) (by decide) (by decide)).trans s2) (fun i hi => by
    show d4.1 27 i = _
    rw [fA 27 (by omega)]; exact s3 i hi) (fun q hq => ⟨fun ho => ((r4 q hq).1 ho).1, fun ho => (r4 q hq).2 ho⟩) (fun q hq => by
    show d4.1 6 q = _
    rw [fA 6 (by omega)]; exact (h67 q hq).1) (fun q hq => by rw [hb0] at hq; exact absurd hq (Nat.not_lt_zero _)) (fun q _ hq => by
    show d4.1 14 q = _ ∧ d4.1 15 q = _
    rw [fA 14 (by omega), fA 15 (by omega)]; exact (z13 q hq).2) ⟨rfl, fun i hi => absurd hi (Nat.not_lt_zero _)⟩ (by
    rw [hb0]
    refine ⟨List.Pairwise.nil, fun _ x hx => absurd hx List.not_mem_nil, Nat.zero_le _, fun x => ⟨fun hx => absurd hx List.not_mem_nil, ?_⟩⟩
    rintro (⟨q, b, q1, -⟩ | ⟨q, ⟨q1, -⟩, -⟩)
    · exact absurd q1 (Nat.not_lt_zero _)
    · exact absurd q1 (Nat.not_lt_zero _))
  rw [show 99999 - (ps (CL T n) (NN T n)).length + (ps (CL T n) (NN T n)).length + 1 = 100000 by omega] at j1
  have g2 : d5.1 2 = d.1 2 := by
    rw [j6 2 (by decide) (by decide) (by decide)]
    show d4.1 2 = d.1 2
    rw [fA 2 (by omega), s4 2 (by decide)]
    show d2.1 2 = d.1 2
    rw [c2 2 (by decide) (by decide) (by decide)]
    exact a4.1 2 (by decide) (by decide) (by decide) (by decide)
  have gi : ∀ i, i = 2 ∨ i = 3 → d5.2 i = va_up d.2 2 1 i := fun i hi => by
    rw [j7 i (by omega)]
    show va_up d4.2 1 0 i = _
    rw [up_ne (by omega), r2.2 i (by omega) (by omega) (by omega) (by omega) (by omega), s5 i (by omega)]
    show va_up (va_up d2.2 5 0) 6 0 i = _
    rw [up_ne (by omega), up_ne (by omega), c3]
    exact a4.2 i (by omega)
  refine ⟨d5, csOf l4, l5, ?_, ⟨⟨(gi 3 (Or.inr rfl)).trans hX.1, hX.2.1, fun i hi => by rw [g2]; exact hX.2.2 i hi⟩, j2, fun k hk => ?_, j3, j4, j5.1, ?_, fun x => j5.2.2.2 x, fun q hq => ?_, ?_, r8⟩, gi 2 (Or.inl rfl), gi 3 (Or.inr rfl), g2⟩
  · unfold f_Dr_refresh
    rw [if_pos h2, a1, Option.bind_some, c1, Option.bind_some, s1, Option.bind_some]
    exact r1.trans j1
  · obtain ⟨t4, t6, t7, t5⟩ := a3 k hk
    rw [j6 4 (by decide) (by decide) (by decide), j6 6 (by decide) (by decide) (by decide), j6 7 (by decide) (by decide) (by decide)]
    show d4.1 4 k = _ ∧ d4.1 6 k = _ ∧ d4.1 7 k = _
    rw [fA 4 (by omega), fA 6 (by omega), fA 7 (by omega), y6, y7, s4 4 (by decide)]
    show d2.1 4 k = _ ∧ _
    rw [c2 4 (by decide) (by decide) (by decide)]
    exact ⟨t4, t6, t7⟩
  · have := j5.2.2.1
    omega
  · refine (hDF q hq).keep hK hq (fun k _ => ?_) (by rw [j6 28 (by decide) (by decide) (by decide)]) (fun _ t _ => ?_)
    · rw [j6 13 (by decide) (by decide) (by decide), j6 16 (by decide) (by decide) (by decide), j6 17 (by decide) (by decide) (by decide), j6 18 (by decide) (by decide) (by decide), j6 19 (by decide) (by decide) (by decide)]
      exact ⟨rfl, rfl, rfl, rfl, rfl⟩
    · rw [j6 9 (by decide) (by decide) (by decide), j6 10 (by decide) (by decide) (by decide), j6 11 (by decide) (by decide) (by decide)]
      exact ⟨rfl, rfl, rfl⟩
  · exact r6.cg ((j7 6 (by decide)).trans rfl) (j6 21 (by decide) (by decide) (by decide)) (j6 22 (by decide) (by decide) (by decide))
/-- The model holds the reading of its text. -/
def RedM (T : Nat → Nat) (n : Nat) (cs : Nat → Cds) (l : List Nat) (r : RS) : Prop := TxM T n r ∧ MW (CL T n) (NM T n) (SK T n) (NN T n) (gR (CL T n) (NM T n) (NN T n) cs) (gG (CL T n) (NM T n) (NN T n) cs) (gSc (CL T n) (NM T n) (NN T n) cs) (gSi (CL T n) (NM T n) (NN T n) cs) (gUn (CL T n) (NM T n) (NN T n) cs) (gN (CL T n) (NM T n) (NN T n) cs) (okP (CL T n) (NM T n) (NN T n) cs) r ∧ (∀ k, k < NN T n → r.1 5 k = Int32.ofNat (kd T (SK T n k) (EK T n k)) ∧ r.1 6 k = Int32.ofNat (SK T n k) ∧ r.1 7 k = Int32.ofNat (EK T n k)) ∧ (∀ q, q < NN T n → r.1 10 q = pm (zB T n cs q)) ∧ FL r l ∧ l.Pairwise (· < ·) ∧ l.length ≤ 244 ∧ (∀ x, x ∈ l ↔ zE T n cs x) ∧ (∀ q, q < (ps (CL T n) (NN T n)).length → r.1 16 q = Int32.ofNat (bd (CL T n) (NN T n) q))
/-- What analysing leaves as it was. -/
def FrA (r r' : RS) : Prop := (∀ i, i < 5 ∨ i = 11 ∨ 24 ≤ i → r'.1 i = r.1 i) ∧ (∀ i, i < 3 ∨ 11 ≤ i → r'.2.1 i = r.2.1 i) ∧ ∀ i, i ≠ 8 → r'.2.2 i = r.2.2 i
theorem analyseM {T : Nat → Nat} {n : Nat} {r : RS} (cs : Nat → Cds) (hX : TxM T n r) : ∃ (r' : RS) (l : List Nat), f_Mo_analyse r = some r' ∧ RedM T n cs l r' ∧ FrA r r' := by
  have hn := hX.2.1
  have hT : ∀ i, i < n → T i ≤ 126 := fun i hi => (hX.2.2.1 i hi).2.2
  obtain ⟨hl, hN, hK, hS⟩ := tok_all hn hT
  obtain ⟨r1, a1, a2, a3⟩ := scan_ok hX
  have hX1 := hX.fr a3
  obtain ⟨hM1, hE1⟩ := mtok_ok hl hX1 a2
  have hP4 := (bd_ok hK).1
  have hM2 : MTok (CL T n) (NM T n) (SK T n) (NN T n) (r1.1, va_up (va_up r1.2.1 4 0) 5 0, r1.2.2) := hM1.cg rfl rfl rfl rfl rfl
  obtain ⟨r2, b1, b2, b3, b4, b5, b6⟩ := msp_loop hK (NN T n) 0 (r1.1, va_up (va_up r1.2.1 4 0) 5 0, r1.2.2) (99999 - NN T n) rfl (by omega) hM2 rfl (fun i hi => absurd hi (Nat.not_lt_zero _))
  rw [show 99999 - NN T n + NN T n + 1 = 100000 by omega] at b1
  have hM3 : MTok (CL T n) (NM T n) (SK T n) (NN T n) r2 := hM2.cg (b5 3 (by decide)) b6 (b4 5 (by decide) (by decide)) (b4 6 (by decide) (by decide)) (b4 2 (by decide) (by decide))
  have hE3 : MEnd (EK T n) (NN T n) r2 := by
    unfold MEnd
    rw [b4 7 (by decide) (by decide)]
    exact hE1
  obtain ⟨r3, l3, c1, c2, c3, c4, c5, c6, c7, c8, c9, c10, c11⟩ := rd86 (ek := EK T n) cs hK hS (ps (CL T n) (NN T n)).length 0 r2 [] (99999 - (ps (CL T n) (NN T n)).length) rfl (by omega) hM3 hE3 b2 b3 (fun k _ hk => by
    rw [b4 9 (by decide) (by decide), b4 12 (by decide) (by decide), b4 14 (by decide) (by decide), b4 15 (by decide) (by decide)]
    obtain ⟨-, -, -, -, -, t9, t10, t12, t14, t15⟩ := a2.2 k hk
    exact ⟨t9, t12, t14, t15⟩) (fun q hq => absurd hq (Nat.not_lt_zero _)) ⟨(b5 5 (by decide)).trans rfl, fun i hi => absurd hi (Nat.not_lt_zero _)⟩ List.Pairwise.nil (Nat.zero_le _) (fun x => ⟨fun hx => absurd hx List.not_mem_nil, fun ⟨q, b, q1, _⟩ => absurd q1 (Nat.not_lt_zero _)⟩)
  rw [show 99999 - (ps (CL T n) (NN T n)).length + (ps (CL T n) (NN T n)).length + 1 = 100000 by omega] at c1
  have f16 : r3.1 16 = r2.1 16 := c9 16 (by decide) (by decide) (by decide) (by decide) (by decide) (by decide) (by decide) (by decide) (by decide) (by decide) (by decide)
  have f17 : r3.1 17 = r2.1 17 := c9 17 (by decide) (by decide) (by decide) (by decide) (by decide) (by decide) (by decide) (by decide) (by decide) (by decide) (by decide)
  have f10 : r3.1 10 = r2.1 10 := c9 10 (by decide) (by decide) (by decide) (by decide) (by decide) (by decide) (by decide) (by decide) (by decide) (by decide) (by decide)
  have hW3 := gMW hK c2 c4 ((c10 4 (by decide) (by decide) (by decide) (by decide) (by decide) (by decide)).trans b2) (fun i hi => by rw [f17]; exact (b3 i hi).2)
  obtain ⟨r4, l4, e1, e2, e3, e4, e5, e6, e7, e8, e9, e10⟩ := bindM (ok := okP (CL T n) (NM T n) (NN T n) cs) (B := B1 (CL T n) (NM T n) (SK T n) (EK T n) (NN T n) cs (ps (CL T n) (NN T n)).length) hK hS (fun x hx => B1_bnd hK hS hx) (gmono cs hK) (fun k hk hR => (((gAW cs hK).1 k hk).2.1 (by omega)).1) hW3 (fun q hq => by
    rw [f10, b4 10 (by decide) (by decide)]
    obtain ⟨-, -, -, -, -, t9, t10, -⟩ := a2.2 q hq
    exact t10) c5 c6 (by omega) c8
  have fA : ∀ i, i < 5 ∨ i = 5 ∨ i = 6 ∨ i = 7 ∨ i = 11 ∨ 24 ≤ i → r4.1 i = r1.1 i := fun i hi => by
    rw [e8 i (by omega) (by omega), c9 i (by omega) (by omega) (by omega) (by omega) (by omega) (by omega) (by omega) (by omega) (by omega) (by omega) (by omega), b4 i (by omega) (by omega)]
  have fI : ∀ i, i < 3 ∨ 11 ≤ i → r4.2.1 i = r1.2.1 i := fun i hi => by
    rw [e9 i (by omega), c10 i (by omega) (by omega) (by omega) (by omega) (by omega) (by omega), b5 i (by omega)]
    show va_up (va_up r1.2.1 4 0) 5 0 i = _
    rw [up_ne (by omega), up_ne (by omega)]
  have fL : r4.2.2 = r1.2.2 := e10.trans (c11.trans b6)
  refine ⟨r4, l4, ?_, ⟨⟨?_, hX.2.1, fun i hi => ?_, ?_⟩, e2, fun k hk => ?_, e3, e4, e5, e6, e7, fun q hq => ?_⟩, fun i hi => ?_, fun i hi => ?_, fun i hi => ?_⟩
  · unfold f_Mo_analyse
    rw [a1, Option.bind_some]
    exact b1.trans (c1.trans e1)
  · rw [fI 1 (by omega)]; exact hX1.1
  · rw [fA 2 (by omega)]; exact hX1.2.2.1 i hi
  · rw [fL]; exact hX1.2.2.2
  · rw [fA 5 (by omega), fA 6 (by omega), fA 7 (by omega)]
    obtain ⟨t5, t6, t7, -⟩ := a2.2 k hk
    exact ⟨t5, t6, t7⟩
  · rw [e8 16 (by decide) (by decide), f16]; exact (b3 q hq).1
  · rw [fA i (by omega)]
    exact a3.1 i (by omega) (by omega) (by omega) (by omega) (by omega) (by omega) (by omega) (by omega)
  · rw [fI i hi]; exact a3.2.1 i (by omega)
  · rw [fL]; exact a3.2.2 i hi
