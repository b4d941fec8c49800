/-! the reading of a part as one walk over its tokens: roles, blocks, brackets, and the code, as the tokens come.
A token is a number: its sign's character, 200 a name, 300 a number, 400 to 405 a keyword, 0 what no part may have. -/
abbrev Fm : Type := Nat × Nat × Nat × List Nat
abbrev Cds : Type := List (Int32 × Int32)
abbrev VS : Type := List (Nat × Nat × Nat) × Nat × Nat × Nat × (Int32 × Int32) × Nat × (Nat → Nat) × (Nat → Nat) × (Nat → Nat)
abbrev XS : Type := Nat × List Fm × (Nat → Nat) × (Nat → Nat) × Cds × VS
def upN (g : Nat → Nat) (k v : Nat) : Nat → Nat := fun i => if i = k then v else g i
theorem uN_eq {g : Nat → Nat} {k v : Nat} : upN g k v k = v := if_pos rfl
theorem uN_ne {g : Nat → Nat} {k v i : Nat} (h : i ≠ k) : upN g k v i = g i := if_neg h
def rk (t : Nat) : Nat := if t = 42 then 3 else if t = 43 ∨ t = 45 then 2 else if t = 60 then 1 else 0
theorem rk_le (t : Nat) : rk t ≤ 3 := by
  unfold rk
  repeat' split
  all_goals omega
def oi (o : List Nat) : Cds := o.map (fun t => (Int32.ofNat t, 0))
theorem oi_len (o : List Nat) : (oi o).length = o.length := List.length_map _
theorem oi_app (o p : List Nat) : oi (o ++ p) = oi o ++ oi p := List.map_append
def tw (l : Nat) (o : List Nat) : List Nat := o.takeWhile (fun t => decide (l ≤ rk t))
def dw (l : Nat) (o : List Nat) : List Nat := o.dropWhile (fun t => decide (l ≤ rk t))
theorem tw_app {l : Nat} : ∀ {p o : List Nat}, (∀ t, t ∈ p → l ≤ rk t) → (∀ t, t ∈ o → rk t < l) → tw l (p ++ o) = p ∧ dw l (p ++ o) = o
  | [], [], _, _ => ⟨rfl, rfl⟩
  | [], t :: o, _, h => by
    have h1 : ¬ l ≤ rk t := by have := h t (List.mem_cons_self ..); omega
    constructor
    · show List.takeWhile _ (t :: o) = []
      rw [List.takeWhile_cons_of_neg (by simpa using h1)]
    · show List.dropWhile _ (t :: o) = t :: o
      rw [List.dropWhile_cons_of_neg (by simpa using h1)]
  | t :: p, o, h, h2 => by
    have h1 : l ≤ rk t := h t (List.mem_cons_self ..)
    obtain ⟨g1, g2⟩ := tw_app (l := l) (p := p) (o := o) (fun t ht => h t (List.mem_cons_of_mem _ ht)) h2
    constructor
    · show List.takeWhile _ (t :: (p ++ o)) = t :: p
      rw [List.takeWhile_cons_of_pos (by simpa using h1)]
      exact congrArg _ g1
    · show List.dropWhile _ (t :: (p ++ o)) = o
      rw [List.dropWhile_cons_of_pos (by simpa using h1)]
      exact g2
def xOpd (cl nm : Nat → Nat) (k st ca le cn : Nat) (o : List Nat) (F : List Fm) (ρ γ : Nat → Nat) (c : Cds) (V : VS) : Option XS :=
  if st = 10 ∧ cl k = 41 then some (11, F, ρ, upN γ (ca - 1) 0, c ++ [(3, Int32.ofNat (ca - 1))], V)
  else if cl k = 300 then some (11, (ca, le, if st = 10 then 1 else cn, o) :: F, ρ, γ, c ++ [(0, Int32.ofNat (nm k))], V)
  else if cl k = 200 then some (12, (ca, le, if st = 10 then 1 else cn, o) :: F, upN ρ k 5, γ, if cl (k + 1) = 40 ∧ F.length ≤ 3 then c else c ++ [(1, Int32.ofNat k)], V)
  else if cl k = 40 ∧ F.length ≤ 3 then some (9, (0, 0, 0, []) :: (ca, le, if st = 10 then 1 else cn, o) :: F, ρ, γ, c, V)
  else none
def xEnd (k : Nat) (t : Nat) (o : List Nat) (ρ γ : Nat → Nat) (c : Cds) (V : VS) : Option XS :=
  if t = V.2.1 then
    (if t = 123 then
      (if V.1.length < 4 then some (6, [], ρ, γ, c ++ oi o ++ [(4, 0)] ++ (if V.2.2.2.1 = 0 then [] else [(5, 0)]), (k, c.length + o.length + 1, V.2.2.2.1) :: V.1, V.2) else none)
    else some (6, [], ρ, γ, c ++ oi o ++ [V.2.2.2.2.1], V.1, V.2.1, 0, V.2.2.2.1, V.2.2.2.2.1, V.2.2.2.2.2.1, V.2.2.2.2.2.2.1, (if V.2.2.1 = 0 then V.2.2.2.2.2.2.2.1 else upN V.2.2.2.2.2.2.2.1 (V.2.2.1 - 1) (k + 1)), V.2.2.2.2.2.2.2.2))
  else none
def xOpr (k t : Nat) (ca le cn : Nat) (o : List Nat) (F : List Fm) (ρ γ : Nat → Nat) (c : Cds) (V : VS) : Option XS :=
  if t = 43 ∨ t = 45 ∨ t = 42 then some (9, (ca, le, cn, t :: dw (rk t) o) :: F, ρ, γ, c ++ oi (tw (rk t) o), V)
  else if t = 60 then (if le = 0 then some (9, (ca, 1, cn, t :: dw 1 o) :: F, ρ, γ, c ++ oi (tw 1 o), V) else none)
  else if F = [] then xEnd k t o ρ γ c V
  else if t = 41 then some (11, F, ρ, if ca = 0 then γ else upN γ (ca - 1) cn, c ++ oi o ++ (if ca = 0 then [] else [(3, Int32.ofNat (ca - 1))]), V)
  else if t = 44 ∧ ca ≠ 0 then some (9, (ca, 0, cn + 1, []) :: F, ρ, γ, c ++ oi o, V)
  else none
def xSt (k t : Nat) (ρ γ : Nat → Nat) (c : Cds) (V : VS) : Option XS :=
  if t = 123 then (if V.1.length < 4 then some (6, [], ρ, γ, c, (k, 0, 0) :: V.1, V.2) else none)
  else if t = 125 then
    (match V.1 with
    | [] => none
    | (o, te, ag) :: B => some (if B = [] then 13 else 6, [], ρ, γ, (if te = 0 then c ++ (if ag = 0 then [] else [(6, Int32.ofNat (ag - 1))]) else (c ++ (if ag = 0 then [] else [(6, Int32.ofNat (ag - 1))])).set (te - 1) (4, Int32.ofNat (c ++ (if ag = 0 then [] else [((6 : Int32), Int32.ofNat (ag - 1))])).length)), B, V.2.1, V.2.2.1, V.2.2.2.1, V.2.2.2.2.1, V.2.2.2.2.2.1, V.2.2.2.2.2.2.1, V.2.2.2.2.2.2.2.1, upN V.2.2.2.2.2.2.2.2 o k))
  else if t = 200 then some (8, [], upN ρ k 4, γ, c, V.1, 59, 0, 0, (2, Int32.ofNat k), V.2.2.2.2.2)
  else if t = 401 then some (7, [], ρ, γ, c, V)
  else if t = 404 then some (9, [(0, 0, 0, [])], ρ, γ, c, V.1, 59, 0, 0, (7, 0), V.2.2.2.2.2)
  else if t = 405 then some (9, [(0, 0, 0, [])], ρ, γ, c, V.1, 59, 0, 0, (8, 0), V.2.2.2.2.2)
  else if t = 402 then some (9, [(0, 0, 0, [])], ρ, γ, c, V.1, 123, 0, 0, V.2.2.2.2)
  else if t = 403 then some (9, [(0, 0, 0, [])], ρ, γ, c, V.1, 123, 0, c.length + 1, V.2.2.2.2)
  else none
def xHd (f k t st : Nat) (ρ γ : Nat → Nat) (c : Cds) (V : VS) : Option XS :=
  if st = 0 then (if t = 200 then some (1, [], upN ρ k 1, γ, c, V) else none)
  else if st = 1 then (if t = 40 then some (2, [], ρ, γ, c, V) else none)
  else if st = 5 then (if t = 123 then some (6, [], ρ, γ, c, (k, 0, 0) :: V.1, V.2) else none)
  else if st ≠ 4 ∧ t = 41 then some (5, [], ρ, γ, c, V)
  else if st = 3 then (if t = 44 then some (4, [], ρ, γ, c, V) else none)
  else if t = 200 then some (3, [], upN ρ k 2, γ, c, V.1, V.2.1, V.2.2.1, V.2.2.2.1, V.2.2.2.2.1, V.2.2.2.2.2.1 + 1, upN V.2.2.2.2.2.2.1 k f, V.2.2.2.2.2.2.2)
  else none
def xLet (k t : Nat) (ρ γ : Nat → Nat) (c : Cds) (V : VS) : Option XS :=
  if t = 200 then some (8, [], upN ρ k 3, γ, c, V.1, 59, k + 1, 0, (2, Int32.ofNat k), V.2.2.2.2.2.1, upN V.2.2.2.2.2.2.1 k (V.1.headD (0, 0, 0)).1, V.2.2.2.2.2.2.2) else none
def stp (cl nm : Nat → Nat) (f k : Nat) (x : XS) : Option XS :=
  if x.1 ≤ 5 then xHd f k (cl k) x.1 x.2.2.1 x.2.2.2.1 x.2.2.2.2.1 x.2.2.2.2.2
  else if x.1 = 6 then xSt k (cl k) x.2.2.1 x.2.2.2.1 x.2.2.2.2.1 x.2.2.2.2.2
  else if x.1 = 7 then xLet k (cl k) x.2.2.1 x.2.2.2.1 x.2.2.2.2.1 x.2.2.2.2.2
  else if x.1 = 8 then (if cl k = 61 then some (9, [(0, 0, 0, [])], x.2.2.1, x.2.2.2.1, x.2.2.2.2.1, x.2.2.2.2.2) else none)
  else match x.2.1 with
  | [] => none
  | (ca, le, cn, o) :: F =>
    if x.1 = 9 ∨ x.1 = 10 then xOpd cl nm k x.1 ca le cn o F x.2.2.1 x.2.2.2.1 x.2.2.2.2.1 x.2.2.2.2.2
    else if x.1 = 12 ∧ cl k = 40 then (if F.length ≤ 3 then some (10, (k, 0, 0, []) :: (ca, le, cn, o) :: F, upN x.2.2.1 (k - 1) 6, x.2.2.2.1, x.2.2.2.2.1, x.2.2.2.2.2) else none)
    else if x.1 = 11 ∨ x.1 = 12 then xOpr k (cl k) ca le cn o F x.2.2.1 x.2.2.2.1 x.2.2.2.2.1 x.2.2.2.2.2
    else none
def aut0 (cl nm : Nat → Nat) (f : Nat) (c0 : Cds) : Nat → Option XS
  | 0 => some (0, [], fun _ => 0, fun _ => 0, c0, [], 0, 0, 0, (0, 0), 0, fun _ => 0, fun _ => 0, fun _ => 0)
  | i + 1 => (aut0 cl nm f c0 i).bind (stp cl nm f (f + 1 + i))
def aut (cl nm : Nat → Nat) (f : Nat) (c0 : Cds) (j : Nat) : Option XS := aut0 cl nm f c0 (j - (f + 1))
theorem aut_s {cl nm : Nat → Nat} {f : Nat} {c0 : Cds} {j : Nat} (h : f < j) : aut cl nm f c0 (j + 1) = (aut cl nm f c0 j).bind (stp cl nm f j) := by
  unfold aut
  rw [show j + 1 - (f + 1) = (j - (f + 1)) + 1 by omega]
  show (aut0 cl nm f c0 (j - (f + 1))).bind (stp cl nm f (f + 1 + (j - (f + 1)))) = _
  rw [show f + 1 + (j - (f + 1)) = j by omega]
theorem aut_g {cl nm : Nat → Nat} {f : Nat} {c0 : Cds} {j : Nat} {x : XS} (h : f < j) (hx : aut cl nm f c0 j = some x) : aut cl nm f c0 (j + 1) = stp cl nm f j x := by
  rw [aut_s h, hx]; rfl
theorem stp_opd {cl nm : Nat → Nat} {f k st ca le cn : Nat} {o : List Nat} {F : List Fm} {ρ γ : Nat → Nat} {c : Cds} {V : VS} (h : st = 9 ∨ st = 10) : stp cl nm f k (st, (ca, le, cn, o) :: F, ρ, γ, c, V) = xOpd cl nm k st ca le cn o F ρ γ c V := by
  unfold stp
  dsimp only
  rw [if_neg (by omega), if_neg (by omega), if_neg (by omega), if_neg (by omega), if_pos h]
theorem stp_opr {cl nm : Nat → Nat} {f k st ca le cn : Nat} {o : List Nat} {F : List Fm} {ρ γ : Nat → Nat} {c : Cds} {V : VS} (h : st = 11 ∨ st = 12) (h2 : ¬ (st = 12 ∧ cl k = 40)) : stp cl nm f k (st, (ca, le, cn, o) :: F, ρ, γ, c, V) = xOpr k (cl k) ca le cn o F ρ γ c V := by
  unfold stp
  dsimp only
  rw [if_neg (by omega), if_neg (by omega), if_neg (by omega), if_neg (by omega), if_neg (by omega), if_neg h2, if_pos h]
theorem stp_call {cl nm : Nat → Nat} {f k ca le cn : Nat} {o : List Nat} {F : List Fm} {ρ γ : Nat → Nat} {c : Cds} {V : VS} (h2 : cl k = 40) : stp cl nm f k (12, (ca, le, cn, o) :: F, ρ, γ, c, V) = if F.length ≤ 3 then some (10, (k, 0, 0, []) :: (ca, le, cn, o) :: F, upN ρ (k - 1) 6, γ, c, V) else none := by
  unfold stp
  dsimp only
  rw [if_neg (by omega), if_neg (by omega), if_neg (by omega), if_neg (by omega), if_neg (by omega), if_pos ⟨rfl, h2⟩]
/-! the tokens as both sides have them -/
def kk (t : Nat) : Nat := if t = 0 then 5 else if t < 200 then 4 else if t = 200 then 2 else if t = 300 then 3 else 1
def TK (cl nm : Nat → Nat) (N : Nat) : Prop := N ≤ 240 ∧ (∀ k, cl k < 127 ∨ cl k = 200 ∨ cl k = 300 ∨ 400 ≤ cl k ∧ cl k ≤ 405) ∧ (∀ k, nm k < 1073741824) ∧ ∀ k, N ≤ k → cl k = 0
def DTok (cl nm : Nat → Nat) (N : Nat) (d : DS) : Prop := d.2 4 = Int32.ofNat N ∧ ∀ k, k < N → d.1 4 k = Int32.ofNat (kk (cl k)) ∧ (0 < cl k → cl k < 200 → d.1 5 k = Int32.ofNat (cl k)) ∧ (cl k = 200 ∨ cl k = 300 → d.1 5 k = Int32.ofNat (nm k)) ∧ (400 ≤ cl k → d.1 5 k = Int32.ofNat (cl k - 400))
theorem kk_4 {t : Nat} : kk t = 4 ↔ 0 < t ∧ t < 200 := by
  unfold kk
  repeat' split
  all_goals omega
theorem kk_2 {t : Nat} : kk t = 2 ↔ t = 200 := by
  unfold kk
  repeat' split
  all_goals omega
theorem kk_3 {t : Nat} : kk t = 3 ↔ t = 300 := by
  unfold kk
  repeat' split
  all_goals omega
theorem kk_1 {t : Nat} : kk t = 1 ↔ 200 < t ∧ t ≠ 300 := by
  unfold kk
  repeat' split
  all_goals omega
theorem kk_le (t : Nat) : kk t ≤ 5 := by
  unfold kk
  repeat' split
  all_goals omega
/-! the desk's small steps -/
abbrev nx (d : DS) (j : Nat) : DS := (d.1, va_up d.2 7 (Int32.ofNat j))
theorem ts_yes {cl nm : Nat → Nat} {N m j t : Nat} {a1 : Int32} {d : DS} (hK : TK cl nm N) (hT : DTok cl nm N d) (h7 : d.2 7 = Int32.ofNat j) (h8 : d.2 8 = Int32.ofNat m) (hm : m ≤ N) (ha : a1 = Int32.ofNat t) (hj : j < m) (hc : cl j = t) (ht : 0 < t) (ht2 : t < 200) : f_Gr_takeSign a1 d = some (1, nx d (j + 1)) := by
  have hN := hK.1
  obtain ⟨t4, t5, -, -⟩ := hT.2 j (by omega)
  unfold f_Gr_takeSign
  rw [h7, h8, if_neg (by rw [o_le (by omega) (by omega)]; omega), if_pos (o_inb (by omega) (by omega)), o_nat (by omega), t4, if_pos (by rw [kk_4.mpr (by omega)]; rfl), if_pos (o_inb (by omega) (by omega)), t5 (by omega) (by omega), hc, ha, if_pos rfl]
  show some (1, d.1, va_up d.2 7 (Int32.ofNat j + 1)) = _
  rw [onat1 (by omega)]
theorem ts_no {cl nm : Nat → Nat} {N m j t : Nat} {a1 : Int32} {d : DS} (hK : TK cl nm N) (hT : DTok cl nm N d) (h7 : d.2 7 = Int32.ofNat j) (h8 : d.2 8 = Int32.ofNat m) (hm : m ≤ N) (hjm : j ≤ m) (ha : a1 = Int32.ofNat t) (ht2 : t < 200) (hn : ¬ (j < m ∧ cl j = t)) : f_Gr_takeSign a1 d = some (0, d) := by
  have hN := hK.1
  unfold f_Gr_takeSign
  rw [h7, h8]
  by_cases hj : j < m
  · obtain ⟨t4, t5, -, -⟩ := hT.2 j (by omega)
    have hc := hK.2.1 j
    have hkl := kk_le (cl j)
    rw [if_neg (by rw [o_le (by omega) (by omega)]; omega), if_pos (o_inb (by omega) (by omega)), o_nat (by omega), t4]
    by_cases h4 : kk (cl j) = 4
    · have h4' := kk_4.mp h4
      rw [if_pos (by rw [h4]; rfl), if_pos (o_inb (by omega) (by omega)), t5 (by omega) (by omega), ha, if_neg (by rw [o_eq (by omega) (by omega)]; exact fun h => hn ⟨hj, h⟩)]
    · rw [if_neg (by intro h; exact h4 ((o_eq (b := 4) (by omega) (by omega)).mp h))]
  · rw [if_pos (by rw [o_le (by omega) (by omega)]; omega)]
theorem tn_yes {cl nm : Nat → Nat} {N m j : Nat} {a1 : Int32} {d : DS} (hK : TK cl nm N) (hT : DTok cl nm N d) (h7 : d.2 7 = Int32.ofNat j) (h8 : d.2 8 = Int32.ofNat m) (hm : m ≤ N) (hj : j < m) (hc : cl j = 200) : f_Gr_takeName a1 d = some (1, (va_up d.1 13 (upd (d.1 13) j a1), va_up d.2 7 (Int32.ofNat (j + 1)))) := by
  have hN := hK.1
  obtain ⟨t4, -, -, -⟩ := hT.2 j (by omega)
  unfold f_Gr_takeName
  rw [h7, h8, if_neg (by rw [o_le (by omega) (by omega)]; omega), if_pos (o_inb (by omega) (by omega)), o_nat (by omega), t4, if_pos (by rw [kk_2.mpr hc]; rfl), if_pos (o_inb (by omega) (by omega)), onat1 (by omega)]
theorem tn_no {cl nm : Nat → Nat} {N m j : Nat} {a1 : Int32} {d : DS} (hK : TK cl nm N) (hT : DTok cl nm N d) (h7 : d.2 7 = Int32.ofNat j) (h8 : d.2 8 = Int32.ofNat m) (hm : m ≤ N) (hjm : j ≤ m) (hn : ¬ (j < m ∧ cl j = 200)) : f_Gr_takeName a1 d = some (0, d) := by
  have hN := hK.1
  unfold f_Gr_takeName
  rw [h7, h8]
  by_cases hj : j < m
  · obtain ⟨t4, -, -, -⟩ := hT.2 j (by omega)
    have hkl := kk_le (cl j)
    rw [if_neg (by rw [o_le (by omega) (by omega)]; omega), if_pos (o_inb (by omega) (by omega)), o_nat (by omega), t4, if_neg (by intro h; exact hn ⟨hj, kk_2.mp ((o_eq (b := 2) (by omega) (by omega)).mp h)⟩)]
  · rw [if_pos (by rw [o_le (by omega) (by omega)]; omega)]
def CD (d : DS) (c : Cds) : Prop := d.2 6 = Int32.ofNat c.length ∧ ∀ i, i < c.length → d.1 21 i = (c.getD i (0, 0)).1 ∧ d.1 22 i = (c.getD i (0, 0)).2
def FrC (d d' : DS) : Prop := (∀ j, j ≠ 21 → j ≠ 22 → d'.1 j = d.1 j) ∧ ∀ j, j ≠ 6 → d'.2 j = d.2 j
theorem gc_old {c : Cds} {x : Int32 × Int32} {k : Nat} (h : k < c.length) : (c ++ [x]).getD k (0, 0) = c.getD k (0, 0) := by
  rw [List.getD_eq_getElem?_getD, List.getD_eq_getElem?_getD, List.getElem?_append_left h]
theorem gc_new {c : Cds} {x : Int32 × Int32} : (c ++ [x]).getD c.length (0, 0) = x := by
  rw [List.getD_eq_getElem?_getD, List.getElem?_append_right (Nat.le_refl _), Nat.sub_self]; rfl
theorem lenc {c : Cds} {x : Int32 × Int32} : (c ++ [x]).length = c.length + 1 := by rw [List.length_append]; rfl
theorem cd_add {d : DS} {c : Cds} {a b : Int32} (hC : CD d c) (h : c.length < 240) : ∃ d', f_Cd_add a b d = some d' ∧ CD d' (c ++ [(a, b)]) ∧ FrC d d' := by
  unfold f_Cd_add
  rw [hC.1, if_neg (show ¬ (240 : Int32) ≤ Int32.ofNat c.length by rw [i_le, onat (by omega), n240]; omega), if_pos (o_inb h (by omega)), if_pos (o_inb h (by omega)), o_nat (by omega), onat1 (by omega)]
  refine ⟨_, rfl, ⟨by rw [lenc]; rfl, fun i hi => ?_⟩, fun j h1 h2 => ?_, fun j h1 => up_ne h1⟩
  · rw [lenc] at hi
    show upd (d.1 21) c.length a i = _ ∧ upd (d.1 22) c.length b i = _
    by_cases hi2 : i < c.length
    · rw [gc_old hi2, ud_ne (by omega), ud_ne (by omega)]
      exact hC.2 i hi2
    · have : i = c.length := by omega
      subst this
      rw [gc_new, ud_eq, ud_eq]
      exact ⟨rfl, rfl⟩
  · show va_up (va_up _ _ _) _ _ _ = _
    rw [up_ne h2, up_ne h1]
theorem CD.cg {d d' : DS} {c : Cds} (h : CD d c) (h6 : d'.2 6 = d.2 6) (h21 : d'.1 21 = d.1 21) (h22 : d'.1 22 = d.1 22) : CD d' c := by
  unfold CD at *
  rw [h6, h21, h22]; exact h
theorem DTok.cg {cl nm : Nat → Nat} {N : Nat} {d d' : DS} (h : DTok cl nm N d) (h1 : d'.2 4 = d.2 4) (h4 : d'.1 4 = d.1 4) (h5 : d'.1 5 = d.1 5) : DTok cl nm N d' := by
  unfold DTok at *
  rw [h1, h4, h5]; exact h
