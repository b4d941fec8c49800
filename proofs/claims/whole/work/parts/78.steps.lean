/-! the walk's steps, one constructor each; what later steps leave as it is -/
def clo (c : Cds) (te ag : Nat) : Cds := if te = 0 then c ++ (if ag = 0 then [] else [(6, Int32.ofNat (ag - 1))]) else (c ++ (if ag = 0 then [] else [(6, Int32.ofNat (ag - 1))])).set (te - 1) (4, Int32.ofNat (c ++ (if ag = 0 then [] else [((6 : Int32), Int32.ofNat (ag - 1))])).length)
def St (cl nm : Nat → Nat) (f k : Nat) (x : XS) (x' : XS) : Prop := ∀ Q : Prop,
  (∀ fr : List Fm, ∀ ρ : Nat → Nat, ∀ γ : Nat → Nat, ∀ c : Cds, ∀ V : VS, x = (0, fr, ρ, γ, c, V) → x' = (1, [], upN ρ k 1, γ, c, V) → (cl k = 200) → Q) →
  (∀ fr : List Fm, ∀ ρ : Nat → Nat, ∀ γ : Nat → Nat, ∀ c : Cds, ∀ V : VS, x = (1, fr, ρ, γ, c, V) → x' = (2, [], ρ, γ, c, V) → (cl k = 40) → Q) →
  (∀ fr : List Fm, ∀ ρ : Nat → Nat, ∀ γ : Nat → Nat, ∀ c : Cds, ∀ bl : List (Nat × Nat × Nat), ∀ en : Nat, ∀ ln : Nat, ∀ ag : Nat, ∀ fin : Int32 × Int32, ∀ np : Nat, ∀ σ : Nat → Nat, ∀ α : Nat → Nat, ∀ ω : Nat → Nat, x = (5, fr, ρ, γ, c, bl, en, ln, ag, fin, np, σ, α, ω) → x' = (6, [], ρ, γ, c, (k, 0, 0) :: bl, en, ln, ag, fin, np, σ, α, ω) → (cl k = 123) → Q) →
  (∀ st : Nat, ∀ fr : List Fm, ∀ ρ : Nat → Nat, ∀ γ : Nat → Nat, ∀ c : Cds, ∀ V : VS, x = (st, fr, ρ, γ, c, V) → x' = (5, [], ρ, γ, c, V) → (st = 2 ∨ st = 3) → (cl k = 41) → Q) →
  (∀ fr : List Fm, ∀ ρ : Nat → Nat, ∀ γ : Nat → Nat, ∀ c : Cds, ∀ V : VS, x = (3, fr, ρ, γ, c, V) → x' = (4, [], ρ, γ, c, V) → (cl k = 44) → Q) →
  (∀ st : Nat, ∀ fr : List Fm, ∀ ρ : Nat → Nat, ∀ γ : Nat → Nat, ∀ c : Cds, ∀ bl : List (Nat × Nat × Nat), ∀ en : Nat, ∀ ln : Nat, ∀ ag : Nat, ∀ fin : Int32 × Int32, ∀ np : Nat, ∀ σ : Nat → Nat, ∀ α : Nat → Nat, ∀ ω : Nat → Nat, x = (st, fr, ρ, γ, c, bl, en, ln, ag, fin, np, σ, α, ω) → x' = (3, [], upN ρ k 2, γ, c, bl, en, ln, ag, fin, np + 1, upN σ k f, α, ω) → (st = 2 ∨ st = 4) → (cl k = 200) → Q) →
  (∀ fr : List Fm, ∀ ρ : Nat → Nat, ∀ γ : Nat → Nat, ∀ c : Cds, ∀ bl : List (Nat × Nat × Nat), ∀ en : Nat, ∀ ln : Nat, ∀ ag : Nat, ∀ fin : Int32 × Int32, ∀ np : Nat, ∀ σ : Nat → Nat, ∀ α : Nat → Nat, ∀ ω : Nat → Nat, x = (6, fr, ρ, γ, c, bl, en, ln, ag, fin, np, σ, α, ω) → x' = (6, [], ρ, γ, c, (k, 0, 0) :: bl, en, ln, ag, fin, np, σ, α, ω) → (cl k = 123) → (bl.length < 4) → Q) →
  (∀ fr : List Fm, ∀ ρ : Nat → Nat, ∀ γ : Nat → Nat, ∀ c : Cds, ∀ o : Nat, ∀ te : Nat, ∀ ag0 : Nat, ∀ bl : List (Nat × Nat × Nat), ∀ en : Nat, ∀ ln : Nat, ∀ ag : Nat, ∀ fin : Int32 × Int32, ∀ np : Nat, ∀ σ : Nat → Nat, ∀ α : Nat → Nat, ∀ ω : Nat → Nat, x = (6, fr, ρ, γ, c, (o, te, ag0) :: bl, en, ln, ag, fin, np, σ, α, ω) → x' = (if bl = [] then 13 else 6, [], ρ, γ, clo c te ag0, bl, en, ln, ag, fin, np, σ, α, upN ω o k) → (cl k = 125) → Q) →
  (∀ fr : List Fm, ∀ ρ : Nat → Nat, ∀ γ : Nat → Nat, ∀ c : Cds, ∀ bl : List (Nat × Nat × Nat), ∀ en : Nat, ∀ ln : Nat, ∀ ag : Nat, ∀ fin : Int32 × Int32, ∀ np : Nat, ∀ σ : Nat → Nat, ∀ α : Nat → Nat, ∀ ω : Nat → Nat, x = (6, fr, ρ, γ, c, bl, en, ln, ag, fin, np, σ, α, ω) → x' = (8, [], upN ρ k 4, γ, c, bl, 59, 0, 0, (2, Int32.ofNat k), np, σ, α, ω) → (cl k = 200) → Q) →
  (∀ fr : List Fm, ∀ ρ : Nat → Nat, ∀ γ : Nat → Nat, ∀ c : Cds, ∀ V : VS, x = (6, fr, ρ, γ, c, V) → x' = (7, [], ρ, γ, c, V) → (cl k = 401) → Q) →
  (∀ fr : List Fm, ∀ ρ : Nat → Nat, ∀ γ : Nat → Nat, ∀ c : Cds, ∀ bl : List (Nat × Nat × Nat), ∀ en : Nat, ∀ ln : Nat, ∀ ag : Nat, ∀ fin : Int32 × Int32, ∀ fi : Int32 × Int32, ∀ np : Nat, ∀ σ : Nat → Nat, ∀ α : Nat → Nat, ∀ ω : Nat → Nat, x = (6, fr, ρ, γ, c, bl, en, ln, ag, fin, np, σ, α, ω) → x' = (9, [(0, 0, 0, [])], ρ, γ, c, bl, 59, 0, 0, fi, np, σ, α, ω) → (cl k = 404 ∧ fi = (7, 0) ∨ cl k = 405 ∧ fi = (8, 0)) → Q) →
  (∀ fr : List Fm, ∀ ρ : Nat → Nat, ∀ γ : Nat → Nat, ∀ c : Cds, ∀ bl : List (Nat × Nat × Nat), ∀ en : Nat, ∀ ln : Nat, ∀ ag : Nat, ∀ ag' : Nat, ∀ fin : Int32 × Int32, ∀ np : Nat, ∀ σ : Nat → Nat, ∀ α : Nat → Nat, ∀ ω : Nat → Nat, x = (6, fr, ρ, γ, c, bl, en, ln, ag, fin, np, σ, α, ω) → x' = (9, [(0, 0, 0, [])], ρ, γ, c, bl, 123, 0, ag', fin, np, σ, α, ω) → (cl k = 402 ∧ ag' = 0 ∨ cl k = 403 ∧ ag' = c.length + 1) → Q) →
  (∀ fr : List Fm, ∀ ρ : Nat → Nat, ∀ γ : Nat → Nat, ∀ c : Cds, ∀ bl : List (Nat × Nat × Nat), ∀ en : Nat, ∀ ln : Nat, ∀ ag : Nat, ∀ fin : Int32 × Int32, ∀ np : Nat, ∀ σ : Nat → Nat, ∀ α : Nat → Nat, ∀ ω : Nat → Nat, x = (7, fr, ρ, γ, c, bl, en, ln, ag, fin, np, σ, α, ω) → x' = (8, [], upN ρ k 3, γ, c, bl, 59, k + 1, 0, (2, Int32.ofNat k), np, upN σ k (bl.headD (0, 0, 0)).1, α, ω) → (cl k = 200) → Q) →
  (∀ fr : List Fm, ∀ ρ : Nat → Nat, ∀ γ : Nat → Nat, ∀ c : Cds, ∀ V : VS, x = (8, fr, ρ, γ, c, V) → x' = (9, [(0, 0, 0, [])], ρ, γ, c, V) → (cl k = 61) → Q) →
  (∀ ca : Nat, ∀ le : Nat, ∀ cn : Nat, ∀ o : List Nat, ∀ F : List Fm, ∀ ρ : Nat → Nat, ∀ γ : Nat → Nat, ∀ c : Cds, ∀ V : VS, x = (10, (ca, le, cn, o) :: F, ρ, γ, c, V) → x' = (11, F, ρ, upN γ (ca - 1) 0, c ++ [(3, Int32.ofNat (ca - 1))], V) → (cl k = 41) → Q) →
  (∀ st : Nat, ∀ ca : Nat, ∀ le : Nat, ∀ cn : Nat, ∀ o : List Nat, ∀ F : List Fm, ∀ ρ : Nat → Nat, ∀ γ : Nat → Nat, ∀ c : Cds, ∀ V : VS, x = (st, (ca, le, cn, o) :: F, ρ, γ, c, V) → x' = (11, (ca, le, if st = 10 then 1 else cn, o) :: F, ρ, γ, c ++ [(0, Int32.ofNat (nm k))], V) → (st = 9 ∨ st = 10) → (cl k = 300) → Q) →
  (∀ st : Nat, ∀ ca : Nat, ∀ le : Nat, ∀ cn : Nat, ∀ o : List Nat, ∀ F : List Fm, ∀ ρ : Nat → Nat, ∀ γ : Nat → Nat, ∀ c : Cds, ∀ V : VS, x = (st, (ca, le, cn, o) :: F, ρ, γ, c, V) → x' = (12, (ca, le, if st = 10 then 1 else cn, o) :: F, upN ρ k 5, γ, c ++ [(1, Int32.ofNat k)], V) → (st = 9 ∨ st = 10) → (cl k = 200) → (¬ (cl (k + 1) = 40 ∧ F.length ≤ 3)) → Q) →
  (∀ st : Nat, ∀ ca : Nat, ∀ le : Nat, ∀ cn : Nat, ∀ o : List Nat, ∀ F : List Fm, ∀ ρ : Nat → Nat, ∀ γ : Nat → Nat, ∀ c : Cds, ∀ V : VS, x = (st, (ca, le, cn, o) :: F, ρ, γ, c, V) → x' = (12, (ca, le, if st = 10 then 1 else cn, o) :: F, upN ρ k 5, γ, c, V) → (st = 9 ∨ st = 10) → (cl k = 200) → (cl (k + 1) = 40) → (F.length ≤ 3) → Q) →
  (∀ st : Nat, ∀ ca : Nat, ∀ le : Nat, ∀ cn : Nat, ∀ o : List Nat, ∀ F : List Fm, ∀ ρ : Nat → Nat, ∀ γ : Nat → Nat, ∀ c : Cds, ∀ V : VS, x = (st, (ca, le, cn, o) :: F, ρ, γ, c, V) → x' = (9, (0, 0, 0, []) :: (ca, le, if st = 10 then 1 else cn, o) :: F, ρ, γ, c, V) → (st = 9 ∨ st = 10) → (cl k = 40) → (F.length ≤ 3) → Q) →
  (∀ ca : Nat, ∀ le : Nat, ∀ cn : Nat, ∀ o : List Nat, ∀ F : List Fm, ∀ ρ : Nat → Nat, ∀ γ : Nat → Nat, ∀ c : Cds, ∀ V : VS, x = (12, (ca, le, cn, o) :: F, ρ, γ, c, V) → x' = (10, (k, 0, 0, []) :: (ca, le, cn, o) :: F, upN ρ (k - 1) 6, γ, c, V) → (cl k = 40) → (F.length ≤ 3) → Q) →
  (∀ st : Nat, ∀ t : Nat, ∀ le' : Nat, ∀ ca : Nat, ∀ le : Nat, ∀ cn : Nat, ∀ o : List Nat, ∀ F : List Fm, ∀ ρ : Nat → Nat, ∀ γ : Nat → Nat, ∀ c : Cds, ∀ V : VS, x = (st, (ca, le, cn, o) :: F, ρ, γ, c, V) → x' = (9, (ca, le', cn, t :: dw (rk t) o) :: F, ρ, γ, c ++ oi (tw (rk t) o), V) → (st = 11 ∨ st = 12) → (cl k = t) → (t = 42 ∨ t = 43 ∨ t = 45 ∨ t = 60) → Q) →
  (∀ st : Nat, ∀ ca : Nat, ∀ le : Nat, ∀ cn : Nat, ∀ o : List Nat, ∀ ρ : Nat → Nat, ∀ γ : Nat → Nat, ∀ c : Cds, ∀ bl : List (Nat × Nat × Nat), ∀ ln : Nat, ∀ ag : Nat, ∀ fin : Int32 × Int32, ∀ np : Nat, ∀ σ : Nat → Nat, ∀ α : Nat → Nat, ∀ ω : Nat → Nat, x = (st, [(ca, le, cn, o)], ρ, γ, c, bl, 123, ln, ag, fin, np, σ, α, ω) → x' = (6, [], ρ, γ, c ++ oi o ++ [(4, 0)] ++ (if ag = 0 then [] else [(5, 0)]), (k, c.length + o.length + 1, ag) :: bl, 123, ln, ag, fin, np, σ, α, ω) → (st = 11 ∨ st = 12) → (cl k = 123) → (bl.length < 4) → Q) →
  (∀ st : Nat, ∀ ca : Nat, ∀ le : Nat, ∀ cn : Nat, ∀ o : List Nat, ∀ ρ : Nat → Nat, ∀ γ : Nat → Nat, ∀ c : Cds, ∀ bl : List (Nat × Nat × Nat), ∀ en : Nat, ∀ ln : Nat, ∀ ag : Nat, ∀ fin : Int32 × Int32, ∀ np : Nat, ∀ σ : Nat → Nat, ∀ α : Nat → Nat, ∀ ω : Nat → Nat, x = (st, [(ca, le, cn, o)], ρ, γ, c, bl, en, ln, ag, fin, np, σ, α, ω) → x' = (6, [], ρ, γ, c ++ oi o ++ [fin], bl, en, 0, ag, fin, np, σ, (if ln = 0 then α else upN α (ln - 1) (k + 1)), ω) → (st = 11 ∨ st = 12) → (cl k = en) → (en ≠ 123) → Q) →
  (∀ st : Nat, ∀ ca : Nat, ∀ le : Nat, ∀ cn : Nat, ∀ o : List Nat, ∀ F : List Fm, ∀ ρ : Nat → Nat, ∀ γ : Nat → Nat, ∀ c : Cds, ∀ V : VS, x = (st, (ca, le, cn, o) :: F, ρ, γ, c, V) → x' = (11, F, ρ, if ca = 0 then γ else upN γ (ca - 1) cn, c ++ oi o ++ (if ca = 0 then [] else [(3, Int32.ofNat (ca - 1))]), V) → (st = 11 ∨ st = 12) → (cl k = 41) → (F ≠ []) → Q) →
  (∀ st : Nat, ∀ ca : Nat, ∀ le : Nat, ∀ cn : Nat, ∀ o : List Nat, ∀ F : List Fm, ∀ ρ : Nat → Nat, ∀ γ : Nat → Nat, ∀ c : Cds, ∀ V : VS, x = (st, (ca, le, cn, o) :: F, ρ, γ, c, V) → x' = (9, (ca, 0, cn + 1, []) :: F, ρ, γ, c ++ oi o, V) → (st = 11 ∨ st = 12) → (cl k = 44) → (F ≠ []) → (ca ≠ 0) → Q) → Q
theorem St.h0 {cl nm : Nat → Nat} {f k : Nat} {fr : List Fm} {ρ : Nat → Nat} {γ : Nat → Nat} {c : Cds} {V : VS} (h0 : cl k = 200) : St cl nm f k (0, fr, ρ, γ, c, V) (1, [], upN ρ k 1, γ, c, V) := fun _ H _ _ _ _ _ _ _ _ _ _ _ _ _ _ _ _ _ _ _ _ _ _ _ _ => H fr ρ γ c V rfl rfl h0
theorem St.h1 {cl nm : Nat → Nat} {f k : Nat} {fr : List Fm} {ρ : Nat → Nat} {γ : Nat → Nat} {c : Cds} {V : VS} (h0 : cl k = 40) : St cl nm f k (1, fr, ρ, γ, c, V) (2, [], ρ, γ, c, V) := fun _ _ H _ _ _ _ _ _ _ _ _ _ _ _ _ _ _ _ _ _ _ _ _ _ _ => H fr ρ γ c V rfl rfl h0
theorem St.h5 {cl nm : Nat → Nat} {f k : Nat} {fr : List Fm} {ρ : Nat → Nat} {γ : Nat → Nat} {c : Cds} {bl : List (Nat × Nat × Nat)} {en : Nat} {ln : Nat} {ag : Nat} {fin : Int32 × Int32} {np : Nat} {σ : Nat → Nat} {α : Nat → Nat} {ω : Nat → Nat} (h0 : cl k = 123) : St cl nm f k (5, fr, ρ, γ, c, bl, en, ln, ag, fin, np, σ, α, ω) (6, [], ρ, γ, c, (k, 0, 0) :: bl, en, ln, ag, fin, np, σ, α, ω) := fun _ _ _ H _ _ _ _ _ _ _ _ _ _ _ _ _ _ _ _ _ _ _ _ _ _ => H fr ρ γ c bl en ln ag fin np σ α ω rfl rfl h0
theorem St.hc {cl nm : Nat → Nat} {f k : Nat} {st : Nat} {fr : List Fm} {ρ : Nat → Nat} {γ : Nat → Nat} {c : Cds} {V : VS} (h0 : st = 2 ∨ st = 3) (h1 : cl k = 41) : St cl nm f k (st, fr, ρ, γ, c, V) (5, [], ρ, γ, c, V) := fun _ _ _ _ H _ _ _ _ _ _ _ _ _ _ _ _ _ _ _ _ _ _ _ _ _ => H st fr ρ γ c V rfl rfl h0 h1
theorem St.h3 {cl nm : Nat → Nat} {f k : Nat} {fr : List Fm} {ρ : Nat → Nat} {γ : Nat → Nat} {c : Cds} {V : VS} (h0 : cl k = 44) : St cl nm f k (3, fr, ρ, γ, c, V) (4, [], ρ, γ, c, V) := fun _ _ _ _ _ H _ _ _ _ _ _ _ _ _ _ _ _ _ _ _ _ _ _ _ _ => H fr ρ γ c V rfl rfl h0
theorem St.hp {cl nm : Nat → Nat} {f k : Nat} {st : Nat} {fr : List Fm} {ρ : Nat → Nat} {γ : Nat → Nat} {c : Cds} {bl : List (Nat × Nat × Nat)} {en : Nat} {ln : Nat} {ag : Nat} {fin : Int32 × Int32} {np : Nat} {σ : Nat → Nat} {α : Nat → Nat} {ω : Nat → Nat} (h0 : st = 2 ∨ st = 4) (h1 : cl k = 200) : St cl nm f k (st, fr, ρ, γ, c, bl, en, ln, ag, fin, np, σ, α, ω) (3, [], upN ρ k 2, γ, c, bl, en, ln, ag, fin, np + 1, upN σ k f, α, ω) := fun _ _ _ _ _ _ H _ _ _ _ _ _ _ _ _ _ _ _ _ _ _ _ _ _ _ => H st fr ρ γ c bl en ln ag fin np σ α ω rfl rfl h0 h1
theorem St.so {cl nm : Nat → Nat} {f k : Nat} {fr : List Fm} {ρ : Nat → Nat} {γ : Nat → Nat} {c : Cds} {bl : List (Nat × Nat × Nat)} {en : Nat} {ln : Nat} {ag : Nat} {fin : Int32 × Int32} {np : Nat} {σ : Nat → Nat} {α : Nat → Nat} {ω : Nat → Nat} (h0 : cl k = 123) (h1 : bl.length < 4) : St cl nm f k (6, fr, ρ, γ, c, bl, en, ln, ag, fin, np, σ, α, ω) (6, [], ρ, γ, c, (k, 0, 0) :: bl, en, ln, ag, fin, np, σ, α, ω) := fun _ _ _ _ _ _ _ H _ _ _ _ _ _ _ _ _ _ _ _ _ _ _ _ _ _ => H fr ρ γ c bl en ln ag fin np σ α ω rfl rfl h0 h1
theorem St.sc {cl nm : Nat → Nat} {f k : Nat} {fr : List Fm} {ρ : Nat → Nat} {γ : Nat → Nat} {c : Cds} {o : Nat} {te : Nat} {ag0 : Nat} {bl : List (Nat × Nat × Nat)} {en : Nat} {ln : Nat} {ag : Nat} {fin : Int32 × Int32} {np : Nat} {σ : Nat → Nat} {α : Nat → Nat} {ω : Nat → Nat} (h0 : cl k = 125) : St cl nm f k (6, fr, ρ, γ, c, (o, te, ag0) :: bl, en, ln, ag, fin, np, σ, α, ω) (if bl = [] then 13 else 6, [], ρ, γ, clo c te ag0, bl, en, ln, ag, fin, np, σ, α, upN ω o k) := fun _ _ _ _ _ _ _ _ H _ _ _ _ _ _ _ _ _ _ _ _ _ _ _ _ _ => H fr ρ γ c o te ag0 bl en ln ag fin np σ α ω rfl rfl h0
theorem St.sa {cl nm : Nat → Nat} {f k : Nat} {fr : List Fm} {ρ : Nat → Nat} {γ : Nat → Nat} {c : Cds} {bl : List (Nat × Nat × Nat)} {en : Nat} {ln : Nat} {ag : Nat} {fin : Int32 × Int32} {np : Nat} {σ : Nat → Nat} {α : Nat → Nat} {ω : Nat → Nat} (h0 : cl k = 200) : St cl nm f k (6, fr, ρ, γ, c, bl, en, ln, ag, fin, np, σ, α, ω) (8, [], upN ρ k 4, γ, c, bl, 59, 0, 0, (2, Int32.ofNat k), np, σ, α, ω) := fun _ _ _ _ _ _ _ _ _ H _ _ _ _ _ _ _ _ _ _ _ _ _ _ _ _ => H fr ρ γ c bl en ln ag fin np σ α ω rfl rfl h0
theorem St.sl {cl nm : Nat → Nat} {f k : Nat} {fr : List Fm} {ρ : Nat → Nat} {γ : Nat → Nat} {c : Cds} {V : VS} (h0 : cl k = 401) : St cl nm f k (6, fr, ρ, γ, c, V) (7, [], ρ, γ, c, V) := fun _ _ _ _ _ _ _ _ _ _ H _ _ _ _ _ _ _ _ _ _ _ _ _ _ _ => H fr ρ γ c V rfl rfl h0
theorem St.sp {cl nm : Nat → Nat} {f k : Nat} {fr : List Fm} {ρ : Nat → Nat} {γ : Nat → Nat} {c : Cds} {bl : List (Nat × Nat × Nat)} {en : Nat} {ln : Nat} {ag : Nat} {fin : Int32 × Int32} {fi : Int32 × Int32} {np : Nat} {σ : Nat → Nat} {α : Nat → Nat} {ω : Nat → Nat} (h0 : cl k = 404 ∧ fi = (7, 0) ∨ cl k = 405 ∧ fi = (8, 0)) : St cl nm f k (6, fr, ρ, γ, c, bl, en, ln, ag, fin, np, σ, α, ω) (9, [(0, 0, 0, [])], ρ, γ, c, bl, 59, 0, 0, fi, np, σ, α, ω) := fun _ _ _ _ _ _ _ _ _ _ _ H _ _ _ _ _ _ _ _ _ _ _ _ _ _ => H fr ρ γ c bl en ln ag fin fi np σ α ω rfl rfl h0
theorem St.si {cl nm : Nat → Nat} {f k : Nat} {fr : List Fm} {ρ : Nat → Nat} {γ : Nat → Nat} {c : Cds} {bl : List (Nat × Nat × Nat)} {en : Nat} {ln : Nat} {ag : Nat} {ag' : Nat} {fin : Int32 × Int32} {np : Nat} {σ : Nat → Nat} {α : Nat → Nat} {ω : Nat → Nat} (h0 : cl k = 402 ∧ ag' = 0 ∨ cl k = 403 ∧ ag' = c.length + 1) : St cl nm f k (6, fr, ρ, γ, c, bl, en, ln, ag, fin, np, σ, α, ω) (9, [(0, 0, 0, [])], ρ, γ, c, bl, 123, 0, ag', fin, np, σ, α, ω) := fun _ _ _ _ _ _ _ _ _ _ _ _ H _ _ _ _ _ _ _ _ _ _ _ _ _ => H fr ρ γ c bl en ln ag ag' fin np σ α ω rfl rfl h0
theorem St.lt {cl nm : Nat → Nat} {f k : Nat} {fr : List Fm} {ρ : Nat → Nat} {γ : Nat → Nat} {c : Cds} {bl : List (Nat × Nat × Nat)} {en : Nat} {ln : Nat} {ag : Nat} {fin : Int32 × Int32} {np : Nat} {σ : Nat → Nat} {α : Nat → Nat} {ω : Nat → Nat} (h0 : cl k = 200) : St cl nm f k (7, fr, ρ, γ, c, bl, en, ln, ag, fin, np, σ, α, ω) (8, [], upN ρ k 3, γ, c, bl, 59, k + 1, 0, (2, Int32.ofNat k), np, upN σ k (bl.headD (0, 0, 0)).1, α, ω) := fun _ _ _ _ _ _ _ _ _ _ _ _ _ H _ _ _ _ _ _ _ _ _ _ _ _ => H fr ρ γ c bl en ln ag fin np σ α ω rfl rfl h0
theorem St.eq {cl nm : Nat → Nat} {f k : Nat} {fr : List Fm} {ρ : Nat → Nat} {γ : Nat → Nat} {c : Cds} {V : VS} (h0 : cl k = 61) : St cl nm f k (8, fr, ρ, γ, c, V) (9, [(0, 0, 0, [])], ρ, γ, c, V) := fun _ _ _ _ _ _ _ _ _ _ _ _ _ _ H _ _ _ _ _ _ _ _ _ _ _ => H fr ρ γ c V rfl rfl h0
theorem St.e0 {cl nm : Nat → Nat} {f k : Nat} {ca : Nat} {le : Nat} {cn : Nat} {o : List Nat} {F : List Fm} {ρ : Nat → Nat} {γ : Nat → Nat} {c : Cds} {V : VS} (h0 : cl k = 41) : St cl nm f k (10, (ca, le, cn, o) :: F, ρ, γ, c, V) (11, F, ρ, upN γ (ca - 1) 0, c ++ [(3, Int32.ofNat (ca - 1))], V) := fun _ _ _ _ _ _ _ _ _ _ _ _ _ _ _ H _ _ _ _ _ _ _ _ _ _ => H ca le cn o F ρ γ c V rfl rfl h0
theorem St.en {cl nm : Nat → Nat} {f k : Nat} {st : Nat} {ca : Nat} {le : Nat} {cn : Nat} {o : List Nat} {F : List Fm} {ρ : Nat → Nat} {γ : Nat → Nat} {c : Cds} {V : VS} (h0 : st = 9 ∨ st = 10) (h1 : cl k = 300) : St cl nm f k (st, (ca, le, cn, o) :: F, ρ, γ, c, V) (11, (ca, le, if st = 10 then 1 else cn, o) :: F, ρ, γ, c ++ [(0, Int32.ofNat (nm k))], V) := fun _ _ _ _ _ _ _ _ _ _ _ _ _ _ _ _ H _ _ _ _ _ _ _ _ _ => H st ca le cn o F ρ γ c V rfl rfl h0 h1
theorem St.ev {cl nm : Nat → Nat} {f k : Nat} {st : Nat} {ca : Nat} {le : Nat} {cn : Nat} {o : List Nat} {F : List Fm} {ρ : Nat → Nat} {γ : Nat → Nat} {c : Cds} {V : VS} (h0 : st = 9 ∨ st = 10) (h1 : cl k = 200) (h2 : ¬ (cl (k + 1) = 40 ∧ F.length ≤ 3)) : St cl nm f k (st, (ca, le, cn, o) :: F, ρ, γ, c, V) (12, (ca, le, if st = 10 then 1 else cn, o) :: F, upN ρ k 5, γ, c ++ [(1, Int32.ofNat k)], V) := fun _ _ _ _ _ _ _ _ _ _ _ _ _ _ _ _ _ H _ _ _ _ _ _ _ _ => H st ca le cn o F ρ γ c V rfl rfl h0 h1 h2
theorem St.ef {cl nm : Nat → Nat} {f k : Nat} {st : Nat} {ca : Nat} {le : Nat} {cn : Nat} {o : List Nat} {F : List Fm} {ρ : Nat → Nat} {γ : Nat → Nat} {c : Cds} {V : VS} (h0 : st = 9 ∨ st = 10) (h1 : cl k = 200) (h2 : cl (k + 1) = 40) (h3 : F.length ≤ 3) : St cl nm f k (st, (ca, le, cn, o) :: F, ρ, γ, c, V) (12, (ca, le, if st = 10 then 1 else cn, o) :: F, upN ρ k 5, γ, c, V) := fun _ _ _ _ _ _ _ _ _ _ _ _ _ _ _ _ _ _ H _ _ _ _ _ _ _ => H st ca le cn o F ρ γ c V rfl rfl h0 h1 h2 h3
theorem St.ep {cl nm : Nat → Nat} {f k : Nat} {st : Nat} {ca : Nat} {le : Nat} {cn : Nat} {o : List Nat} {F : List Fm} {ρ : Nat → Nat} {γ : Nat → Nat} {c : Cds} {V : VS} (h0 : st = 9 ∨ st = 10) (h1 : cl k = 40) (h2 : F.length ≤ 3) : St cl nm f k (st, (ca, le, cn, o) :: F, ρ, γ, c, V) (9, (0, 0, 0, []) :: (ca, le, if st = 10 then 1 else cn, o) :: F, ρ, γ, c, V) := fun _ _ _ _ _ _ _ _ _ _ _ _ _ _ _ _ _ _ _ H _ _ _ _ _ _ => H st ca le cn o F ρ γ c V rfl rfl h0 h1 h2
theorem St.ec {cl nm : Nat → Nat} {f k : Nat} {ca : Nat} {le : Nat} {cn : Nat} {o : List Nat} {F : List Fm} {ρ : Nat → Nat} {γ : Nat → Nat} {c : Cds} {V : VS} (h0 : cl k = 40) (h1 : F.length ≤ 3) : St cl nm f k (12, (ca, le, cn, o) :: F, ρ, γ, c, V) (10, (k, 0, 0, []) :: (ca, le, cn, o) :: F, upN ρ (k - 1) 6, γ, c, V) := fun _ _ _ _ _ _ _ _ _ _ _ _ _ _ _ _ _ _ _ _ H _ _ _ _ _ => H ca le cn o F ρ γ c V rfl rfl h0 h1
theorem St.oo {cl nm : Nat → Nat} {f k : Nat} {st : Nat} {t : Nat} {le' : Nat} {ca : Nat} {le : Nat} {cn : Nat} {o : List Nat} {F : List Fm} {ρ : Nat → Nat} {γ : Nat → Nat} {c : Cds} {V : VS} (h0 : st = 11 ∨ st = 12) (h1 : cl k = t) (h2 : t = 42 ∨ t = 43 ∨ t = 45 ∨ t = 60) : St cl nm f k (st, (ca, le, cn, o) :: F, ρ, γ, c, V) (9, (ca, le', cn, t :: dw (rk t) o) :: F, ρ, γ, c ++ oi (tw (rk t) o), V) := fun _ _ _ _ _ _ _ _ _ _ _ _ _ _ _ _ _ _ _ _ _ H _ _ _ _ => H st t le' ca le cn o F ρ γ c V rfl rfl h0 h1 h2
theorem St.ob {cl nm : Nat → Nat} {f k : Nat} {st : Nat} {ca : Nat} {le : Nat} {cn : Nat} {o : List Nat} {ρ : Nat → Nat} {γ : Nat → Nat} {c : Cds} {bl : List (Nat × Nat × Nat)} {ln : Nat} {ag : Nat} {fin : Int32 × Int32} {np : Nat} {σ : Nat → Nat} {α : Nat → Nat} {ω : Nat → Nat} (h0 : st = 11 ∨ st = 12) (h1 : cl k = 123) (h2 : bl.length < 4) : St cl nm f k (st, [(ca, le, cn, o)], ρ, γ, c, bl, 123, ln, ag, fin, np, σ, α, ω) (6, [], ρ, γ, c ++ oi o ++ [(4, 0)] ++ (if ag = 0 then [] else [(5, 0)]), (k, c.length + o.length + 1, ag) :: bl, 123, ln, ag, fin, np, σ, α, ω) := fun _ _ _ _ _ _ _ _ _ _ _ _ _ _ _ _ _ _ _ _ _ _ H _ _ _ => H st ca le cn o ρ γ c bl ln ag fin np σ α ω rfl rfl h0 h1 h2
theorem St.os {cl nm : Nat → Nat} {f k : Nat} {st : Nat} {ca : Nat} {le : Nat} {cn : Nat} {o : List Nat} {ρ : Nat → Nat} {γ : Nat → Nat} {c : Cds} {bl : List (Nat × Nat × Nat)} {en : Nat} {ln : Nat} {ag : Nat} {fin : Int32 × Int32} {np : Nat} {σ : Nat → Nat} {α : Nat → Nat} {ω : Nat → Nat} (h0 : st = 11 ∨ st = 12) (h1 : cl k = en) (h2 : en ≠ 123) : St cl nm f k (st, [(ca, le, cn, o)], ρ, γ, c, bl, en, ln, ag, fin, np, σ, α, ω) (6, [], ρ, γ, c ++ oi o ++ [fin], bl, en, 0, ag, fin, np, σ, (if ln = 0 then α else upN α (ln - 1) (k + 1)), ω) := fun _ _ _ _ _ _ _ _ _ _ _ _ _ _ _ _ _ _ _ _ _ _ _ H _ _ => H st ca le cn o ρ γ c bl en ln ag fin np σ α ω rfl rfl h0 h1 h2
theorem St.ox {cl nm : Nat → Nat} {f k : Nat} {st : Nat} {ca : Nat} {le : Nat} {cn : Nat} {o : List Nat} {F : List Fm} {ρ : Nat → Nat} {γ : Nat → Nat} {c : Cds} {V : VS} (h0 : st = 11 ∨ st = 12) (h1 : cl k = 41) (h2 : F ≠ []) : St cl nm f k (st, (ca, le, cn, o) :: F, ρ, γ, c, V) (11, F, ρ, if ca = 0 then γ else upN γ (ca - 1) cn, c ++ oi o ++ (if ca = 0 then [] else [(3, Int32.ofNat (ca - 1))]), V) := fun _ _ _ _ _ _ _ _ _ _ _ _ _ _ _ _ _ _ _ _ _ _ _ _ H _ => H st ca le cn o F ρ γ c V rfl rfl h0 h1 h2
theorem St.om {cl nm : Nat → Nat} {f k : Nat} {st : Nat} {ca : Nat} {le : Nat} {cn : Nat} {o : List Nat} {F : List Fm} {ρ : Nat → Nat} {γ : Nat → Nat} {c : Cds} {V : VS} (h0 : st = 11 ∨ st = 12) (h1 : cl k = 44) (h2 : F ≠ []) (h3 : ca ≠ 0) : St cl nm f k (st, (ca, le, cn, o) :: F, ρ, γ, c, V) (9, (ca, 0, cn + 1, []) :: F, ρ, γ, c ++ oi o, V) := fun _ _ _ _ _ _ _ _ _ _ _ _ _ _ _ _ _ _ _ _ _ _ _ _ _ H => H st ca le cn o F ρ γ c V rfl rfl h0 h1 h2 h3
theorem stp_st {cl nm : Nat → Nat} {f k : Nat} {x x' : XS} (h : stp cl nm f k x = some x') : St cl nm f k x x' := by
  obtain ⟨st, fr, ρ, γ, c, bl, en, ln, ag, fin, np, σ, α, ω⟩ := x
  unfold stp at h
  dsimp only at h
  split at h
  · rename_i h5
    unfold xHd at h
    try dsimp only at h
    split at h
    · rename_i h0
      split at h
      · rename_i ht
        have h := Option.some.inj h; subst h; subst h0; exact St.h0 ht
      · exact absurd h (by simp)
    split at h
    · rename_i _ h0
      split at h
      · rename_i ht
        have h := Option.some.inj h; subst h; subst h0; exact St.h1 ht
      · exact absurd h (by simp)
    split at h
    · rename_i _ _ h0
      split at h
      · rename_i ht
        have h := Option.some.inj h; subst h; subst h0; exact St.h5 ht
      · exact absurd h (by simp)
    split at h
    · rename_i h0
      have h := Option.some.inj h; subst h; exact St.hc (by omega) h0.2
    split at h
    · rename_i h0
      split at h
      · rename_i ht
        have h := Option.some.inj h; subst h; subst h0; exact St.h3 ht
      · exact absurd h (by simp)
    split at h
    · rename_i ht
      have h := Option.some.inj h; subst h; exact St.hp (by omega) ht
    · exact absurd h (by simp)
  split at h
  · rename_i _ h6
    subst h6
    unfold xSt at h
    try dsimp only at h
    split at h
    · rename_i ht
      split at h
      · rename_i hb
        have h := Option.some.inj h; subst h; exact St.so ht hb
      · exact absurd h (by simp)
    split at h
    · rename_i ht
      split at h
      · exact absurd h (by simp)
      · rename_i hb
        have h := Option.some.inj h; subst h; exact St.sc ht
    split at h
    · rename_i ht
      have h := Option.some.inj h; subst h; exact St.sa ht
    split at h
    · rename_i ht
      have h := Option.some.inj h; subst h; exact St.sl ht
    split at h
    · rename_i ht
      have h := Option.some.inj h; subst h; exact St.sp (Or.inl ⟨ht, rfl⟩)
    split at h
    · rename_i ht
      have h := Option.some.inj h; subst h; exact St.sp (Or.inr ⟨ht, rfl⟩)
    split at h
    · rename_i ht
      have h := Option.some.inj h; subst h; exact St.si (Or.inl ⟨ht, rfl⟩)
    split at h
    · rename_i ht
      have h := Option.some.inj h; subst h; exact St.si (Or.inr ⟨ht, rfl⟩)
    · exact absurd h (by simp)
  split at h
  · rename_i _ _ h6
    subst h6
    unfold xLet at h
    split at h
    · rename_i ht
      have h := Option.some.inj h; subst h; exact St.lt ht
    · exact absurd h (by simp)
  split at h
  · rename_i _ _ _ h6
    subst h6
    split at h
    · rename_i ht
      have h := Option.some.inj h; subst h; exact St.eq ht
    · exact absurd h (by simp)
  split at h
  · exact absurd h (by simp)
  rename_i ca le cn o F
  split at h
  · rename_i h9
    unfold xOpd at h
    split at h
    · rename_i h0
      have h := Option.some.inj h; subst h
      have h10 := h0.1
      subst h10
      exact St.e0 h0.2
    split at h
    · rename_i ht
      have h := Option.some.inj h; subst h; exact St.en h9 ht
    split at h
    · rename_i ht
      have h := Option.some.inj h; subst h
      by_cases hq : cl (k + 1) = 40 ∧ F.length ≤ 3
      · rw [if_pos hq]; exact St.ef h9 ht hq.1 hq.2
      · rw [if_neg hq]; exact St.ev h9 ht hq
    split at h
    · rename_i ht
      have h := Option.some.inj h; subst h; exact St.ep h9 ht.1 ht.2
    · exact absurd h (by simp)
  split at h
  · rename_i h9
    split at h
    · rename_i hF
      have h := Option.some.inj h; subst h
      have h12 := h9.1
      subst h12
      exact St.ec h9.2 hF
    · exact absurd h (by simp)
  split at h
  · rename_i h9
    unfold xOpr at h
    try dsimp only at h
    split at h
    · rename_i ht
      have h := Option.some.inj h; subst h; exact St.oo h9 rfl (by omega)
    split at h
    · rename_i ht
      split at h
      · have h := Option.some.inj h; subst h
        rw [ht]
        exact St.oo (t := 60) h9 ht (by omega)
      · exact absurd h (by simp)
    split at h
    · rename_i hF
      subst hF
      unfold xEnd at h
      try dsimp only at h
      split at h
      · rename_i ht
        split at h
        · rename_i h123
          split at h
          · rename_i hb
            have h := Option.some.inj h; subst h
            rw [h123] at ht
            subst ht
            exact St.ob h9 h123 hb
          · exact absurd h (by simp)
        · rename_i h123
          have h := Option.some.inj h; subst h
          exact St.os h9 ht (by omega)
      · exact absurd h (by simp)
    split at h
    · rename_i hF ht
      have h := Option.some.inj h; subst h; exact St.ox h9 ht hF
    split at h
    · rename_i hF _ ht
      have h := Option.some.inj h; subst h; exact St.om h9 ht.1 hF ht.2
    · exact absurd h (by simp)
  · exact absurd h (by simp)
abbrev xr (x : XS) : Nat → Nat := x.2.2.1
abbrev xg (x : XS) : Nat → Nat := x.2.2.2.1
abbrev xc (x : XS) : Cds := x.2.2.2.2.1
abbrev xb (x : XS) : List (Nat × Nat × Nat) := x.2.2.2.2.2.1
abbrev xln (x : XS) : Nat := x.2.2.2.2.2.2.2.1
abbrev xsc (x : XS) : Nat → Nat := x.2.2.2.2.2.2.2.2.2.2.2.1
abbrev xal (x : XS) : Nat → Nat := x.2.2.2.2.2.2.2.2.2.2.2.2.1
abbrev xom (x : XS) : Nat → Nat := x.2.2.2.2.2.2.2.2.2.2.2.2.2
def pend (cl : Nat → Nat) (j : Nat) (x : XS) : Prop := x.1 = 12 ∧ cl j = 40 ∧ x.2.1.length ≤ 4
def Stb (cl : Nat → Nat) (j : Nat) (x xf : XS) : Prop :=
  (∀ q, q < j → (pend cl j x → q + 1 ≠ j) → xr xf q = xr x q) ∧
  (∀ t, t + 1 < j → t + 1 ∉ x.2.1.map (fun y => y.1) → xg xf t = xg x t) ∧
  (∀ q, q < j → xsc xf q = xsc x q) ∧
  (∀ q, q < j → xal xf q = xal x q ∨ 8 ≤ x.1 ∧ x.1 ≤ 12 ∧ xln x = q + 1 ∧ j < xal xf q) ∧
  (∀ o, o < j → (∀ y, y ∈ xb x → y.1 ≠ o) → xom xf o = xom x o)
theorem Stb.rf {cl : Nat → Nat} {j : Nat} {x : XS} : Stb cl j x x := ⟨fun _ _ _ => rfl, fun _ _ _ => rfl, fun _ _ => rfl, fun _ _ => Or.inl rfl, fun _ _ _ => rfl⟩
/-! one step: the same things, and no new reason -/
def Stp1 (cl : Nat → Nat) (j : Nat) (x x' : XS) : Prop :=
  (∀ q, q < j → (pend cl j x → q + 1 ≠ j) → xr x' q = xr x q) ∧
  (∀ t, t + 1 < j → t + 1 ∉ x.2.1.map (fun y => y.1) → xg x' t = xg x t ∧ t + 1 ∉ x'.2.1.map (fun y => y.1)) ∧
  (∀ q, q < j → xsc x' q = xsc x q) ∧
  (∀ q, q < j → xal x' q = xal x q ∧ (8 ≤ x'.1 → x'.1 ≤ 12 → xln x' = q + 1 → 8 ≤ x.1 ∧ x.1 ≤ 12 ∧ xln x = q + 1) ∨ 8 ≤ x.1 ∧ x.1 ≤ 12 ∧ xln x = q + 1 ∧ xal x' q = j + 1 ∧ x'.1 = 6) ∧
  (∀ o, o < j → (∀ y, y ∈ xb x → y.1 ≠ o) → xom x' o = xom x o ∧ ∀ y, y ∈ xb x' → y.1 ≠ o)
theorem Stb.st {cl : Nat → Nat} {j : Nat} {x x' xf : XS} (h1 : Stp1 cl j x x') (h : Stb cl (j + 1) x' xf) : Stb cl j x xf := by
  obtain ⟨a, b, c, d, e⟩ := h1
  obtain ⟨a', b', c', d', e'⟩ := h
  refine ⟨fun q hq hp => (a' q (by omega) (fun _ => by omega)).trans (a q hq hp), fun t ht hn => (b' t (by omega) (b t ht hn).2).trans (b t ht hn).1, fun q hq => (c' q (by omega)).trans (c q hq), fun q hq => ?_, fun o ho hn => (e' o (by omega) (e o ho hn).2).trans (e o ho hn).1⟩
  rcases d q hq with ⟨z1, z2⟩ | ⟨z1, z2, z3, z4, z5⟩
  · rcases d' q (by omega) with w | ⟨w1, w2, w3, w4⟩
    · exact Or.inl (w.trans z1)
    · obtain ⟨y1, y2, y3⟩ := z2 w1 w2 w3
      exact Or.inr ⟨y1, y2, y3, by omega⟩
  · rcases d' q (by omega) with w | ⟨w1, w2, w3, w4⟩
    · exact Or.inr ⟨z1, z2, z3, by omega⟩
    · omega
theorem mem_ca {ca le cn le' cn' : Nat} {o o' : List Nat} {F : List Fm} {t : Nat} (h : t ∉ ((ca, le, cn, o) :: F).map (fun y => y.1)) : t ∉ ((ca, le', cn', o') :: F).map (fun y => y.1) ∧ t ≠ ca ∧ t ∉ F.map (fun y => y.1) := by
  rw [List.map_cons, List.mem_cons] at h
  refine ⟨?_, fun e => h (Or.inl e), fun e => h (Or.inr e)⟩
  rw [List.map_cons, List.mem_cons]
  exact h
def C10 (x : XS) : Prop := x.1 = 10 → ∀ y F, x.2.1 = y :: F → y.1 ≠ 0
theorem stp_c10 {cl nm : Nat → Nat} {f j : Nat} {x x' : XS} (hs : St cl nm f j x x') (hf : f < j) : C10 x' := by
  refine hs _ ?_ ?_ ?_ ?_ ?_ ?_ ?_ ?_ ?_ ?_ ?_ ?_ ?_ ?_ ?_ ?_ ?_ ?_ ?_ ?_ ?_ ?_ ?_ ?_ ?_
  · intro _ _ _ _ _ eX eY _
    cases eX
    cases eY
    intro h
    exfalso
    dsimp only at h
    omega
  · intro _ _ _ _ _ eX eY _
    cases eX
    cases eY
    intro h
    exfalso
    dsimp only at h
    omega
  · intro _ _ _ _ _ _ _ _ _ _ _ _ _ eX eY _
    cases eX
    cases eY
    intro h
    exfalso
    dsimp only at h
    omega
  · intro _ _ _ _ _ _ eX eY _ _
    cases eX
    cases eY
    intro h
    exfalso
    dsimp only at h
    omega
  · intro _ _ _ _ _ eX eY _
    cases eX
    cases eY
    intro h
    exfalso
    dsimp only at h
    omega
  · intro _ _ _ _ _ _ _ _ _ _ _ _ _ _ eX eY _ _
    cases eX
    cases eY
    intro h
    exfalso
    dsimp only at h
    omega
  · intro _ _ _ _ _ _ _ _ _ _ _ _ _ eX eY _ _
    cases eX
    cases eY
    intro h
    exfalso
    dsimp only at h
    omega
  · intro fr ρ γ c o te ag0 bl en ln ag fin np σ α ω eX eY _
    cases eX
    cases eY
    intro h
    exfalso
    have h' : (if bl = [] then 13 else 6) = 10 := h
    split at h' <;> omega
  · intro _ _ _ _ _ _ _ _ _ _ _ _ _ eX eY _
    cases eX
    cases eY
    intro h
    exfalso
    dsimp only at h
    omega
  · intro _ _ _ _ _ eX eY _
    cases eX
    cases eY
    intro h
    exfalso
    dsimp only at h
    omega
  · intro _ _ _ _ _ _ _ _ _ _ _ _ _ _ eX eY _
    cases eX
    cases eY
    intro h
    exfalso
    dsimp only at h
    omega
  · intro _ _ _ _ _ _ _ _ _ _ _ _ _ _ eX eY _
    cases eX
    cases eY
    intro h
    exfalso
    dsimp only at h
    omega
  · intro _ _ _ _ _ _ _ _ _ _ _ _ _ eX eY _
    cases eX
    cases eY
    intro h
    exfalso
    dsimp only at h
    omega
  · intro _ _ _ _ _ eX eY _
    cases eX
    cases eY
    intro h
    exfalso
    dsimp only at h
    omega
  · intro _ _ _ _ _ _ _ _ _ eX eY _
    cases eX
    cases eY
    intro h
    exfalso
    dsimp only at h
    omega
  · intro _ _ _ _ _ _ _ _ _ _ eX eY _ _
    cases eX
    cases eY
    intro h
    exfalso
    dsimp only at h
    omega
  · intro _ _ _ _ _ _ _ _ _ _ eX eY _ _ _
    cases eX
    cases eY
    intro h
    exfalso
    dsimp only at h
    omega
  · intro _ _ _ _ _ _ _ _ _ _ eX eY _ _ _ _
    cases eX
    cases eY
    intro h
    exfalso
    dsimp only at h
    omega
  · intro _ _ _ _ _ _ _ _ _ _ eX eY _ _ _
    cases eX
    cases eY
    intro h
    exfalso
    dsimp only at h
    omega
  · intro _ _ _ _ _ _ _ _ _ eX eY _ _
    cases eX
    cases eY
    intro _ y F e
    injection e with e1 e2
    rw [← e1]
    show j ≠ 0
    omega
  · intro _ _ _ _ _ _ _ _ _ _ _ _ eX eY _ _ _
    cases eX
    cases eY
    intro h
    exfalso
    dsimp only at h
    omega
  · intro _ _ _ _ _ _ _ _ _ _ _ _ _ _ _ _ eX eY _ _ _
    cases eX
    cases eY
    intro h
    exfalso
    dsimp only at h
    omega
  · intro _ _ _ _ _ _ _ _ _ _ _ _ _ _ _ _ _ eX eY _ _ _
    cases eX
    cases eY
    intro h
    exfalso
    dsimp only at h
    omega
  · intro _ _ _ _ _ _ _ _ _ _ eX eY _ _ _
    cases eX
    cases eY
    intro h
    exfalso
    dsimp only at h
    omega
  · intro _ _ _ _ _ _ _ _ _ _ eX eY _ _ _ _
    cases eX
    cases eY
    intro h
    exfalso
    dsimp only at h
    omega
theorem aut_c10 {cl nm : Nat → Nat} {f : Nat} {c0 : Cds} : ∀ (i : Nat) (x : XS), aut0 cl nm f c0 i = some x → C10 x := by
  intro i
  cases i with
  | zero =>
    intro x h
    have h := Option.some.inj h
    subst h
    exact fun h => absurd (show 0 = 10 from h) (by omega)
  | succ i =>
    intro x h
    have h : (aut0 cl nm f c0 i).bind (stp cl nm f (f + 1 + i)) = some x := h
    cases h3 : aut0 cl nm f c0 i with
    | none => rw [h3] at h; exact absurd h (by simp)
    | some y =>
      rw [h3] at h
      exact stp_c10 (stp_st h) (show f < f + 1 + i by omega)
theorem stp_1 {cl nm : Nat → Nat} {f j : Nat} {x x' : XS} (hs : St cl nm f j x x') (hc : C10 x) : Stp1 cl j x x' := by
  have nl : ∀ t : Nat, t ∉ ([] : List Fm).map (fun y => y.1) := fun t => List.not_mem_nil
  have n0 : ∀ t : Nat, t + 1 ∉ ([(0, 0, 0, [])] : List Fm).map (fun y => y.1) := fun t h => by
    rw [List.map_cons, List.mem_cons] at h
    rcases h with h | h
    · exact absurd h (by show t + 1 ≠ 0; omega)
    · exact nl _ h
  have un : ∀ {g : Nat → Nat} {v q : Nat}, q < j → upN g j v q = g q := fun h => uN_ne (by omega)
  refine hs _ ?_ ?_ ?_ ?_ ?_ ?_ ?_ ?_ ?_ ?_ ?_ ?_ ?_ ?_ ?_ ?_ ?_ ?_ ?_ ?_ ?_ ?_ ?_ ?_ ?_
  · intro _ _ _ _ _ eX eY h
    cases eX
    cases eY
    exact ⟨fun q hq _ => un hq, fun t _ _ => ⟨rfl, nl _⟩, fun _ _ => rfl, fun q _ => Or.inl ⟨rfl, fun h => absurd (show 8 ≤ 1 from h) (by omega)⟩, fun o _ h => ⟨rfl, h⟩⟩
  · intro _ _ _ _ _ eX eY h
    cases eX
    cases eY
    exact ⟨fun q hq _ => rfl, fun t _ _ => ⟨rfl, nl _⟩, fun _ _ => rfl, fun q _ => Or.inl ⟨rfl, fun h => absurd (show 8 ≤ 2 from h) (by omega)⟩, fun o _ h => ⟨rfl, h⟩⟩
  · intro _ _ _ _ _ _ _ _ _ _ _ _ _ eX eY h
    cases eX
    cases eY
    exact ⟨fun q hq _ => rfl, fun t _ _ => ⟨rfl, nl _⟩, fun _ _ => rfl, fun q _ => Or.inl ⟨rfl, fun h => absurd (show 8 ≤ 6 from h) (by omega)⟩, fun o ho h => ⟨rfl, fun y hy => by
      rcases List.mem_cons.mp hy with e | e
      · rw [e]; show j ≠ o; omega
      · exact h y e⟩⟩
  · intro _ _ _ _ _ _ eX eY h1 h
    cases eX
    cases eY
    exact ⟨fun q hq _ => rfl, fun t _ _ => ⟨rfl, nl _⟩, fun _ _ => rfl, fun q _ => Or.inl ⟨rfl, fun h => absurd (show 8 ≤ 5 from h) (by omega)⟩, fun o _ h => ⟨rfl, h⟩⟩
  · intro _ _ _ _ _ eX eY h
    cases eX
    cases eY
    exact ⟨fun q hq _ => rfl, fun t _ _ => ⟨rfl, nl _⟩, fun _ _ => rfl, fun q _ => Or.inl ⟨rfl, fun h => absurd (show 8 ≤ 4 from h) (by omega)⟩, fun o _ h => ⟨rfl, h⟩⟩
  · intro _ _ _ _ _ _ _ _ _ _ _ _ _ _ eX eY h1 h
    cases eX
    cases eY
    exact ⟨fun q hq _ => un hq, fun t _ _ => ⟨rfl, nl _⟩, fun q hq => un hq, fun q _ => Or.inl ⟨rfl, fun h => absurd (show 8 ≤ 3 from h) (by omega)⟩, fun o _ h => ⟨rfl, h⟩⟩
  · intro _ _ _ _ _ _ _ _ _ _ _ _ _ eX eY h hb
    cases eX
    cases eY
    exact ⟨fun q hq _ => rfl, fun t _ _ => ⟨rfl, nl _⟩, fun _ _ => rfl, fun q _ => Or.inl ⟨rfl, fun h => absurd (show 8 ≤ 6 from h) (by omega)⟩, fun o ho h => ⟨rfl, fun y hy => by
      rcases List.mem_cons.mp hy with e | e
      · rw [e]; show j ≠ o; omega
      · exact h y e⟩⟩
  · intro _ _ _ _ o te ag0 bl _ _ _ _ _ _ _ ω eX eY h
    cases eX
    cases eY
    exact ⟨fun q hq _ => rfl, fun t _ _ => ⟨rfl, nl _⟩, fun _ _ => rfl, fun q _ => Or.inl ⟨rfl, fun h1 h2 => by
      have h1' : 8 ≤ (if bl = [] then 13 else 6) := h1
      have h2' : (if bl = [] then 13 else 6) ≤ 12 := h2
      by_cases hb : bl = []
      · rw [if_pos hb] at h2'; omega
      · rw [if_neg hb] at h1'; omega⟩, fun q hq h => ⟨uN_ne (h (o, te, ag0) (List.mem_cons_self ..)).symm, fun y hy => h y (List.mem_cons_of_mem _ hy)⟩⟩
  · intro _ _ _ _ _ _ _ _ _ _ _ _ _ eX eY h
    cases eX
    cases eY
    exact ⟨fun q hq _ => un hq, fun t _ _ => ⟨rfl, nl _⟩, fun _ _ => rfl, fun q _ => Or.inl ⟨rfl, fun _ _ h => absurd (show 0 = q + 1 from h) (by omega)⟩, fun o _ h => ⟨rfl, h⟩⟩
  · intro _ _ _ _ _ eX eY h
    cases eX
    cases eY
    exact ⟨fun q hq _ => rfl, fun t _ _ => ⟨rfl, nl _⟩, fun _ _ => rfl, fun q _ => Or.inl ⟨rfl, fun h => absurd (show 8 ≤ 7 from h) (by omega)⟩, fun o _ h => ⟨rfl, h⟩⟩
  · intro _ _ _ _ _ _ _ _ _ _ _ _ _ _ eX eY h
    cases eX
    cases eY
    exact ⟨fun q hq _ => rfl, fun t _ _ => ⟨rfl, n0 _⟩, fun _ _ => rfl, fun q _ => Or.inl ⟨rfl, fun _ _ h => absurd (show 0 = q + 1 from h) (by omega)⟩, fun o _ h => ⟨rfl, h⟩⟩
  · intro _ _ _ _ _ _ _ _ _ _ _ _ _ _ eX eY h
    cases eX
    cases eY
    exact ⟨fun q hq _ => rfl, fun t _ _ => ⟨rfl, n0 _⟩, fun _ _ => rfl, fun q _ => Or.inl ⟨rfl, fun _ _ h => absurd (show 0 = q + 1 from h) (by omega)⟩, fun o _ h => ⟨rfl, h⟩⟩
  · intro _ _ _ _ _ _ _ _ _ _ _ _ _ eX eY h
    cases eX
    cases eY
    exact ⟨fun q hq _ => un hq, fun t _ _ => ⟨rfl, nl _⟩, fun q hq => un hq, fun q hq => Or.inl ⟨rfl, fun _ _ h => absurd (show j + 1 = q + 1 from h) (by omega)⟩, fun o _ h => ⟨rfl, h⟩⟩
  · intro _ _ _ _ _ eX eY h
    cases eX
    cases eY
    exact ⟨fun q hq _ => rfl, fun t _ _ => ⟨rfl, n0 _⟩, fun _ _ => rfl, fun q _ => Or.inl ⟨rfl, fun _ _ h => ⟨by show 8 ≤ 8; omega, by show 8 ≤ 12; omega, h⟩⟩, fun o _ h => ⟨rfl, h⟩⟩
  · intro _ _ _ _ _ _ _ _ _ eX eY h
    cases eX
    cases eY
    exact ⟨fun q hq _ => rfl, fun t _ hn => ⟨uN_ne (by have := (mem_ca (le' := 0) (cn' := 0) (o' := []) hn).2.1; have := hc rfl _ _ rfl; dsimp only at this; omega), (mem_ca (le' := 0) (cn' := 0) (o' := []) hn).2.2⟩, fun _ _ => rfl, fun q _ => Or.inl ⟨rfl, fun _ _ h => ⟨by show 8 ≤ 10; omega, by show 10 ≤ 12; omega, h⟩⟩, fun o _ h => ⟨rfl, h⟩⟩
  · intro _ _ _ _ _ _ _ _ _ _ eX eY h9 h
    cases eX
    cases eY
    exact ⟨fun q hq _ => rfl, fun t _ hn => ⟨rfl, (mem_ca hn).1⟩, fun _ _ => rfl, fun q _ => Or.inl ⟨rfl, fun _ _ h => ⟨by dsimp only; omega, by dsimp only; omega, h⟩⟩, fun o _ h => ⟨rfl, h⟩⟩
  · intro _ _ _ _ _ _ _ _ _ _ eX eY h9 h h40
    cases eX
    cases eY
    exact ⟨fun q hq _ => un hq, fun t _ hn => ⟨rfl, (mem_ca hn).1⟩, fun _ _ => rfl, fun q _ => Or.inl ⟨rfl, fun _ _ h => ⟨by dsimp only; omega, by dsimp only; omega, h⟩⟩, fun o _ h => ⟨rfl, h⟩⟩
  · intro _ _ _ _ _ _ _ _ _ _ eX eY h9 h h40 hF
    cases eX
    cases eY
    exact ⟨fun q hq _ => un hq, fun t _ hn => ⟨rfl, (mem_ca hn).1⟩, fun _ _ => rfl, fun q _ => Or.inl ⟨rfl, fun _ _ h => ⟨by dsimp only; omega, by dsimp only; omega, h⟩⟩, fun o _ h => ⟨rfl, h⟩⟩
  · intro _ _ _ _ _ _ _ _ _ _ eX eY h9 h hF
    cases eX
    cases eY
    exact ⟨fun q hq _ => rfl, fun t _ hn => ⟨rfl, fun e => by
      rw [List.map_cons, List.mem_cons] at e
      rcases e with e | e
      · exact absurd e (by show t + 1 ≠ 0; omega)
      · exact (mem_ca hn).1 e⟩, fun _ _ => rfl, fun q _ => Or.inl ⟨rfl, fun _ _ h => ⟨by dsimp only; omega, by dsimp only; omega, h⟩⟩, fun o _ h => ⟨rfl, h⟩⟩
  · intro ca le cn o F _ _ _ _ eX eY h hF
    cases eX
    cases eY
    exact ⟨fun q hq hp => uN_ne (by have := hp ⟨rfl, h, by show F.length + 1 ≤ 4; omega⟩; omega), fun t ht hn => ⟨rfl, fun e => by
      rw [List.map_cons, List.mem_cons] at e
      rcases e with e | e
      · exact absurd e (by show t + 1 ≠ j; omega)
      · exact hn e⟩, fun _ _ => rfl, fun q _ => Or.inl ⟨rfl, fun _ _ h => ⟨by show 8 ≤ 12; omega, by show 12 ≤ 12; omega, h⟩⟩, fun o _ h => ⟨rfl, h⟩⟩
  · intro _ _ _ _ _ _ _ _ _ _ _ _ eX eY h9 h ht
    cases eX
    cases eY
    exact ⟨fun q hq _ => rfl, fun t _ hn => ⟨rfl, (mem_ca hn).1⟩, fun _ _ => rfl, fun q _ => Or.inl ⟨rfl, fun _ _ h => ⟨by dsimp only; omega, by dsimp only; omega, h⟩⟩, fun o _ h => ⟨rfl, h⟩⟩
  · intro _ _ _ _ _ _ _ _ _ _ _ _ _ _ _ _ eX eY h9 h hb
    cases eX
    cases eY
    exact ⟨fun q hq _ => rfl, fun t _ _ => ⟨rfl, nl _⟩, fun _ _ => rfl, fun q _ => Or.inl ⟨rfl, fun h => absurd (show 8 ≤ 6 from h) (by omega)⟩, fun o ho h => ⟨rfl, fun y hy => by
      rcases List.mem_cons.mp hy with e | e
      · rw [e]; show j ≠ o; omega
      · exact h y e⟩⟩
  · intro st _ _ _ _ _ _ _ _ _ ln _ _ _ _ α _ eX eY h9 h he
    cases eX
    cases eY
    refine ⟨fun q hq _ => rfl, fun t _ _ => ⟨rfl, nl _⟩, fun _ _ => rfl, fun q _ => ?_, fun o _ h => ⟨rfl, h⟩⟩
    by_cases hl : ln = 0
    · refine Or.inl ⟨?_, fun h => absurd (show 8 ≤ 6 from h) (by omega)⟩
      show (if ln = 0 then α else upN α (ln - 1) (j + 1)) q = α q
      rw [if_pos hl]
    · by_cases hq : ln = q + 1
      · refine Or.inr ⟨by dsimp only; omega, by dsimp only; omega, hq, ?_, rfl⟩
        show (if ln = 0 then α else upN α (ln - 1) (j + 1)) q = j + 1
        rw [if_neg hl, hq, Nat.add_sub_cancel, uN_eq]
      · refine Or.inl ⟨?_, fun h => absurd (show 8 ≤ 6 from h) (by omega)⟩
        show (if ln = 0 then α else upN α (ln - 1) (j + 1)) q = α q
        rw [if_neg hl, uN_ne (by omega)]
  · intro st ca le cn o F ρ γ c V eX eY h9 h hF
    cases eX
    cases eY
    refine ⟨fun q hq _ => rfl, fun t _ hn => ⟨?_, (mem_ca (le' := 0) (cn' := 0) (o' := []) hn).2.2⟩, fun _ _ => rfl, fun q _ => Or.inl ⟨rfl, fun _ _ h => ⟨by dsimp only; omega, by dsimp only; omega, h⟩⟩, fun o _ h => ⟨rfl, h⟩⟩
    have hne := (mem_ca (le' := 0) (cn' := 0) (o' := []) hn).2.1
    show (if ca = 0 then γ else upN γ (ca - 1) cn) t = γ t
    by_cases h0 : ca = 0
    · rw [if_pos h0]
    · rw [if_neg h0, uN_ne (by omega)]
  · intro _ _ _ _ _ _ _ _ _ _ eX eY h9 h hF hca
    cases eX
    cases eY
    exact ⟨fun q hq _ => rfl, fun t _ hn => ⟨rfl, (mem_ca hn).1⟩, fun _ _ => rfl, fun q _ => Or.inl ⟨rfl, fun _ _ h => ⟨by dsimp only; omega, by dsimp only; omega, h⟩⟩, fun o _ h => ⟨rfl, h⟩⟩
theorem aut_go {cl nm : Nat → Nat} {f : Nat} {c0 : Cds} {j : Nat} {x' : XS} (hf : f < j) (h : aut cl nm f c0 (j + 1) = some x') : ∃ x, aut cl nm f c0 j = some x ∧ St cl nm f j x x' := by
  rw [aut_s hf] at h
  cases hx : aut cl nm f c0 j with
  | none => rw [hx] at h; exact absurd h (by simp)
  | some x => rw [hx] at h; exact ⟨x, rfl, stp_st h⟩
theorem aut_back {cl nm : Nat → Nat} {f : Nat} {c0 : Cds} {xf : XS} : ∀ (z j : Nat), f < j → aut cl nm f c0 (j + z) = some xf → ∃ x, aut cl nm f c0 j = some x ∧ Stb cl j x xf
  | 0, j, _, h => ⟨xf, h, Stb.rf⟩
  | z + 1, j, hf, h => by
    obtain ⟨x', h1, h2⟩ := aut_back (cl := cl) (nm := nm) (f := f) (c0 := c0) (xf := xf) z (j + 1) (by omega) (by rw [show j + 1 + z = j + (z + 1) by omega]; exact h)
    obtain ⟨x, h3, h4⟩ := aut_go hf h1
    exact ⟨x, h3, Stb.st (stp_1 h4 (aut_c10 _ _ h3)) h2⟩
