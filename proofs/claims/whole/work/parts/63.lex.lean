/-! tokens as strings: what they are does not hang on where they stand -/
def lexC : Nat → List Nat → List (List Nat)
  | 0, _ => []
  | _ + 1, [] => []
  | f + 1, c :: r => if gr c = 0 then lexC f r else if gr c = 2 ∨ gr c = 3 then (c :: r.takeWhile (fun x => decide (gr x = gr c))) :: lexC f (r.dropWhile (fun x => decide (gr x = gr c))) else [c] :: lexC f r
theorem run_tw {T : Nat → Nat} {n g : Nat} : ∀ (f p : Nat), n - p ≤ f → p ≤ n → (piece T p (n - p)).takeWhile (fun x => decide (gr x = g)) = piece T p (runE T n g f p - p) ∧ (piece T p (n - p)).dropWhile (fun x => decide (gr x = g)) = piece T (runE T n g f p) (n - runE T n g f p)
  | 0, p, h1, h2 => by
    have : p = n := by omega
    subst this
    unfold runE
    rw [Nat.sub_self]
    exact ⟨rfl, rfl⟩
  | f + 1, p, h1, h2 => by
    unfold runE
    by_cases hp : p < n
    · rw [show n - p = (n - (p + 1)) + 1 by omega, piece_cons]
      by_cases hg : gr (T p) = g
      · obtain ⟨i1, i2⟩ := run_tw (T := T) (n := n) (g := g) f (p + 1) (by omega) (by omega)
        obtain ⟨r1, r2, -⟩ := runE_ok T n g f (p + 1) (by omega) (by omega)
        rw [if_pos ⟨hp, hg⟩, List.takeWhile_cons_of_pos (by simpa using hg), List.dropWhile_cons_of_pos (by simpa using hg), i1, i2]
        refine ⟨?_, rfl⟩
        rw [show runE T n g f (p + 1) - p = (runE T n g f (p + 1) - (p + 1)) + 1 by omega, piece_cons]
      · rw [if_neg (fun h => hg h.2), List.takeWhile_cons_of_neg (by simpa using hg), List.dropWhile_cons_of_neg (by simpa using hg), Nat.sub_self, show n - p = (n - (p + 1)) + 1 by omega, piece_cons]
        exact ⟨rfl, rfl⟩
    · have : p = n := by omega
      subst this
      rw [if_neg (fun h => hp h.1), Nat.sub_self]
      exact ⟨rfl, rfl⟩
def sT (T : Nat → Nat) (x : Nat × Nat) : List Nat := piece T x.1 (x.2 - x.1)
theorem scan_lex {T : Nat → Nat} {n : Nat} : ∀ (f p : Nat), n - p ≤ f → p ≤ n → (scanL T n f p).map (sT T) = lexC f (piece T p (n - p))
  | 0, p, h1, h2 => rfl
  | f + 1, p, h1, h2 => by
    unfold scanL
    by_cases hp : p < n
    · rw [if_pos hp, show n - p = (n - (p + 1)) + 1 by omega, piece_cons]
      unfold lexC
      by_cases h0 : gr (T p) = 0
      · rw [if_pos h0, if_pos h0]
        exact scan_lex f (p + 1) (by omega) (by omega)
      · rw [if_neg h0, if_neg h0, List.map_cons]
        obtain ⟨k1, k2, k3, k4, k5⟩ := tkE_ok T n p hp
        have ih := scan_lex (T := T) (n := n) f (tkE T n p) (by omega) k2
        rw [ih]
        by_cases g23 : gr (T p) = 2 ∨ gr (T p) = 3
        · rw [if_pos g23]
          have hE : tkE T n p = runE T n (gr (T p)) (n - (p + 1)) (p + 1) := by
            unfold tkE
            rw [if_pos g23, show n - p = (n - (p + 1)) + 1 by omega]
            show (if p < n ∧ gr (T p) = gr (T p) then _ else _) = _
            rw [if_pos ⟨hp, rfl⟩]
          obtain ⟨i1, i2⟩ := run_tw (T := T) (n := n) (g := gr (T p)) (n - (p + 1)) (p + 1) (Nat.le_refl _) (by omega)
          rw [i1, i2, ← hE]
          show piece T p (tkE T n p - p) :: _ = _
          rw [show tkE T n p - p = (tkE T n p - (p + 1)) + 1 by omega, piece_cons]
        · have hE := k5 (fun h => g23 (Or.inl h)) (fun h => g23 (Or.inr h))
          rw [if_neg g23, hE]
          show piece T p (p + 1 - p) :: _ = _
          rw [show p + 1 - p = 0 + 1 by omega, piece_cons]; rfl
    · have : p = n := by omega
      subst this
      rw [if_neg hp, Nat.sub_self]
      rfl
theorem dw_le {P : Nat → Bool} : ∀ l : List Nat, (l.dropWhile P).length ≤ l.length
  | [] => Nat.le_refl _
  | c :: l => by
    rw [List.dropWhile_cons]
    split
    · have := dw_le (P := P) l
      rw [List.length_cons]; omega
    · exact Nat.le_refl _
theorem lex_fuel : ∀ (f f' : Nat) (l : List Nat), l.length ≤ f → l.length ≤ f' → lexC f l = lexC f' l
  | 0, 0, _, _, _ => rfl
  | 0, f' + 1, l, h, _ => by
    have : l = [] := List.length_eq_zero_iff.mp (by omega)
    subst this; rfl
  | f + 1, 0, l, _, h => by
    have : l = [] := List.length_eq_zero_iff.mp (by omega)
    subst this; rfl
  | f + 1, f' + 1, [], _, _ => rfl
  | f + 1, f' + 1, c :: r, h1, h2 => by
    rw [List.length_cons] at h1 h2
    unfold lexC
    have hd := dw_le (P := fun x => decide (gr x = gr c)) r
    rw [lex_fuel f f' r (by omega) (by omega), lex_fuel f f' (r.dropWhile (fun x => decide (gr x = gr c))) (by omega) (by omega)]
theorem lex_blank : ∀ (g r : List Nat) (f : Nat), (∀ x, x ∈ g → gr x = 0) → (g ++ r).length ≤ f → lexC f (g ++ r) = lexC f r
  | [], r, f, _, _ => rfl
  | c :: g, r, 0, _, h => by
    rw [List.length_append, List.length_cons] at h
    omega
  | c :: g, r, f + 1, hg, h => by
    have h' : (g ++ r).length ≤ f := by
      have : (c :: g ++ r).length = (g ++ r).length + 1 := rfl
      omega
    show (if gr c = 0 then lexC f (g ++ r) else _) = _
    rw [if_pos (hg c (List.mem_cons_self ..)), lex_blank g r f (fun x hx => hg x (List.mem_cons_of_mem _ hx)) h']
    refine lex_fuel f (f + 1) r ?_ ?_
    · rw [List.length_append] at h'; omega
    · rw [List.length_append] at h'; omega
theorem tw_all {P : Nat → Bool} : ∀ (s r : List Nat), (∀ x, x ∈ s → P x = true) → (∀ c r', r = c :: r' → P c = false) → (s ++ r).takeWhile P = s ∧ (s ++ r).dropWhile P = r
  | [], [], _, _ => ⟨rfl, rfl⟩
  | [], c :: r, _, h => by
    have := h c r rfl
    constructor
    · show (c :: r).takeWhile P = []
      rw [List.takeWhile_cons_of_neg (by rw [this]; decide)]
    · show (c :: r).dropWhile P = c :: r
      rw [List.dropWhile_cons_of_neg (by rw [this]; decide)]
  | x :: s, r, h1, h2 => by
    obtain ⟨g1, g2⟩ := tw_all s r (fun y hy => h1 y (List.mem_cons_of_mem _ hy)) h2
    have hx := h1 x (List.mem_cons_self ..)
    constructor
    · show (x :: (s ++ r)).takeWhile P = x :: s
      rw [List.takeWhile_cons_of_pos hx, g1]
    · show (x :: (s ++ r)).dropWhile P = r
      rw [List.dropWhile_cons_of_pos hx, g2]
/-- A string that is a token where the next character is none of its group. -/
def tokS (s : List Nat) (g : Nat) : Prop := g ≠ 0 ∧ s ≠ [] ∧ (∀ x, x ∈ s → gr x = g) ∧ (g ≠ 2 → g ≠ 3 → s.length = 1)
theorem lex_tok {s r : List Nat} {g f : Nat} (hs : tokS s g) (hr : g = 2 ∨ g = 3 → ∀ c r', r = c :: r' → gr c ≠ g) (hf : (s ++ r).length ≤ f) : lexC f (s ++ r) = s :: lexC f r := by
  obtain ⟨h0, h1, h2, h3⟩ := hs
  cases s with
  | nil => exact absurd rfl h1
  | cons c s =>
    have hc := h2 c (List.mem_cons_self ..)
    cases f with
    | zero =>
      rw [List.length_append, List.length_cons] at hf
      omega
    | succ f =>
      have hf' : (s ++ r).length ≤ f := by
        have : (c :: s ++ r).length = (s ++ r).length + 1 := rfl
        omega
      rw [List.length_append] at hf'
      show (if gr c = 0 then _ else if gr c = 2 ∨ gr c = 3 then (c :: (s ++ r).takeWhile (fun x => decide (gr x = gr c))) :: lexC f ((s ++ r).dropWhile (fun x => decide (gr x = gr c))) else [c] :: lexC f (s ++ r)) = _
      rw [if_neg (by omega)]
      by_cases g23 : gr c = 2 ∨ gr c = 3
      · rw [if_pos g23]
        obtain ⟨i1, i2⟩ := tw_all (P := fun x => decide (gr x = gr c)) s r (fun x hx => decide_eq_true (by rw [h2 x (List.mem_cons_of_mem _ hx), hc])) (fun c' r' he => decide_eq_false (by rw [hc]; exact hr (by omega) c' r' he))
        rw [i1, i2, lex_fuel f (f + 1) r (by omega) (by omega)]
      · rw [if_neg g23]
        have := h3 (by omega) (by omega)
        rw [List.length_cons] at this
        have hs0 : s = [] := List.length_eq_zero_iff.mp (by omega)
        subst hs0
        show [c] :: lexC f r = _
        rw [lex_fuel f (f + 1) r (by omega) (by omega)]
/-! what a string is worth -/
def pkS : List Nat → Nat
  | [] => 0
  | c :: s => (c - 96) + 32 * pkS s
def dgS (s : List Nat) : Nat := s.foldl (fun v c => 10 * v + (c - 48)) 0
def kdS (s : List Nat) : Nat := if gr (s.headD 0) = 2 then (if s.length ≤ 6 then (if kwN (pkS s) < 6 then 1 else 2) else 5) else if gr (s.headD 0) = 3 then (if s.length ≤ 4 then 3 else 5) else gr (s.headD 0)
theorem pkS_app (c : Nat) : ∀ s : List Nat, pkS (s ++ [c]) = pkS s + (c - 96) * 32 ^ s.length
  | [] => by
    show (c - 96) + 32 * 0 = 0 + (c - 96) * 32 ^ 0
    rw [Nat.pow_zero]; omega
  | x :: s => by
    show (x - 96) + 32 * pkS (s ++ [c]) = (x - 96) + 32 * pkS s + (c - 96) * 32 ^ (s.length + 1)
    rw [pkS_app c s, Nat.mul_add, Nat.pow_succ, show 32 * ((c - 96) * 32 ^ s.length) = (c - 96) * (32 ^ s.length * 32) by rw [Nat.mul_comm 32, Nat.mul_assoc]]
    omega
theorem pk_S (T : Nat → Nat) (a : Nat) : ∀ l, pk T a l = pkS (piece T a l)
  | 0 => rfl
  | l + 1 => by
    show pk T a l + (T (a + l) - 96) * 32 ^ l = pkS (piece T a l ++ [T (a + l)])
    rw [pkS_app, pk_S T a l, piece_len]
theorem dg_S (T : Nat → Nat) (a : Nat) : ∀ l, dg T a l = dgS (piece T a l)
  | 0 => rfl
  | l + 1 => by
    show 10 * dg T a l + (T (a + l) - 48) = dgS (piece T a l ++ [T (a + l)])
    unfold dgS
    rw [List.foldl_append, dg_S T a l]; rfl
theorem kd_S {T : Nat → Nat} {a e : Nat} (h : a < e) : kd T a e = kdS (piece T a (e - a)) := by
  have hh : (piece T a (e - a)).headD 0 = T a := by
    rw [show e - a = (e - a - 1) + 1 by omega, piece_cons]; rfl
  unfold kd kdS
  rw [hh, piece_len, pk_S]
