/-! the tokens of a text for both sides; its parts -/
def ck (T : Nat → Nat) (a e : Nat) : Nat := if kd T a e = 4 then T a else if kd T a e = 2 then 200 else if kd T a e = 3 then 300 else if kd T a e = 1 then 400 + kwN (pk T a (e - a)) else 0
def clL (T : Nat → Nat) (l : List (Nat × Nat)) (k : Nat) : Nat := if k < l.length then ck T (l.getD k (0, 0)).1 (l.getD k (0, 0)).2 else 0
def vlT (T : Nat → Nat) (a e : Nat) : Nat := if kd T a e = 2 then pk T a (e - a) else if kd T a e = 3 then dg T a (e - a) else 0
def nmL (T : Nat → Nat) (l : List (Nat × Nat)) (k : Nat) : Nat := if k < l.length then vlT T (l.getD k (0, 0)).1 (l.getD k (0, 0)).2 else 0
theorem kd_in (T : Nat → Nat) (a e : Nat) (h : gr (T a) ≠ 0) : kd T a e = 1 ∨ kd T a e = 2 ∨ kd T a e = 3 ∨ kd T a e = 4 ∨ kd T a e = 5 := by
  have h1 := gr_le (T a)
  have h2 := gr_ne1 (T a)
  unfold kd
  repeat' split
  all_goals omega
theorem kd_1 {T : Nat → Nat} {a e : Nat} (h : kd T a e = 1) : gr (T a) = 2 ∧ e - a ≤ 6 ∧ kwN (pk T a (e - a)) < 6 := by
  have h1 := gr_le (T a)
  have h2 := gr_ne1 (T a)
  unfold kd at h
  split at h
  · split at h
    · split at h
      · exact ⟨by omega, by omega, by omega⟩
      · omega
    · omega
  · split at h
    · split at h <;> omega
    · omega
theorem kd_2 {T : Nat → Nat} {a e : Nat} (h : kd T a e = 2) : gr (T a) = 2 ∧ e - a ≤ 6 ∧ ¬ kwN (pk T a (e - a)) < 6 := by
  unfold kd at h
  split at h
  · split at h
    · split at h
      · omega
      · exact ⟨by omega, by omega, by omega⟩
    · omega
  · split at h
    · split at h <;> omega
    · omega
theorem kd_3 {T : Nat → Nat} {a e : Nat} (h : kd T a e = 3) : gr (T a) = 3 ∧ e - a ≤ 4 := by
  unfold kd at h
  split at h
  · split at h
    · split at h <;> omega
    · omega
  · split at h
    · split at h
      · exact ⟨by omega, by omega⟩
      · omega
    · omega
theorem kd_4 {T : Nat → Nat} {a e : Nat} (h : kd T a e = 4) : gr (T a) = 4 := by
  unfold kd at h
  split at h
  · split at h
    · split at h <;> omega
    · omega
  · split at h
    · split at h <;> omega
    · exact h
theorem g4_pos {c : Nat} (h : gr c = 4) : 0 < c := by
  unfold gr at h
  repeat' split at h
  all_goals omega
theorem kk_ck {T : Nat → Nat} {a e : Nat} (h : gr (T a) ≠ 0) (hT : T a ≤ 126) : kk (ck T a e) = kd T a e := by
  rcases kd_in T a e h with h1 | h1 | h1 | h1 | h1
  · have := kd_1 h1
    unfold ck
    rw [h1, if_neg (by omega), if_neg (by omega), if_neg (by omega), if_pos rfl]
    exact kk_1.mpr (by omega)
  · unfold ck
    rw [h1, if_neg (by omega), if_pos rfl]; rfl
  · unfold ck
    rw [h1, if_neg (by omega), if_neg (by omega), if_pos rfl]; rfl
  · have := g4_pos (kd_4 h1)
    unfold ck
    rw [h1, if_pos rfl]
    exact kk_4.mpr (by omega)
  · unfold ck
    rw [h1, if_neg (by omega), if_neg (by omega), if_neg (by omega), if_neg (by omega)]; rfl
theorem vl_lt {T : Nat → Nat} {a e : Nat} (hr : ∀ i, a ≤ i → i < e → gr (T i) = gr (T a)) : vlT T a e < 1073741824 := by
  unfold vlT
  split
  · rename_i h
    obtain ⟨g1, g2, -⟩ := kd_2 h
    have z1 := pq_lt T a (e - a) (fun i hi => (hr (a + i) (by omega) (by omega)).trans g1)
    have z2 := p32_le g2
    omega
  · split
    · rename_i h
      obtain ⟨g1, g2⟩ := kd_3 h
      have z1 := dg_lt T a (e - a) (fun i hi => (hr (a + i) (by omega) (by omega)).trans g1)
      have z2 := p10_le g2
      omega
    · omega
theorem tk_ok {T : Nat → Nat} {n : Nat} {l : List (Nat × Nat)} (hl : TkL T n l) (hn : l.length ≤ 240) (hT : ∀ i, i < n → T i ≤ 126) : TK (clL T l) (nmL T l) l.length := by
  refine ⟨hn, fun k => ?_, fun k => ?_, fun k hk => by unfold clL; rw [if_neg (by omega)]⟩
  · unfold clL
    split
    · rename_i hk
      obtain ⟨a1, a2, a3, a4⟩ := hl k hk
      have hTa := hT (l.getD k (0, 0)).1 (by omega)
      unfold ck
      split
      · exact Or.inl (by omega)
      split
      · exact Or.inr (Or.inl rfl)
      split
      · exact Or.inr (Or.inr (Or.inl rfl))
      split
      · rename_i h1
        have := kd_1 h1
        exact Or.inr (Or.inr (Or.inr ⟨by omega, by omega⟩))
      · exact Or.inl (by omega)
    · exact Or.inl (by omega)
  · unfold nmL
    split
    · rename_i hk
      exact vl_lt (hl k hk).2.2.2
    · omega
theorem dtok_ok {T : Nat → Nat} {n : Nat} {l : List (Nat × Nat)} {d : DS} (hl : TkL T n l) (hT : ∀ i, i < n → T i ≤ 126) (h4 : d.2 4 = Int32.ofNat l.length) (hF : ∀ k, k < l.length → TF T d k (l.getD k (0, 0)).1 (l.getD k (0, 0)).2) : DTok (clL T l) (nmL T l) l.length d := by
  refine ⟨h4, fun k hk => ?_⟩
  obtain ⟨a1, a2, a3, a4⟩ := hl k hk
  have hTa := hT (l.getD k (0, 0)).1 (by omega)
  obtain ⟨t4, t6, t7, t5⟩ := hF k hk
  have hcl : clL T l k = ck T (l.getD k (0, 0)).1 (l.getD k (0, 0)).2 := by
    unfold clL
    rw [if_pos hk]
  have hnm : nmL T l k = vlT T (l.getD k (0, 0)).1 (l.getD k (0, 0)).2 := by
    unfold nmL
    rw [if_pos hk]
  have hkk := kk_ck (e := (l.getD k (0, 0)).2) a3 hTa
  rw [hcl, hnm]
  refine ⟨by rw [hkk]; exact t4, fun h1 h2 => ?_, fun h => ?_, fun h => ?_⟩
  · have h4 : kd T (l.getD k (0, 0)).1 (l.getD k (0, 0)).2 = 4 := by rw [← hkk]; exact kk_4.mpr ⟨h1, h2⟩
    have g4 := kd_4 h4
    rw [t5 (by omega)]
    unfold sn ck
    rw [if_neg (by omega), if_neg (by omega), if_pos h4]
  · rcases h with h | h
    · have h2 : kd T (l.getD k (0, 0)).1 (l.getD k (0, 0)).2 = 2 := by rw [← hkk]; exact kk_2.mpr h
      obtain ⟨g1, g2, g3⟩ := kd_2 h2
      rw [t5 (by omega)]
      unfold sn vlT
      rw [if_pos g1, if_neg g3, if_pos h2]
    · have h2 : kd T (l.getD k (0, 0)).1 (l.getD k (0, 0)).2 = 3 := by rw [← hkk]; exact kk_3.mpr h
      obtain ⟨g1, g2⟩ := kd_3 h2
      rw [t5 (by omega)]
      unfold sn vlT
      rw [if_neg (by omega), if_pos g1, if_neg (by omega), if_pos h2]
  · have h1 : kd T (l.getD k (0, 0)).1 (l.getD k (0, 0)).2 = 1 := by rw [← hkk]; exact kk_1.mpr (by omega)
    obtain ⟨g1, g2, g3⟩ := kd_1 h1
    rw [t5 (by omega)]
    unfold sn ck
    rw [if_pos g1, if_pos g3, if_neg (by omega), if_neg (by omega), if_neg (by omega), if_pos h1, Nat.add_sub_cancel_left]
theorem mtok_ok {T : Nat → Nat} {n : Nat} {l : List (Nat × Nat)} {r : RS} (hl : TkL T n l) (hX : TxM T n r) (hP : PM T l r) : MTok (clL T l) (nmL T l) (fun k => (l.getD k (0, 0)).1) l.length r ∧ MEnd (fun k => (l.getD k (0, 0)).2) l.length r := by
  have hn := hX.2.1
  refine ⟨⟨hP.1, hX.2.2.2, fun k hk => ?_⟩, fun k hk => ⟨(hP.2 k hk).2.2.1, by have := (hl k hk).2.1; show (l.getD k (0, 0)).2 ≤ 240; omega⟩⟩
  obtain ⟨a1, a2, a3, a4⟩ := hl k hk
  obtain ⟨c0, c1, c2⟩ := hX.2.2.1 (l.getD k (0, 0)).1 (by omega)
  obtain ⟨t5, t6, t7, t8, t9, -⟩ := hP.2 k hk
  have hcl : clL T l k = ck T (l.getD k (0, 0)).1 (l.getD k (0, 0)).2 := by
    unfold clL
    rw [if_pos hk]
  have hnm : nmL T l k = vlT T (l.getD k (0, 0)).1 (l.getD k (0, 0)).2 := by
    unfold nmL
    rw [if_pos hk]
  have hkk := kk_ck (e := (l.getD k (0, 0)).2) a3 c2
  rw [hcl, hnm]
  refine ⟨by rw [hkk]; exact t5, t6, by show (l.getD k (0, 0)).1 < 240; omega, fun h1 h2 => ?_, fun h => ?_, fun h => ?_⟩
  · have h4 : kd T (l.getD k (0, 0)).1 (l.getD k (0, 0)).2 = 4 := by rw [← hkk]; exact kk_4.mpr ⟨h1, h2⟩
    unfold ck
    rw [if_pos h4]; exact c0
  · rcases h with h | h
    · have h2 : kd T (l.getD k (0, 0)).1 (l.getD k (0, 0)).2 = 2 := by rw [← hkk]; exact kk_2.mpr h
      unfold vlT
      rw [if_pos h2]; exact t8 (Or.inr h2)
    · have h2 : kd T (l.getD k (0, 0)).1 (l.getD k (0, 0)).2 = 3 := by rw [← hkk]; exact kk_3.mpr h
      unfold vlT
      rw [if_neg (by omega), if_pos h2]; exact t9 h2
  · have h1 : kd T (l.getD k (0, 0)).1 (l.getD k (0, 0)).2 = 1 := by rw [← hkk]; exact kk_1.mpr (by omega)
    obtain ⟨g1, g2, g3⟩ := kd_1 h1
    refine ⟨pk T (l.getD k (0, 0)).1 ((l.getD k (0, 0)).2 - (l.getD k (0, 0)).1), ?_, ?_, t8 (Or.inl h1)⟩
    · have z1 := pq_lt T (l.getD k (0, 0)).1 ((l.getD k (0, 0)).2 - (l.getD k (0, 0)).1) (fun i hi => (a4 _ (by omega) (by omega)).trans g1)
      have z2 := p32_le g2
      omega
    · unfold ck
      rw [if_neg (by omega), if_neg (by omega), if_neg (by omega), if_pos h1, Nat.add_sub_cancel_left]
/-! parts -/
def ps (cl : Nat → Nat) : Nat → List Nat
  | 0 => []
  | k + 1 => if k = 0 ∨ cl k = 400 ∧ (ps cl k).length < 4 then ps cl k ++ [k] else ps cl k
theorem gn_old {l : List Nat} {x k D : Nat} (h : k < l.length) : (l ++ [x]).getD k D = l.getD k D := by
  rw [List.getD_eq_getElem?_getD, List.getD_eq_getElem?_getD, List.getElem?_append_left h]
theorem gn_new {l : List Nat} {x D : Nat} : (l ++ [x]).getD l.length D = x := by
  rw [List.getD_eq_getElem?_getD, List.getElem?_append_right (Nat.le_refl _), Nat.sub_self]; rfl
theorem gn_out {l : List Nat} {k D : Nat} (h : l.length ≤ k) : l.getD k D = D := by
  rw [List.getD_eq_getElem?_getD, List.getElem?_eq_none h]; rfl
theorem gn_d {l : List Nat} {k D D' : Nat} (h : k < l.length) : l.getD k D = l.getD k D' := by
  rw [List.getD_eq_getElem?_getD, List.getD_eq_getElem?_getD, List.getElem?_eq_getElem h]; rfl
theorem lenn {l : List Nat} {x : Nat} : (l ++ [x]).length = l.length + 1 := by rw [List.length_append]; rfl
theorem ps_ok (cl : Nat → Nat) : ∀ k, (ps cl k).length ≤ 4 ∧ (∀ i D, i < (ps cl k).length → (ps cl k).getD i D < k) ∧ (∀ i j D, i < j → j < (ps cl k).length → (ps cl k).getD i D < (ps cl k).getD j D) ∧ (0 < k → 0 < (ps cl k).length ∧ ∀ D, (ps cl k).getD 0 D = 0) ∧ (∀ i D, 0 < i → i < (ps cl k).length → cl ((ps cl k).getD i D) = 400) := by
  intro k
  induction k with
  | zero => exact ⟨by show 0 ≤ 4; omega, fun i D h => absurd h (Nat.not_lt_zero _), fun i j D _ h => absurd h (Nat.not_lt_zero _), fun h => absurd h (Nat.lt_irrefl _), fun i D _ h => absurd h (Nat.not_lt_zero _)⟩
  | succ k ih =>
    obtain ⟨h1, h2, h3, h4, h5⟩ := ih
    have hdef : ps cl (k + 1) = if k = 0 ∨ cl k = 400 ∧ (ps cl k).length < 4 then ps cl k ++ [k] else ps cl k := rfl
    rw [hdef]
    by_cases hc : k = 0 ∨ cl k = 400 ∧ (ps cl k).length < 4
    · rw [if_pos hc]
      have hlen : (ps cl k).length < 4 := by
        rcases hc with h | h
        · subst h; show 0 < 4; omega
        · exact h.2
      refine ⟨by rw [lenn]; omega, fun i D hi => ?_, fun i j D hij hj => ?_, fun _ => ⟨by rw [lenn]; omega, fun D => ?_⟩, fun i D h0 hi => ?_⟩
      · rw [lenn] at hi
        by_cases hi2 : i < (ps cl k).length
        · rw [gn_old hi2]; have := h2 i D hi2; omega
        · have : i = (ps cl k).length := by omega
          subst this; rw [gn_new]; omega
      · rw [lenn] at hj
        rw [gn_old (show i < (ps cl k).length by omega)]
        by_cases hj2 : j < (ps cl k).length
        · rw [gn_old hj2]; exact h3 i j D hij hj2
        · have : j = (ps cl k).length := by omega
          subst this; rw [gn_new]; exact h2 i D hij
      · rcases Nat.eq_zero_or_pos k with h | h
        · subst h; rfl
        · obtain ⟨g1, g2⟩ := h4 h
          rw [gn_old g1]; exact g2 D
      · rw [lenn] at hi
        by_cases hi2 : i < (ps cl k).length
        · rw [gn_old hi2]; exact h5 i D h0 hi2
        · have : i = (ps cl k).length := by omega
          subst this
          rw [gn_new]
          rcases hc with h | h
          · subst h; exact absurd h0 (Nat.lt_irrefl _)
          · exact h.1
    · rw [if_neg hc]
      have hk : 0 < k := by omega
      exact ⟨h1, fun i D hi => by have := h2 i D hi; omega, h3, fun _ => h4 hk, h5⟩
def bd (cl : Nat → Nat) (N i : Nat) : Nat := (ps cl N).getD i N
theorem bd_ok {cl nm : Nat → Nat} {N : Nat} (hK : TK cl nm N) : (ps cl N).length ≤ 4 ∧ bd cl N 0 = 0 ∧ (∀ i, i < (ps cl N).length → bd cl N i < bd cl N (i + 1)) ∧ (∀ i, (ps cl N).length ≤ i → bd cl N i = N) ∧ (∀ i, bd cl N i ≤ N) ∧ (∀ i, 0 < i → cl (bd cl N i) ≠ 40) ∧ (∀ i, 0 < i → i < (ps cl N).length → cl (bd cl N i) = 400) ∧ (0 < N → 0 < (ps cl N).length) := by
  obtain ⟨h1, h2, h3, h4, h5⟩ := ps_ok cl N
  have hout : ∀ i, (ps cl N).length ≤ i → bd cl N i = N := fun i hi => gn_out hi
  refine ⟨h1, ?_, fun i hi => ?_, hout, fun i => ?_, fun i h0 => ?_, fun i h0 hi => h5 i N h0 hi, fun h => (h4 h).1⟩
  · rcases Nat.eq_zero_or_pos N with h | h
    · subst h; rfl
    · exact (h4 h).2 N
  · by_cases hi2 : i + 1 < (ps cl N).length
    · exact h3 i (i + 1) N (by omega) hi2
    · rw [hout (i + 1) (by omega)]; exact h2 i N hi
  · by_cases hi : i < (ps cl N).length
    · have := h2 i N hi
      unfold bd; omega
    · rw [hout i (by omega)]; exact Nat.le_refl _
  · by_cases hi : i < (ps cl N).length
    · have : cl (bd cl N i) = 400 := h5 i N h0 hi
      omega
    · rw [hout i (by omega), hK.2.2.2 N (Nat.le_refl _)]; omega
theorem sp_loop {cl nm : Nat → Nat} {N : Nat} (hK : TK cl nm N) : ∀ (z k : Nat) (d : DS) (M : Nat), N - k = z → k ≤ N → DTok cl nm N d → d.2 0 = Int32.ofNat (ps cl k).length → (∀ i, i < (ps cl k).length → d.1 27 i = Int32.ofNat ((ps cl k).getD i 0)) → ∃ d', lpN BDr_splitParts_7 (M + z + 1) (Int32.ofNat k, d) = some d' ∧ d'.2 0 = Int32.ofNat (ps cl N).length ∧ (∀ i, i ≤ (ps cl N).length → d'.1 27 i = Int32.ofNat (bd cl N i)) ∧ (∀ i, i ≠ 27 → d'.1 i = d.1 i) ∧ (∀ i, i ≠ 0 → d'.2 i = d.2 i) := by
  intro z
  have hN := hK.1
  induction z with
  | zero =>
    intro k d M h1 h2 hT h0 h27
    have : k = N := by omega
    subst this
    obtain ⟨p1, p2, p3, p4, p5⟩ := ps_ok cl k
    rw [Nat.add_zero, lp_succ]
    unfold BDr_splitParts_7
    dsimp only
    rw [hT.1, if_pos (by rw [i_le]; omega), h0, if_pos (o_inb (by omega) (by omega)), o_nat (by omega)]
    refine ⟨_, rfl, h0, fun i hi => ?_, fun i hi => up_ne hi, fun _ _ => rfl⟩
    show upd (d.1 27) (ps cl k).length (Int32.ofNat k) i = _
    by_cases hi2 : i < (ps cl k).length
    · rw [ud_ne (by omega), h27 i hi2]
      unfold bd
      rw [gn_d hi2]
    · have : i = (ps cl k).length := by omega
      subst this
      rw [ud_eq]
      unfold bd
      rw [gn_out (Nat.le_refl _)]
  | succ z ih =>
    intro k d M h1 h2 hT h0 h27
    obtain ⟨p1, p2, p3, p4, p5⟩ := ps_ok cl k
    have hdef : ps cl (k + 1) = if k = 0 ∨ cl k = 400 ∧ (ps cl k).length < 4 then ps cl k ++ [k] else ps cl k := rfl
    rw [show M + (z + 1) + 1 = (M + z + 1) + 1 by omega, lp_succ]
    unfold BDr_splitParts_7
    have q0 : (Int32.ofNat k = 0) = (k = 0) := o_eq (b := 0) (by omega) (by omega)
    have q4 : ((4 : Int32) ≤ Int32.ofNat (ps cl k).length) = (4 ≤ (ps cl k).length) := o_le (a := 4) (by omega) (by omega)
    simp only [hT.1, h0, q0, q4, isFn_ok hK hT (show k < N by omega), Option.bind_some, o_inb (show (ps cl k).length < 5 by omega) (show (ps cl k).length < 2147483648 by omega), o_nat (show (ps cl k).length < 2147483648 by omega), ↓reduceIte, o_p1]
    rw [if_neg (by rw [o_le (by omega) (by omega)]; omega)]
    have yes : (k = 0 ∨ cl k = 400 ∧ (ps cl k).length < 4) → ∃ d', lpN BDr_splitParts_7 (M + z + 1) (Int32.ofNat (k + 1), (va_up d.1 27 (upd (d.1 27) (ps cl k).length (Int32.ofNat k)), va_up d.2 0 (Int32.ofNat ((ps cl k).length + 1)))) = some d' ∧ d'.2 0 = Int32.ofNat (ps cl N).length ∧ (∀ i, i ≤ (ps cl N).length → d'.1 27 i = Int32.ofNat (bd cl N i)) ∧ (∀ i, i ≠ 27 → d'.1 i = d.1 i) ∧ (∀ i, i ≠ 0 → d'.2 i = d.2 i) := by
      intro hc
      rw [if_pos hc] at hdef
      obtain ⟨d', e1, e2, e3, e4, e5⟩ := ih (k + 1) (va_up d.1 27 (upd (d.1 27) (ps cl k).length (Int32.ofNat k)), va_up d.2 0 (Int32.ofNat ((ps cl k).length + 1))) M (by omega) (by omega) (hT.cg rfl rfl rfl) (by rw [hdef, lenn]; rfl) (fun i hi => by
        rw [hdef, lenn] at hi
        rw [hdef]
        show upd (d.1 27) (ps cl k).length (Int32.ofNat k) i = _
        by_cases hi2 : i < (ps cl k).length
        · rw [ud_ne (by omega), gn_old hi2]; exact h27 i hi2
        · have : i = (ps cl k).length := by omega
          subst this
          rw [ud_eq, gn_new])
      exact ⟨d', e1, e2, e3, fun i hi => (e4 i hi).trans (up_ne hi), fun i hi => (e5 i hi).trans (up_ne hi)⟩
    have no : ¬ (k = 0 ∨ cl k = 400 ∧ (ps cl k).length < 4) → ∃ d', lpN BDr_splitParts_7 (M + z + 1) (Int32.ofNat (k + 1), d) = some d' ∧ d'.2 0 = Int32.ofNat (ps cl N).length ∧ (∀ i, i ≤ (ps cl N).length → d'.1 27 i = Int32.ofNat (bd cl N i)) ∧ (∀ i, i ≠ 27 → d'.1 i = d.1 i) ∧ (∀ i, i ≠ 0 → d'.2 i = d.2 i) := by
      intro hc
      rw [if_neg hc] at hdef
      exact ih (k + 1) d M (by omega) (by omega) hT (by rw [hdef]; exact h0) (by rw [hdef]; exact h27)
    by_cases hk0 : k = 0
    · have hl0 : (ps cl k).length = 0 := by subst hk0; rfl
      rw [if_pos hk0, if_neg (by omega)]
      exact yes (Or.inl hk0)
    · rw [if_neg hk0]
      by_cases h400 : cl k = 400
      · simp only [if_pos h400, ne10, ↓reduceIte]
        by_cases h4 : 4 ≤ (ps cl k).length
        · rw [if_pos h4]
          exact no (by omega)
        · rw [if_neg h4]
          exact yes (Or.inr ⟨h400, by omega⟩)
      · simp only [if_neg h400, ↓reduceIte]
        exact no (by omega)
theorem splitD {cl nm : Nat → Nat} {N : Nat} {d : DS} (hK : TK cl nm N) (hT : DTok cl nm N d) : ∃ d', f_Dr_splitParts d = some d' ∧ d'.2 0 = Int32.ofNat (ps cl N).length ∧ (∀ i, i ≤ (ps cl N).length → d'.1 27 i = Int32.ofNat (bd cl N i)) ∧ (∀ i, i ≠ 27 → d'.1 i = d.1 i) ∧ (∀ i, i ≠ 0 → d'.2 i = d.2 i) := by
  have hN := hK.1
  obtain ⟨d', e1, e2, e3, e4, e5⟩ := sp_loop hK N 0 (d.1, va_up d.2 0 0) (99999 - N) rfl (by omega) (hT.cg rfl rfl rfl) rfl (fun i hi => absurd hi (Nat.not_lt_zero _))
  rw [show 99999 - N + N + 1 = 100000 by omega] at e1
  exact ⟨d', e1, e2, e3, e4, fun i hi => (e5 i hi).trans (up_ne hi)⟩
theorem clr_loop {N : Nat} (hN : N ≤ 240) : ∀ (z k : Nat) (d : DS) (M : Nat), N - k = z → k ≤ N → d.2 4 = Int32.ofNat N → ∃ d', lpN BNa_clear_2 (M + z + 1) (Int32.ofNat k, d) = some d' ∧ (∀ i, i ≠ 13 → i ≠ 14 → i ≠ 15 → d'.1 i = d.1 i) ∧ d'.2 = d.2 ∧ ∀ q, k ≤ q → q < N → d'.1 13 q = 0 ∧ d'.1 14 q = -1 ∧ d'.1 15 q = -1 := by
  intro z
  have main : ∀ (z k : Nat) (d : DS) (M : Nat), N - k = z → k ≤ N → d.2 4 = Int32.ofNat N → ∃ d', lpN BNa_clear_2 (M + z + 1) (Int32.ofNat k, d) = some d' ∧ (∀ i, i ≠ 13 → i ≠ 14 → i ≠ 15 → d'.1 i = d.1 i) ∧ d'.2 = d.2 ∧ (∀ q, k ≤ q → q < N → d'.1 13 q = 0 ∧ d'.1 14 q = -1 ∧ d'.1 15 q = -1) ∧ ∀ q, q < k → d'.1 13 q = d.1 13 q ∧ d'.1 14 q = d.1 14 q ∧ d'.1 15 q = d.1 15 q := by
    intro z
    induction z with
    | zero =>
      intro k d M h1 h2 h4
      have : k = N := by omega
      subst this
      rw [Nat.add_zero, lp_succ]
      unfold BNa_clear_2
      dsimp only
      rw [h4, if_pos (by rw [i_le]; omega)]
      exact ⟨d, rfl, fun _ _ _ _ => rfl, rfl, fun q a b => by omega, fun _ _ => ⟨rfl, rfl, rfl⟩⟩
    | succ z ih =>
      intro k d M h1 h2 h4
      have ik : inb (Int32.ofNat k) 240 = true := o_inb (by omega) (by omega)
      rw [show M + (z + 1) + 1 = (M + z + 1) + 1 by omega, lp_succ]
      unfold BNa_clear_2
      simp only [h4, ik, ↓reduceIte, o_nat (show k < 2147483648 by omega), o_p1]
      rw [if_neg (by rw [o_le (by omega) (by omega)]; omega)]
      obtain ⟨d', e1, e2, e3, e4, e5⟩ := ih (k + 1) (va_up (va_up (va_up d.1 13 (upd (d.1 13) k 0)) 14 (upd (d.1 14) k (-1))) 15 (upd (d.1 15) k (-1)), d.2) M (by omega) (by omega) h4
      refine ⟨d', e1, fun i a b c => (e2 i a b c).trans ((up_ne c).trans ((up_ne b).trans (up_ne a))), e3, fun q a b => ?_, fun q hq => ?_⟩
      · by_cases hq : q = k
        · subst hq
          obtain ⟨g1, g2, g3⟩ := e5 q (by omega)
          exact ⟨g1.trans ud_eq, g2.trans ud_eq, g3.trans ud_eq⟩
        · exact e4 q (by omega) b
      · obtain ⟨g1, g2, g3⟩ := e5 q (by omega)
        exact ⟨g1.trans (ud_ne (by omega)), g2.trans (ud_ne (by omega)), g3.trans (ud_ne (by omega))⟩
  intro k d M h1 h2 h4
  obtain ⟨d', e1, e2, e3, e4, -⟩ := main z k d M h1 h2 h4
  exact ⟨d', e1, e2, e3, e4⟩
theorem clearD {N : Nat} {d : DS} (hN : N ≤ 240) (h4 : d.2 4 = Int32.ofNat N) : ∃ d', f_Na_clear d = some d' ∧ (∀ i, i ≠ 13 → i ≠ 14 → i ≠ 15 → d'.1 i = d.1 i) ∧ d'.2 = d.2 ∧ ∀ q, q < N → d'.1 13 q = 0 ∧ d'.1 14 q = -1 ∧ d'.1 15 q = -1 := by
  obtain ⟨d', e1, e2, e3, e4⟩ := clr_loop hN N 0 d (99999 - N) rfl (by omega) h4
  rw [show 99999 - N + N + 1 = 100000 by omega] at e1
  exact ⟨d', e1, e2, e3, fun q hq => e4 q (by omega) hq⟩
