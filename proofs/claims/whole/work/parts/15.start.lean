def k0 : DS := (fun _ _ => 0, fun _ => 0)
def d0 : DS := (fun _ _ => 0, va_up (fun _ => 0) 2 1)
def r0 : RS := (fun _ _ => 0, fun _ => 0, va_up (fun _ _ => 0) 1 (vp_updL (vp_updL (vp_updL (vp_updL (vp_updL (vp_updL (fun _ => 0) 0 454) 1 20652) 2 201) 3 5645591) 4 21440080) 5 489345202))
def o0 : OS := fun _ => 0
theorem start_world {g : GT} {q1 q2 q3 : Nat} {a a2 : Nat → Nat} : (n_X_init g q1 a ++ n_Mo_init g q2 a2) ++ [(q3, .inl (g_J g, (1, .inr (.inl (fun _ => 0)))))] = wX g (fun _ => q1) (fun k => a (k + 1)) (fun k => a (k + 6)) (fun k => a (k + 36)) ++ (wM g (fun k => a (k + 1)) k0.1 k0.2 ++ (wD g (fun k => a (k + 6)) d0.1 d0.2 ++ (wD g (fun k => a (k + 36)) d0.1 d0.2 ++ (wR g (fun k => match k with | 0 => q2 | k + 1 => a2 (k + 1)) r0.1 r0.2.1 r0.2.2 ++ wO g (fun _ => q3) o0)))) := rfl
theorem clsInst : ∀ q ∈ classes, Cond.instantiable q.1 q.2.2 ∈ wsG := by
  intro q hq
  simp only [classes, List.mem_cons, List.not_mem_nil, or_false] at hq
  rcases hq with rfl | rfl | rfl | rfl | rfl | rfl | rfl | rfl | rfl | rfl
  · exact tw211
  · exact tw78
  · exact tw139
  · exact tw232
  · exact tw34
  · exact tw167
  · exact tw84
  · exact tw103
  · exact tw26
  · exact tw931
theorem start_K {s : State} {args : Array Value} (hts : ∀ w ∈ wsG, w.before args s = true) : ∃ D : va_G, ∀ (c : Nat) (q : vw_C), classes[c]? = some q → u_Kn s q.1 q.2.1 q.2.2 (D.1 c) (D.2 c) := by
  have h : ∀ c : Nat, ∃ (cC : ClassId) (iS : Nat → Nat), ∀ q : vw_C, classes[c]? = some q → u_Kn s q.1 q.2.1 q.2.2 cC iS := by
    intro c
    cases hq : classes[c]? with
    | none => exact ⟨0, fun _ => 0, fun q h => by cases h⟩
    | some q =>
      have hm := List.mem_of_getElem? hq
      obtain ⟨cC, iS, h⟩ := u_known hts (clsIn q hm) (hts _ (clsInst q hm))
      exact ⟨cC, iS, fun q' h' => by cases h'; exact h⟩
  exact ⟨(fun c => Classical.choose (h c), fun c => Classical.choose (Classical.choose_spec (h c))), fun c q hq => Classical.choose_spec (Classical.choose_spec (h c)) q hq⟩
theorem start_arr {s : State} {args : Array Value} {ty : FieldType} (h : (Cond.arrayClass ty).before args s = true) (hp : ∀ c : ClassId, s.vm.findClass ("[" ++ ty.toString) = some c → va_RA s c ty) : ∃ cA : ClassId, ArrOfT s cA ty ∧ va_RA s cA ty := by
  obtain ⟨c, k, comp, h1, h2, h3⟩ := Cond.arrayClass_spec h
  exact ⟨c, fun n z => ⟨fun k h => (by cases h), k, h2, comp, h3⟩, hp c h1⟩
theorem start_all {l : Launch} {s : State} {b : Nat} (hl : ∀ e, l.admits e → e.platform.stackTraces = false) (hts : ∀ w ∈ lw_tbl, w.before #[Value.ref b] s = true) (hgv : (Jvm.Cond.and given_1 narrow_1).before #[Value.ref b] s = true) : ∃ g : GT, g_l g = l ∧ va_K (g_D g) classes (g_tys g) s ∧ SPk g (fun q => s.heap.size ≤ q) s s.heap := by
  have hG : ∀ w ∈ wsG, w.before #[Value.ref b] s = true := fun w hw => hts w (List.mem_filter.mp hw).1
  have ht : ∀ w ∈ tables_1, w.before #[Value.ref b] s = true := fun w hw => hts w (List.mem_append_right _ hw)
  have hs := flat_of_before _ hgv
  obtain ⟨D, hD⟩ := start_K hG
  obtain ⟨cI, i1, i2⟩ := start_arr (hG _ tw76) (fun c h => h)
  obtain ⟨cC, c1, c2⟩ := start_arr (hG _ tw101) (fun c h => h)
  obtain ⟨cJ, j1, j2⟩ := start_arr (hG _ tw1105) (fun c h => h)
  obtain ⟨cZ, z1, z2⟩ := start_arr (hG _ tw1106) (fun c h => h)
  have hA : ∀ a : Nat, a < s.heap.size → ¬ (s.heap.size ≤ a) := fun a h => by omega
  obtain ⟨t, et, hT⟩ := va_Tof (args := #[Value.ref b]) (s := s) (tm := .static "ProgramDesk" "WORDS" "[I") (ty := .int) (N := 7) (f := fun j => .int (tabW j)) (A := fun q => s.heap.size ≤ q) (by decide) (hs _ (by decide +kernel)) (va_eqt (hs _ (by decide +kernel)))
    (fun j hj => by
      have hj7 : j = 0 ∨ j = 1 ∨ j = 2 ∨ j = 3 ∨ j = 4 ∨ j = 5 ∨ j = 6 := by omega
      rcases hj7 with rfl | rfl | rfl | rfl | rfl | rfl | rfl
      · exact va_eqt (z := 454) (hs (Cond.eq (.elem (.static "ProgramDesk" "WORDS" "[I") (.int 0)) (.int 454)) (by decide +kernel))
      · exact va_eqt (z := 20652) (hs (Cond.eq (.elem (.static "ProgramDesk" "WORDS" "[I") (.int 1)) (.int 20652)) (by decide +kernel))
      · exact va_eqt (z := 201) (hs (Cond.eq (.elem (.static "ProgramDesk" "WORDS" "[I") (.int 2)) (.int 201)) (by decide +kernel))
      · exact va_eqt (z := 5645591) (hs (Cond.eq (.elem (.static "ProgramDesk" "WORDS" "[I") (.int 3)) (.int 5645591)) (by decide +kernel))
      · exact va_eqt (z := 21440080) (hs (Cond.eq (.elem (.static "ProgramDesk" "WORDS" "[I") (.int 4)) (.int 21440080)) (by decide +kernel))
      · exact va_eqt (z := 489345202) (hs (Cond.eq (.elem (.static "ProgramDesk" "WORDS" "[I") (.int 5)) (.int 489345202)) (by decide +kernel))
      · exact va_eqt (z := 468013) (hs (Cond.eq (.elem (.static "ProgramDesk" "WORDS" "[I") (.int 6)) (.int 468013)) (by decide +kernel))) hA
  have hS1 := vk_Sof (args := #[Value.ref b]) (s := s) (N := 1) (tm := fun _ => .string "ProgramDesk$Tokens" 53) (len := [11]) (byt := [[43, 45, 42, 60, 61, 40, 41, 123, 125, 44, 59]]) (A := fun q => s.heap.size ≤ q) (fun i hi => by
    have e : i = 0 := by omega
    subst e
    decide) (fun i hi => hs _ (by decide +kernel)) (fun i hi => hs _ (by decide +kernel)) (fun i hi => hs _ (by decide +kernel)) (fun i hi => by
    have e : i = 0 := by omega
    subst e
    exact hs _ (by decide +kernel)) (fun i hi j hj => by
    have e : i = 0 := by omega
    subst e
    have hj2 : j < 11 := hj
    have hj3 : j = 0 ∨ j = 1 ∨ j = 2 ∨ j = 3 ∨ j = 4 ∨ j = 5 ∨ j = 6 ∨ j = 7 ∨ j = 8 ∨ j = 9 ∨ j = 10 := by omega
    rcases hj3 with rfl | rfl | rfl | rfl | rfl | rfl | rfl | rfl | rfl | rfl | rfl <;> exact hs _ (by decide +kernel)) (fun i j hi hj hij => absurd (show i = j by omega) hij) hA
  obtain ⟨adK, adV, ⟨hS2, -⟩, hS3⟩ := hS1
  obtain ⟨sO, sC, sV, sT⟩ := hS2 0 (by omega)
  refine ⟨(l, D.1, D.2, (cI, cC, cJ, cZ), t, adK 0, adV 0), rfl, ⟨hD, ?_⟩, ⟨⟨va_Zof (ht _ (List.mem_of_getElem? (i := 343) (by decide +kernel))) (hG _ tw1) et hA, hT, ?_⟩, ⟨hl, ?_, ?_, ?_, ?_⟩, vk_R.of (ht _ (List.mem_of_getElem? (i := 371) (by decide +kernel))) (hS3 0 (by omega)), sO, sC, sV, sT, va_Zof (ht _ (List.mem_of_getElem? (i := 385) (by decide +kernel))) (hG _ (tc_1 17 rfl rfl)) (va_eqt (z := 1) (hs (Cond.eq (.static "java/lang/String" "COMPACT_STRINGS" "Z") (.int 1)) (by decide +kernel))) hA⟩⟩
  · intro k q hk
    have hk4 : k = 0 ∨ k = 1 ∨ k = 2 ∨ k = 3 ∨ 4 ≤ k := by omega
    rcases hk4 with rfl | rfl | rfl | rfl | h4
    · cases hk; exact ⟨i1, i2⟩
    · cases hk; exact ⟨c1, c2⟩
    · cases hk; exact ⟨j1, j2⟩
    · cases hk; exact ⟨z1, z2⟩
    · rw [List.getElem?_eq_none (by show 4 ≤ k; exact h4)] at hk; cases hk
  · intro w hw
    have h1 := List.mem_filter.mp hw
    have h2 := ht w h1.1
    have h3 : w.onTables = true := by
      have h4 := h1.2
      cases w <;> first | (cases h4; done) | rfl
    exact va_Nw.of h3 h2
  · exact ZL.of (ht _ (List.mem_of_getElem? (i := 641) (by decide +kernel))) (hs _ (by decide +kernel)) hA
  · exact ZL.of (ht _ (List.mem_of_getElem? (i := 643) (by decide +kernel))) (hs _ (by decide +kernel)) hA
  · intro w hw
    have h1 := List.mem_filter.mp hw
    exact aWord.moved h1.2 (Vm.Alike.refl s.vm) (ht w h1.1)
  · intro q hq
    have h5 : Cond.not (.castable q.1 q.2) ∈ flatC (Jvm.Cond.and given_1 narrow_1) := by
      revert q
      decide +kernel
    exact va_Nc.of (hs _ h5)
