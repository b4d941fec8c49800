abbrev rm_Mo_pop : Room := { frames := 0, cells := 0, slots := 0, locals := 0 }
theorem cv_Mo_pop : CV y_Mo_pop b_Mo_pop 1 (some .int) 0 := ⟨⟨tw1364, tw10, by decide +kernel⟩, tw1363, (sw_ (q := (y_Mo_pop, 54)) (by decide +kernel) (by decide +kernel))⟩
set_option maxHeartbeats 4000000 in
set_option maxRecDepth 100000 in
theorem c_Mo_pop {g : GT} {ar : Nat → Nat} {r : RS} {q : Int32 × RS} (hf : f_Mo_pop r = some q) : MI g y_Mo_pop b_Mo_pop 1 (some .int) rm_Mo_pop [.ref (ar 0)] (wR g ar r.1 r.2.1 r.2.2) q.1 (wR g ar q.2.1 q.2.2.1 q.2.2.2) := by
  refine MI.of (by decide) (Nat.le_of_ble_eq_true rfl) (fun 𝒥 C => ?_)
  unfold f_Mo_pop at hf
  change 𝒥 0 0 (wR g ar r.1 r.2.1 r.2.2) [(0, .ref (ar 0))] [] 0
  refine j_aload_n (pc := 0) C d_Mo_pop_0 rfl 0 rfl ?_
  refine j_dup (pc := 1) C d_Mo_pop_1 rfl ?_
  refine j_get (pc := 2) C d_Mo_pop_2 0 48 wR_o0 rfl (v := .int (r.2.1 13)) rfl (by decide) tw990 ?_
  refine j_iconst (pc := 5) C d_Mo_pop_5 ck_1 ?_
  refine j_isub (pc := 6) C d_Mo_pop_6 ?_
  refine j_put (pc := 7) C d_Mo_pop_7 0 48 wR_o0 rfl (by decide) tw990 pd_I rfl rfl rfl (Nat.le_of_ble_eq_true rfl) (ws' := wR g ar r.1 (va_up r.2.1 13 ((r.2.1 13) - 1)) r.2.2) wR_p0_48 ?_
  refine j_aload_n (pc := 10) C d_Mo_pop_10 rfl 0 rfl ?_
  refine j_get (pc := 11) C d_Mo_pop_11 0 47 wR_o0 rfl (v := .ref (ar 35)) rfl (by decide) tw989 ?_
  refine j_aload_n (pc := 14) C d_Mo_pop_14 rfl 0 rfl ?_
  refine j_get (pc := 15) C d_Mo_pop_15 0 48 wR_o0 rfl (v := .int ((r.2.1 13) - 1)) rfl (by decide) tw990 ?_
  obtain ⟨b1, hf⟩ := og hf
  refine j_iald (pc := 18) C d_Mo_pop_18 35 (inb_in b1) (x := r.1 35 ((r.2.1 13) - 1).toNatClampNeg) wR_a35 rfl ?_
  cases hf
  exact j_iret (pc := 19) C d_Mo_pop_19 ⟨rfl, rfl⟩ (Nat.le_of_ble_eq_true rfl) (Nat.le_of_ble_eq_true rfl)
abbrev rm_Mo_push : Room := { frames := 0, cells := 0, slots := 0, locals := 0 }
theorem cv_Mo_push : CV y_Mo_push b_Mo_push 2 none 1 := ⟨⟨tw1352, tw10, by decide +kernel⟩, tw1351, (sw_ (q := (y_Mo_push, 54)) (by decide +kernel) (by decide +kernel))⟩
set_option maxHeartbeats 4000000 in
set_option maxRecDepth 100000 in
theorem c_Mo_push {g : GT} {ar : Nat → Nat} {a1 : Int32} {r : RS} {q : RS} (hf : f_Mo_push a1 r = some q) : MV g y_Mo_push b_Mo_push 2 none rm_Mo_push [.ref (ar 0), .int a1] (wR g ar r.1 r.2.1 r.2.2) (wR g ar q.1 q.2.1 q.2.2) := by
  refine MV.of (by decide) (Nat.le_of_ble_eq_true rfl) (fun 𝒥 C => ?_)
  unfold f_Mo_push at hf
  change 𝒥 0 0 (wR g ar r.1 r.2.1 r.2.2) [(0, .ref (ar 0)), (1, .int a1)] [] 0
  refine j_aload_n (pc := 0) C d_Mo_push_0 rfl 0 rfl ?_
  refine j_get (pc := 1) C d_Mo_push_1 0 47 wR_o0 rfl (v := .ref (ar 35)) rfl (by decide) tw989 ?_
  refine j_aload_n (pc := 4) C d_Mo_push_4 rfl 0 rfl ?_
  refine j_get (pc := 5) C d_Mo_push_5 0 48 wR_o0 rfl (v := .int (r.2.1 13)) rfl (by decide) tw990 ?_
  refine j_iload_n (pc := 8) C d_Mo_push_8 rfl 1 rfl ?_
  obtain ⟨b1, hf⟩ := og hf
  refine j_iast (pc := 9) C d_Mo_push_9 35 (inb_in b1) wR_a35 (ws' := wR g ar (va_up r.1 35 (upd (r.1 35) (r.2.1 13).toNatClampNeg a1)) r.2.1 r.2.2) wR_s35 ?_
  refine j_aload_n (pc := 10) C d_Mo_push_10 rfl 0 rfl ?_
  refine j_dup (pc := 11) C d_Mo_push_11 rfl ?_
  refine j_get (pc := 12) C d_Mo_push_12 0 48 wR_o0 rfl (v := .int (r.2.1 13)) rfl (by decide) tw990 ?_
  refine j_iconst (pc := 15) C d_Mo_push_15 ck_1 ?_
  refine j_iadd (pc := 16) C d_Mo_push_16 ?_
  refine j_put (pc := 17) C d_Mo_push_17 0 48 wR_o0 rfl (by decide) tw990 pd_I rfl rfl rfl (Nat.le_of_ble_eq_true rfl) (ws' := wR g ar (va_up r.1 35 (upd (r.1 35) (r.2.1 13).toNatClampNeg a1)) (va_up r.2.1 13 ((r.2.1 13) + 1)) r.2.2) wR_p0_48 ?_
  cases hf
  exact j_vret (pc := 20) C d_Mo_push_20 ⟨rfl, rfl⟩ (Nat.le_of_ble_eq_true rfl) (Nat.le_of_ble_eq_true rfl)
abbrev rm_Mo_counts : Room := { frames := 0, cells := 0, slots := 0, locals := 0 }
theorem cv_Mo_counts : CV y_Mo_counts b_Mo_counts 2 (some .int) 1 := ⟨⟨tw1372, tw10, by decide +kernel⟩, tw1371, (sw_ (q := (y_Mo_counts, 54)) (by decide +kernel) (by decide +kernel))⟩
set_option maxHeartbeats 4000000 in
set_option maxRecDepth 100000 in
theorem c_Mo_counts {g : GT} {ar : Nat → Nat} {a1 : Int32} {r : RS} {q : Int32 × RS} (hf : f_Mo_counts a1 r = some q) : MI g y_Mo_counts b_Mo_counts 2 (some .int) rm_Mo_counts [.ref (ar 0), .int a1] (wR g ar r.1 r.2.1 r.2.2) q.1 (wR g ar q.2.1 q.2.2.1 q.2.2.2) := by
  refine MI.of (by decide) (Nat.le_of_ble_eq_true rfl) (fun 𝒥 C => ?_)
  unfold f_Mo_counts at hf
  change 𝒥 0 0 (wR g ar r.1 r.2.1 r.2.2) [(0, .ref (ar 0)), (1, .int a1)] [] 0
  refine j_iload_n (pc := 0) C d_Mo_counts_0 rfl 1 rfl ?_
  refine j_if_eq (pc := 1) C d_Mo_counts_1 (tgt := 15) rfl (fun h1 => ?_) (fun h1 => ?_)
  · rw [if_pos h1] at hf
    refine j_aload_n (pc := 15) C d_Mo_counts_15 rfl 0 rfl ?_
    refine j_get (pc := 16) C d_Mo_counts_16 0 50 wR_o0 rfl (v := .int (r.2.1 15)) rfl (by decide) tw992 ?_
    refine j_sipush (pc := 19) C d_Mo_counts_19 cs_300 ?_
    refine j_icmp_ne (pc := 22) C d_Mo_counts_22 (tgt := 27) rfl (fun h2 => ?_) (fun h2 => ?_)
    · rw [if_neg h2] at hf
      refine j_aload_n (pc := 27) C d_Mo_counts_27 rfl 0 rfl ?_
      refine j_dup (pc := 28) C d_Mo_counts_28 rfl ?_
      refine j_get (pc := 29) C d_Mo_counts_29 0 50 wR_o0 rfl (v := .int (r.2.1 15)) rfl (by decide) tw992 ?_
      refine j_iconst (pc := 32) C d_Mo_counts_32 ck_1 ?_
      refine j_iadd (pc := 33) C d_Mo_counts_33 ?_
      refine j_put (pc := 34) C d_Mo_counts_34 0 50 wR_o0 rfl (by decide) tw992 pd_I rfl rfl rfl (Nat.le_of_ble_eq_true rfl) (ws' := wR g ar r.1 (va_up r.2.1 15 ((r.2.1 15) + 1)) r.2.2) wR_p0_50 ?_
      refine j_iconst (pc := 37) C d_Mo_counts_37 ck_0 ?_
      cases hf
      exact j_iret (pc := 38) C d_Mo_counts_38 ⟨rfl, rfl⟩ (Nat.le_of_ble_eq_true rfl) (Nat.le_of_ble_eq_true rfl)
    · rw [if_pos h2] at hf
      refine j_iconst (pc := 25) C d_Mo_counts_25 ck_1 ?_
      cases hf
      exact j_iret (pc := 26) C d_Mo_counts_26 ⟨rfl, rfl⟩ (Nat.le_of_ble_eq_true rfl) (Nat.le_of_ble_eq_true rfl)
  · rw [if_neg h1] at hf
    refine j_aload_n (pc := 4) C d_Mo_counts_4 rfl 0 rfl ?_
    refine j_get (pc := 5) C d_Mo_counts_5 0 49 wR_o0 rfl (v := .int (r.2.1 14)) rfl (by decide) tw991 ?_
    refine j_bipush (pc := 8) C d_Mo_counts_8 cb_8 ?_
    refine j_icmp_ne (pc := 10) C d_Mo_counts_10 (tgt := 15) rfl (fun h3 => ?_) (fun h3 => ?_)
    · rw [if_neg h3] at hf
      refine j_aload_n (pc := 15) C d_Mo_counts_15 rfl 0 rfl ?_
      refine j_get (pc := 16) C d_Mo_counts_16 0 50 wR_o0 rfl (v := .int (r.2.1 15)) rfl (by decide) tw992 ?_
      refine j_sipush (pc := 19) C d_Mo_counts_19 cs_300 ?_
      refine j_icmp_ne (pc := 22) C d_Mo_counts_22 (tgt := 27) rfl (fun h4 => ?_) (fun h4 => ?_)
      · rw [if_neg h4] at hf
        refine j_aload_n (pc := 27) C d_Mo_counts_27 rfl 0 rfl ?_
        refine j_dup (pc := 28) C d_Mo_counts_28 rfl ?_
        refine j_get (pc := 29) C d_Mo_counts_29 0 50 wR_o0 rfl (v := .int (r.2.1 15)) rfl (by decide) tw992 ?_
        refine j_iconst (pc := 32) C d_Mo_counts_32 ck_1 ?_
        refine j_iadd (pc := 33) C d_Mo_counts_33 ?_
        refine j_put (pc := 34) C d_Mo_counts_34 0 50 wR_o0 rfl (by decide) tw992 pd_I rfl rfl rfl (Nat.le_of_ble_eq_true rfl) (ws' := wR g ar r.1 (va_up r.2.1 15 ((r.2.1 15) + 1)) r.2.2) wR_p0_50 ?_
        refine j_iconst (pc := 37) C d_Mo_counts_37 ck_0 ?_
        cases hf
        exact j_iret (pc := 38) C d_Mo_counts_38 ⟨rfl, rfl⟩ (Nat.le_of_ble_eq_true rfl) (Nat.le_of_ble_eq_true rfl)
      · rw [if_pos h4] at hf
        refine j_iconst (pc := 25) C d_Mo_counts_25 ck_1 ?_
        cases hf
        exact j_iret (pc := 26) C d_Mo_counts_26 ⟨rfl, rfl⟩ (Nat.le_of_ble_eq_true rfl) (Nat.le_of_ble_eq_true rfl)
    · rw [if_pos h3] at hf
      refine j_iconst (pc := 13) C d_Mo_counts_13 ck_2 ?_
      cases hf
      exact j_iret (pc := 14) C d_Mo_counts_14 ⟨rfl, rfl⟩ (Nat.le_of_ble_eq_true rfl) (Nat.le_of_ble_eq_true rfl)
abbrev rm_Mo_reckon : Room := { frames := 1, cells := 0, slots := 0, locals := 21 }
theorem cv_Mo_reckon : CV y_Mo_reckon b_Mo_reckon 4 none 1 := ⟨⟨tw1368, tw10, by decide +kernel⟩, tw1367, (sw_ (q := (y_Mo_reckon, 54)) (by decide +kernel) (by decide +kernel))⟩
set_option maxHeartbeats 4000000 in
set_option maxRecDepth 100000 in
theorem c_Mo_reckon {g : GT} {ar : Nat → Nat} {a1 : Int32} {r : RS} {q : RS} (hf : f_Mo_reckon a1 r = some q) : MV g y_Mo_reckon b_Mo_reckon 4 none rm_Mo_reckon [.ref (ar 0), .int a1] (wR g ar r.1 r.2.1 r.2.2) (wR g ar q.1 q.2.1 q.2.2) := by
  refine MV.of (by decide) (Nat.le_of_ble_eq_true rfl) (fun 𝒥 C => ?_)
  unfold f_Mo_reckon at hf
  change 𝒥 0 0 (wR g ar r.1 r.2.1 r.2.2) [(0, .ref (ar 0)), (1, .int a1)] [] 0
  refine j_aload_n (pc := 0) C d_Mo_reckon_0 rfl 0 rfl ?_
  obtain ⟨q1, eq1, hf⟩ := ob hf
  refine j_callVi (pc := 1) C (rest := []) d_Mo_reckon_1 (c_Mo_pop (g := g) (ar := ar) eq1) cv_Mo_pop tw1361 0 rfl rfl cut_same rfl rfl (Nat.le_of_ble_eq_true rfl) (kc2 := 0) (ks2 := 0) (by decide) ?_
  refine j_istore_n (pc := 4) C d_Mo_reckon_4 rfl [1, 2, 0] (by decide) (lc' := [(0, .ref (ar 0)), (1, .int a1), (2, .int q1.1)]) rfl ?_
  refine j_aload_n (pc := 5) C d_Mo_reckon_5 rfl 0 rfl ?_
  obtain ⟨q2, eq2, hf⟩ := ob hf
  refine j_callVi (pc := 6) C (rest := []) d_Mo_reckon_6 (c_Mo_pop (g := g) (ar := ar) eq2) cv_Mo_pop tw1361 0 rfl rfl cut_same rfl rfl (Nat.le_of_ble_eq_true rfl) (kc2 := 0) (ks2 := 0) (by decide) ?_
  refine j_istore_n (pc := 9) C d_Mo_reckon_9 rfl [1, 2, 3, 0] (by decide) (lc' := [(0, .ref (ar 0)), (1, .int a1), (2, .int q1.1), (3, .int q2.1)]) rfl ?_
  refine j_aload_n (pc := 10) C d_Mo_reckon_10 rfl 0 rfl ?_
  refine j_iload_n (pc := 11) C d_Mo_reckon_11 rfl 1 rfl ?_
  refine j_bipush (pc := 12) C d_Mo_reckon_12 cb_43 ?_
  refine j_icmp_ne (pc := 14) C d_Mo_reckon_14 (tgt := 23) rfl (fun h3 => ?_) (fun h3 => ?_)
  · rw [if_neg h3] at hf
    refine j_iload_n (pc := 23) C d_Mo_reckon_23 rfl 1 rfl ?_
    refine j_bipush (pc := 24) C d_Mo_reckon_24 cb_45 ?_
    refine j_icmp_ne (pc := 26) C d_Mo_reckon_26 (tgt := 35) rfl (fun h4 => ?_) (fun h4 => ?_)
    · rw [if_neg h4] at hf
      refine j_iload_n (pc := 35) C d_Mo_reckon_35 rfl 1 rfl ?_
      refine j_bipush (pc := 36) C d_Mo_reckon_36 cb_42 ?_
      refine j_icmp_ne (pc := 38) C d_Mo_reckon_38 (tgt := 47) rfl (fun h5 => ?_) (fun h5 => ?_)
      · rw [if_neg h5] at hf
        refine j_iload_n (pc := 47) C d_Mo_reckon_47 rfl 3 rfl ?_
        refine j_iload_n (pc := 48) C d_Mo_reckon_48 rfl 2 rfl ?_
        refine j_icmp_ge (pc := 49) C d_Mo_reckon_49 (tgt := 56) rfl (fun h6 => ?_) (fun h6 => ?_)
        · rw [if_pos h6] at hf
          refine j_iconst (pc := 56) C d_Mo_reckon_56 ck_0 ?_
          obtain ⟨q7, eq7, hf⟩ := ob hf
          refine j_callVv (pc := 57) C (rest := []) d_Mo_reckon_57 (c_Mo_push (g := g) (ar := ar) eq7) cv_Mo_push tw1349 0 rfl rfl cut_same rfl rfl (Nat.le_of_ble_eq_true rfl) (kc2 := 0) (ks2 := 0) (by decide) ?_
          cases hf
          exact j_vret (pc := 60) C d_Mo_reckon_60 ⟨rfl, rfl⟩ (Nat.le_of_ble_eq_true rfl) (Nat.le_of_ble_eq_true rfl)
        · rw [if_neg h6] at hf
          refine j_iconst (pc := 52) C d_Mo_reckon_52 ck_1 ?_
          refine j_goto (pc := 53) C d_Mo_reckon_53 (tgt := 57) rfl ?_
          obtain ⟨q8, eq8, hf⟩ := ob hf
          refine j_callVv (pc := 57) C (rest := []) d_Mo_reckon_57 (c_Mo_push (g := g) (ar := ar) eq8) cv_Mo_push tw1349 0 rfl rfl cut_same rfl rfl (Nat.le_of_ble_eq_true rfl) (kc2 := 0) (ks2 := 0) (by decide) ?_
          cases hf
          exact j_vret (pc := 60) C d_Mo_reckon_60 ⟨rfl, rfl⟩ (Nat.le_of_ble_eq_true rfl) (Nat.le_of_ble_eq_true rfl)
      · rw [if_pos h5] at hf
        refine j_iload_n (pc := 41) C d_Mo_reckon_41 rfl 3 rfl ?_
        refine j_iload_n (pc := 42) C d_Mo_reckon_42 rfl 2 rfl ?_
        refine j_imul (pc := 43) C d_Mo_reckon_43 ?_
        refine j_goto (pc := 44) C d_Mo_reckon_44 (tgt := 57) rfl ?_
        obtain ⟨q9, eq9, hf⟩ := ob hf
        refine j_callVv (pc := 57) C (rest := []) d_Mo_reckon_57 (c_Mo_push (g := g) (ar := ar) eq9) cv_Mo_push tw1349 0 rfl rfl cut_same rfl rfl (Nat.le_of_ble_eq_true rfl) (kc2 := 0) (ks2 := 0) (by decide) ?_
        cases hf
        exact j_vret (pc := 60) C d_Mo_reckon_60 ⟨rfl, rfl⟩ (Nat.le_of_ble_eq_true rfl) (Nat.le_of_ble_eq_true rfl)
    · rw [if_pos h4] at hf
      refine j_iload_n (pc := 29) C d_Mo_reckon_29 rfl 3 rfl ?_
      refine j_iload_n (pc := 30) C d_Mo_reckon_30 rfl 2 rfl ?_
      refine j_isub (pc := 31) C d_Mo_reckon_31 ?_
      refine j_goto (pc := 32) C d_Mo_reckon_32 (tgt := 57) rfl ?_
      obtain ⟨q10, eq10, hf⟩ := ob hf
      refine j_callVv (pc := 57) C (rest := []) d_Mo_reckon_57 (c_Mo_push (g := g) (ar := ar) eq10) cv_Mo_push tw1349 0 rfl rfl cut_same rfl rfl (Nat.le_of_ble_eq_true rfl) (kc2 := 0) (ks2 := 0) (by decide) ?_
      cases hf
      exact j_vret (pc := 60) C d_Mo_reckon_60 ⟨rfl, rfl⟩ (Nat.le_of_ble_eq_true rfl) (Nat.le_of_ble_eq_true rfl)
  · rw [if_pos h3] at hf
    refine j_iload_n (pc := 17) C d_Mo_reckon_17 rfl 3 rfl ?_
    refine j_iload_n (pc := 18) C d_Mo_reckon_18 rfl 2 rfl ?_
    refine j_iadd (pc := 19) C d_Mo_reckon_19 ?_
    refine j_goto (pc := 20) C d_Mo_reckon_20 (tgt := 57) rfl ?_
    obtain ⟨q11, eq11, hf⟩ := ob hf
    refine j_callVv (pc := 57) C (rest := []) d_Mo_reckon_57 (c_Mo_push (g := g) (ar := ar) eq11) cv_Mo_push tw1349 0 rfl rfl cut_same rfl rfl (Nat.le_of_ble_eq_true rfl) (kc2 := 0) (ks2 := 0) (by decide) ?_
    cases hf
    exact j_vret (pc := 60) C d_Mo_reckon_60 ⟨rfl, rfl⟩ (Nat.le_of_ble_eq_true rfl) (Nat.le_of_ble_eq_true rfl)
abbrev rm_Mo_uncounted : Room := { frames := 1, cells := 0, slots := 0, locals := 20 }
theorem cv_Mo_uncounted : CV y_Mo_uncounted b_Mo_uncounted 4 (some .int) 2 := ⟨⟨tw1360, tw10, by decide +kernel⟩, tw1359, (sw_ (q := (y_Mo_uncounted, 54)) (by decide +kernel) (by decide +kernel))⟩
set_option maxHeartbeats 4000000 in
set_option maxRecDepth 100000 in
theorem c_Mo_uncounted {g : GT} {ar : Nat → Nat} {a1 : Int32} {a2 : Int32} {r : RS} {q : Int32 × RS} (hf : f_Mo_uncounted a1 a2 r = some q) : MI g y_Mo_uncounted b_Mo_uncounted 4 (some .int) rm_Mo_uncounted [.ref (ar 0), .int a1, .int a2] (wR g ar r.1 r.2.1 r.2.2) q.1 (wR g ar q.2.1 q.2.2.1 q.2.2.2) := by
  refine MI.of (by decide) (Nat.le_of_ble_eq_true rfl) (fun 𝒥 C => ?_)
  have L19 : ∀ (n : Nat) (x : Int32 × Int32 × Int32 × RS), lpN (BMo_uncounted_19) n x = some q → 𝒥 0 0 (wR g ar x.2.2.2.1 x.2.2.2.2.1 x.2.2.2.2.2) [(0, .ref (ar 0)), (1, .int x.1), (2, .int x.2.1), (3, .int x.2.2.1)] [] 19 := by
    refine lp_ind (fun k19 k19_ih x hf => ?_)
    unfold BMo_uncounted_19 at hf
    refine j_iload_n (pc := 19) C d_Mo_uncounted_19 rfl 3 rfl ?_
    refine j_if_lt (pc := 20) C d_Mo_uncounted_20 (tgt := 47) rfl (fun h3 => ?_) (fun h3 => ?_)
    · rw [if_pos h3] at hf
      refine j_aload_n (pc := 47) C d_Mo_uncounted_47 rfl 0 rfl ?_
      refine j_dup (pc := 48) C d_Mo_uncounted_48 rfl ?_
      refine j_get (pc := 49) C d_Mo_uncounted_49 0 49 wR_o0 rfl (v := .int (x.2.2.2.2.1 14)) rfl (by decide) tw991 ?_
      refine j_iconst (pc := 52) C d_Mo_uncounted_52 ck_1 ?_
      refine j_iadd (pc := 53) C d_Mo_uncounted_53 ?_
      refine j_put (pc := 54) C d_Mo_uncounted_54 0 49 wR_o0 rfl (by decide) tw991 pd_I rfl rfl rfl (Nat.le_of_ble_eq_true rfl) (ws' := wR g ar x.2.2.2.1 (va_up x.2.2.2.2.1 14 ((x.2.2.2.2.1 14) + 1)) x.2.2.2.2.2) wR_p0_49 ?_
      refine j_aload_n (pc := 57) C d_Mo_uncounted_57 rfl 0 rfl ?_
      refine j_get (pc := 58) C d_Mo_uncounted_58 0 37 wR_o0 rfl (v := .ref (ar 26)) rfl (by decide) tw979 ?_
      refine j_iload_n (pc := 61) C d_Mo_uncounted_61 rfl 1 rfl ?_
      obtain ⟨b4, hf⟩ := og hf
      refine j_iald (pc := 62) C d_Mo_uncounted_62 26 (inb_in b4) (x := x.2.2.2.1 26 x.1.toNatClampNeg) wR_a26 rfl ?_
      cases hf
      exact j_iret (pc := 63) C d_Mo_uncounted_63 ⟨rfl, rfl⟩ (Nat.le_of_ble_eq_true rfl) (Nat.le_of_ble_eq_true rfl)
    · rw [if_neg h3] at hf
      refine j_aload_n (pc := 23) C d_Mo_uncounted_23 rfl 0 rfl ?_
      refine j_get (pc := 24) C d_Mo_uncounted_24 0 45 wR_o0 rfl (v := .ref (ar 33)) rfl (by decide) tw987 ?_
      refine j_bipush (pc := 27) C d_Mo_uncounted_27 cb_96 ?_
      refine j_aload_n (pc := 29) C d_Mo_uncounted_29 rfl 0 rfl ?_
      refine j_get (pc := 30) C d_Mo_uncounted_30 0 49 wR_o0 rfl (v := .int (x.2.2.2.2.1 14)) rfl (by decide) tw991 ?_
      refine j_imul (pc := 33) C d_Mo_uncounted_33 ?_
      refine j_iload_n (pc := 34) C d_Mo_uncounted_34 rfl 3 rfl ?_
      refine j_iadd (pc := 35) C d_Mo_uncounted_35 ?_
      refine j_aload_n (pc := 36) C d_Mo_uncounted_36 rfl 0 rfl ?_
      obtain ⟨q5, eq5, hf⟩ := ob hf
      refine j_callVi (pc := 37) C (rest := [.int ((96 * (x.2.2.2.2.1 14)) + x.2.2.1), .ref (ar 33)]) d_Mo_uncounted_37 (c_Mo_pop (g := g) (ar := ar) eq5) cv_Mo_pop tw1361 0 rfl rfl cut_same rfl rfl (Nat.le_of_ble_eq_true rfl) (kc2 := 0) (ks2 := 0) (by decide) ?_
      obtain ⟨b6, hf⟩ := og hf
      refine j_iast (pc := 40) C d_Mo_uncounted_40 33 (inb_in b6) wR_a33 (ws' := wR g ar (va_up q5.2.1 33 (upd (q5.2.1 33) ((96 * (x.2.2.2.2.1 14)) + x.2.2.1).toNatClampNeg q5.1)) q5.2.2.1 q5.2.2.2) wR_s33 ?_
      refine j_iinc (pc := 41) C d_Mo_uncounted_41 3 rfl (v := x.2.2.1 - 1) id_m1 [1, 2, 3, 0] (by decide) (lc' := [(0, .ref (ar 0)), (1, .int x.1), (2, .int x.2.1), (3, .int (x.2.2.1 - 1))]) rfl ?_
      refine j_goto (pc := 44) C d_Mo_uncounted_44 (tgt := 19) rfl ?_
      exact k19_ih (x.1, x.2.1, x.2.2.1 - 1, ((va_up q5.2.1 33 (upd (q5.2.1 33) ((96 * (x.2.2.2.2.1 14)) + x.2.2.1).toNatClampNeg q5.1)), q5.2.2.1, q5.2.2.2)) hf
  unfold f_Mo_uncounted at hf
  change 𝒥 0 0 (wR g ar r.1 r.2.1 r.2.2) [(0, .ref (ar 0)), (1, .int a1), (2, .int a2)] [] 0
  refine j_aload_n (pc := 0) C d_Mo_uncounted_0 rfl 0 rfl ?_
  refine j_get (pc := 1) C d_Mo_uncounted_1 0 46 wR_o0 rfl (v := .ref (ar 34)) rfl (by decide) tw988 ?_
  refine j_aload_n (pc := 4) C d_Mo_uncounted_4 rfl 0 rfl ?_
  refine j_get (pc := 5) C d_Mo_uncounted_5 0 49 wR_o0 rfl (v := .int (r.2.1 14)) rfl (by decide) tw991 ?_
  refine j_iload_n (pc := 8) C d_Mo_uncounted_8 rfl 2 rfl ?_
  obtain ⟨b1, hf⟩ := og hf
  refine j_iast (pc := 9) C d_Mo_uncounted_9 34 (inb_in b1) wR_a34 (ws' := wR g ar (va_up r.1 34 (upd (r.1 34) (r.2.1 14).toNatClampNeg a2)) r.2.1 r.2.2) wR_s34 ?_
  refine j_aload_n (pc := 10) C d_Mo_uncounted_10 rfl 0 rfl ?_
  refine j_get (pc := 11) C d_Mo_uncounted_11 0 23 wR_o0 rfl (v := .ref (ar 19)) rfl (by decide) tw965 ?_
  refine j_iload_n (pc := 14) C d_Mo_uncounted_14 rfl 1 rfl ?_
  obtain ⟨b2, hf⟩ := og hf
  refine j_iald (pc := 15) C d_Mo_uncounted_15 19 (inb_in b2) (x := r.1 19 a1.toNatClampNeg) wR_a19 rfl ?_
  refine j_iconst (pc := 16) C d_Mo_uncounted_16 ck_1 ?_
  refine j_isub (pc := 17) C d_Mo_uncounted_17 ?_
  refine j_istore_n (pc := 18) C d_Mo_uncounted_18 rfl [1, 2, 3, 0] (by decide) (lc' := [(0, .ref (ar 0)), (1, .int a1), (2, .int a2), (3, .int ((r.1 19 a1.toNatClampNeg) - 1))]) rfl ?_
  exact L19 100000 (a1, a2, (r.1 19 a1.toNatClampNeg) - 1, ((va_up r.1 34 (upd (r.1 34) (r.2.1 14).toNatClampNeg a2)), r.2.1, r.2.2)) hf
abbrev rm_Mo_enter : Room := { frames := 2, cells := 0, slots := 0, locals := 43 }
theorem cv_Mo_enter : CV y_Mo_enter b_Mo_enter 3 (some .int) 2 := ⟨⟨tw1356, tw10, by decide +kernel⟩, tw1355, (sw_ (q := (y_Mo_enter, 54)) (by decide +kernel) (by decide +kernel))⟩
set_option maxHeartbeats 4000000 in
set_option maxRecDepth 100000 in
theorem c_Mo_enter {g : GT} {ar : Nat → Nat} {a1 : Int32} {a2 : Int32} {r : RS} {q : Int32 × RS} (hf : f_Mo_enter a1 a2 r = some q) : MI g y_Mo_enter b_Mo_enter 3 (some .int) rm_Mo_enter [.ref (ar 0), .int a1, .int a2] (wR g ar r.1 r.2.1 r.2.2) q.1 (wR g ar q.2.1 q.2.2.1 q.2.2.2) := by
  refine MI.of (by decide) (Nat.le_of_ble_eq_true rfl) (fun 𝒥 C => ?_)
  unfold f_Mo_enter at hf
  change 𝒥 0 0 (wR g ar r.1 r.2.1 r.2.2) [(0, .ref (ar 0)), (1, .int a1), (2, .int a2)] [] 0
  refine j_aload_n (pc := 0) C d_Mo_enter_0 rfl 0 rfl ?_
  refine j_iconst (pc := 1) C d_Mo_enter_1 ck_1 ?_
  refine j_put (pc := 2) C d_Mo_enter_2 0 50 wR_o0 rfl (by decide) tw992 pd_I rfl rfl rfl (Nat.le_of_ble_eq_true rfl) (ws' := wR g ar r.1 (va_up r.2.1 15 1) r.2.2) wR_p0_50 ?_
  refine j_aload_n (pc := 5) C d_Mo_enter_5 rfl 0 rfl ?_
  refine j_iload_n (pc := 6) C d_Mo_enter_6 rfl 1 rfl ?_
  refine j_iload_n (pc := 7) C d_Mo_enter_7 rfl 2 rfl ?_
  obtain ⟨q1, eq1, hf⟩ := ob hf
  refine j_callVi (pc := 8) C (rest := []) d_Mo_enter_8 (c_Mo_uncounted (g := g) (ar := ar) eq1) cv_Mo_uncounted tw1357 0 rfl rfl cut_same rfl rfl (Nat.le_of_ble_eq_true rfl) (kc2 := 0) (ks2 := 0) (by decide) ?_
  cases hf
  exact j_iret (pc := 11) C d_Mo_enter_11 ⟨rfl, rfl⟩ (Nat.le_of_ble_eq_true rfl) (Nat.le_of_ble_eq_true rfl)
abbrev rm_Mo_execute : Room := { frames := 3, cells := 0, slots := 0, locals := 65 }
theorem cv_Mo_execute : CV y_Mo_execute b_Mo_execute 7 (some .int) 2 := ⟨⟨tw1348, tw10, by decide +kernel⟩, tw1347, (sw_ (q := (y_Mo_execute, 54)) (by decide +kernel) (by decide +kernel))⟩
set_option maxHeartbeats 4000000 in
set_option maxRecDepth 100000 in
theorem c_Mo_execute {g : GT} {ar : Nat → Nat} {a1 : Int32} {a2 : Int32} {r : RS} {q : Int32 × RS} (hf : f_Mo_execute a1 a2 r = some q) : MI g y_Mo_execute b_Mo_execute 7 (some .int) rm_Mo_execute [.ref (ar 0), .int a1, .int a2] (wR g ar r.1 r.2.1 r.2.2) q.1 (wR g ar q.2.1 q.2.2.1 q.2.2.2) := by
  refine MI.of (by decide) (Nat.le_of_ble_eq_true rfl) (fun 𝒥 C => ?_)
  have L74 : ∀ (n : Nat) (x : Int32 × Int32 × Int32 × RS), lpN (BMo_execute_74) n x = some q → 𝒥 0 0 (wR g ar x.2.2.2.1 x.2.2.2.2.1 x.2.2.2.2.2) [(0, .ref (ar 0)), (1, .int x.1), (2, .int x.2.1), (3, .int x.2.2.1)] [] 74 := by
    refine lp_ind (fun k74 k74_ih x hf => ?_)
    unfold BMo_execute_74 at hf
    refine j_iload_n (pc := 74) C d_Mo_execute_74 rfl 3 rfl ?_
    refine j_if_lt (pc := 75) C d_Mo_execute_75 (tgt := 344) rfl (fun h7 => ?_) (fun h7 => ?_)
    · rw [if_pos h7] at hf
      refine j_aload_n (pc := 344) C d_Mo_execute_344 rfl 0 rfl ?_
      refine j_aload_n (pc := 345) C d_Mo_execute_345 rfl 0 rfl ?_
      obtain ⟨q8, eq8, hf⟩ := ob hf
      refine j_callVi (pc := 346) C (rest := [.ref (ar 0)]) d_Mo_execute_346 (c_Mo_pop (g := g) (ar := ar) eq8) cv_Mo_pop tw1361 0 rfl rfl cut_same rfl rfl (Nat.le_of_ble_eq_true rfl) (kc2 := 0) (ks2 := 0) (by decide) ?_
      refine j_put (pc := 349) C d_Mo_execute_349 0 53 wR_o0 rfl (by decide) tw995 pd_I rfl rfl rfl (Nat.le_of_ble_eq_true rfl) (ws' := wR g ar q8.2.1 (va_up q8.2.2.1 17 q8.1) q8.2.2.2) wR_p0_53 ?_
      refine j_iconst (pc := 352) C d_Mo_execute_352 ck_0 ?_
      cases hf
      exact j_iret (pc := 353) C d_Mo_execute_353 ⟨rfl, rfl⟩ (Nat.le_of_ble_eq_true rfl) (Nat.le_of_ble_eq_true rfl)
    · rw [if_neg h7] at hf
      refine j_aload_n (pc := 78) C d_Mo_execute_78 rfl 0 rfl ?_
      refine j_get (pc := 79) C d_Mo_execute_79 0 35 wR_o0 rfl (v := .ref (ar 24)) rfl (by decide) tw977 ?_
      refine j_iload_n (pc := 82) C d_Mo_execute_82 rfl 3 rfl ?_
      obtain ⟨b9, hf⟩ := og hf
      refine j_iald (pc := 83) C d_Mo_execute_83 24 (inb_in b9) (x := x.2.2.2.1 24 x.2.2.1.toNatClampNeg) wR_a24 rfl ?_
      refine j_istore (pc := 84) C d_Mo_execute_84 [1, 2, 3, 4, 0] (by decide) (lc' := [(0, .ref (ar 0)), (1, .int x.1), (2, .int x.2.1), (3, .int x.2.2.1), (4, .int (x.2.2.2.1 24 x.2.2.1.toNatClampNeg))]) rfl ?_
      refine j_aload_n (pc := 86) C d_Mo_execute_86 rfl 0 rfl ?_
      refine j_get (pc := 87) C d_Mo_execute_87 0 36 wR_o0 rfl (v := .ref (ar 25)) rfl (by decide) tw978 ?_
      refine j_iload_n (pc := 90) C d_Mo_execute_90 rfl 3 rfl ?_
      obtain ⟨b10, hf⟩ := og hf
      refine j_iald (pc := 91) C d_Mo_execute_91 25 (inb_in b10) (x := x.2.2.2.1 25 x.2.2.1.toNatClampNeg) wR_a25 rfl ?_
      refine j_istore (pc := 92) C d_Mo_execute_92 [1, 2, 3, 4, 5, 0] (by decide) (lc' := [(0, .ref (ar 0)), (1, .int x.1), (2, .int x.2.1), (3, .int x.2.2.1), (4, .int (x.2.2.2.1 24 x.2.2.1.toNatClampNeg)), (5, .int (x.2.2.2.1 25 x.2.2.1.toNatClampNeg))]) rfl ?_
      refine j_iinc (pc := 94) C d_Mo_execute_94 3 rfl (v := x.2.2.1 + 1) (iv ci_1) [1, 2, 3, 0, 4, 5] (by decide) (lc' := [(0, .ref (ar 0)), (1, .int x.1), (2, .int x.2.1), (3, .int (x.2.2.1 + 1)), (4, .int (x.2.2.2.1 24 x.2.2.1.toNatClampNeg)), (5, .int (x.2.2.2.1 25 x.2.2.1.toNatClampNeg))]) rfl ?_
      refine j_iload (pc := 97) C d_Mo_execute_97 4 rfl ?_
      refine j_bipush (pc := 99) C d_Mo_execute_99 cb_100 ?_
      refine j_icmp_lt (pc := 101) C d_Mo_execute_101 (tgt := 116) rfl (fun h11 => ?_) (fun h11 => ?_)
      · rw [if_pos h11] at hf
        refine j_iload (pc := 116) C d_Mo_execute_116 4 rfl ?_
        refine j_if_ne (pc := 118) C d_Mo_execute_118 (tgt := 130) rfl (fun h12 => ?_) (fun h12 => ?_)
        · rw [if_neg h12] at hf
          refine j_iload (pc := 130) C d_Mo_execute_130 4 rfl ?_
          refine j_iconst (pc := 132) C d_Mo_execute_132 ck_1 ?_
          refine j_icmp_ne (pc := 133) C d_Mo_execute_133 (tgt := 160) rfl (fun h13 => ?_) (fun h13 => ?_)
          · rw [if_neg h13] at hf
            refine j_iload (pc := 160) C d_Mo_execute_160 4 rfl ?_
            refine j_iconst (pc := 162) C d_Mo_execute_162 ck_2 ?_
            refine j_icmp_ne (pc := 163) C d_Mo_execute_163 (tgt := 190) rfl (fun h14 => ?_) (fun h14 => ?_)
            · rw [if_neg h14] at hf
              refine j_iload (pc := 190) C d_Mo_execute_190 4 rfl ?_
              refine j_iconst (pc := 192) C d_Mo_execute_192 ck_3 ?_
              refine j_icmp_ne (pc := 193) C d_Mo_execute_193 (tgt := 235) rfl (fun h15 => ?_) (fun h15 => ?_)
              · rw [if_neg h15] at hf
                refine j_iload (pc := 235) C d_Mo_execute_235 4 rfl ?_
                refine j_iconst (pc := 237) C d_Mo_execute_237 ck_4 ?_
                refine j_icmp_ne (pc := 238) C d_Mo_execute_238 (tgt := 264) rfl (fun h16 => ?_) (fun h16 => ?_)
                · rw [if_neg h16] at hf
                  refine j_iload (pc := 264) C d_Mo_execute_264 4 rfl ?_
                  refine j_bipush (pc := 266) C d_Mo_execute_266 cb_6 ?_
                  refine j_icmp_ne (pc := 268) C d_Mo_execute_268 (tgt := 277) rfl (fun h17 => ?_) (fun h17 => ?_)
                  · rw [if_neg h17] at hf
                    refine j_iload (pc := 277) C d_Mo_execute_277 4 rfl ?_
                    refine j_iconst (pc := 279) C d_Mo_execute_279 ck_5 ?_
                    refine j_icmp_ne (pc := 280) C d_Mo_execute_280 (tgt := 300) rfl (fun h18 => ?_) (fun h18 => ?_)
                    · rw [if_neg h18] at hf
                      refine j_aload_n (pc := 300) C d_Mo_execute_300 rfl 0 rfl ?_
                      refine j_iload (pc := 301) C d_Mo_execute_301 4 rfl ?_
                      refine j_bipush (pc := 303) C d_Mo_execute_303 cb_7 ?_
                      refine j_icmp_ne (pc := 305) C d_Mo_execute_305 (tgt := 312) rfl (fun h19 => ?_) (fun h19 => ?_)
                      · rw [if_neg h19] at hf
                        refine j_iconst (pc := 312) C d_Mo_execute_312 ck_0 ?_
                        obtain ⟨q20, eq20, hf⟩ := ob hf
                        refine j_callVi (pc := 313) C (rest := []) d_Mo_execute_313 (c_Mo_counts (g := g) (ar := ar) eq20) cv_Mo_counts tw1369 0 rfl rfl cut_same rfl rfl (Nat.le_of_ble_eq_true rfl) (kc2 := 0) (ks2 := 0) (by decide) ?_
                        refine j_istore (pc := 316) C d_Mo_execute_316 [1, 2, 3, 4, 5, 6, 0] (by decide) (lc' := [(0, .ref (ar 0)), (1, .int x.1), (2, .int x.2.1), (3, .int (x.2.2.1 + 1)), (4, .int (x.2.2.2.1 24 x.2.2.1.toNatClampNeg)), (5, .int (x.2.2.2.1 25 x.2.2.1.toNatClampNeg)), (6, .int q20.1)]) rfl ?_
                        refine j_iload (pc := 318) C d_Mo_execute_318 6 rfl ?_
                        refine j_if_le (pc := 320) C d_Mo_execute_320 (tgt := 326) rfl (fun h21 => ?_) (fun h21 => ?_)
                        · rw [if_pos h21] at hf
                          refine j_iload (pc := 326) C d_Mo_execute_326 4 rfl ?_
                          refine j_bipush (pc := 328) C d_Mo_execute_328 cb_7 ?_
                          refine j_icmp_ne (pc := 330) C d_Mo_execute_330 (tgt := 341) rfl (fun h22 => ?_) (fun h22 => ?_)
                          · rw [if_neg h22] at hf
                            refine j_goto (pc := 341) C d_Mo_execute_341 (tgt := 74) rfl ?_
                            refine j_lc C (lc' := [(0, .ref (ar 0)), (1, .int x.1), (2, .int x.2.1), (3, .int (x.2.2.1 + 1))]) [0, 1, 2, 3] rfl ?_
                            exact k74_ih (x.1, x.2.1, x.2.2.1 + 1, q20.2) hf
                          · rw [if_pos h22] at hf
                            refine j_aload_n (pc := 333) C d_Mo_execute_333 rfl 0 rfl ?_
                            refine j_iload (pc := 334) C d_Mo_execute_334 5 rfl ?_
                            refine j_iload_n (pc := 336) C d_Mo_execute_336 rfl 3 rfl ?_
                            obtain ⟨q23, eq23, hf⟩ := ob hf
                            refine j_callVi (pc := 337) C (rest := []) d_Mo_execute_337 (c_Mo_uncounted (g := g) (ar := ar) eq23) cv_Mo_uncounted tw1357 0 rfl rfl cut_same rfl rfl (Nat.le_of_ble_eq_true rfl) (kc2 := 0) (ks2 := 0) (by decide) ?_
                            refine j_istore_n (pc := 340) C d_Mo_execute_340 rfl [1, 2, 3, 0, 4, 5, 6] (by decide) (lc' := [(0, .ref (ar 0)), (1, .int x.1), (2, .int x.2.1), (3, .int q23.1), (4, .int (x.2.2.2.1 24 x.2.2.1.toNatClampNeg)), (5, .int (x.2.2.2.1 25 x.2.2.1.toNatClampNeg)), (6, .int q20.1)]) rfl ?_
                            refine j_goto (pc := 341) C d_Mo_execute_341 (tgt := 74) rfl ?_
                            refine j_lc C (lc' := [(0, .ref (ar 0)), (1, .int x.1), (2, .int x.2.1), (3, .int q23.1)]) [0, 1, 2, 3] rfl ?_
                            exact k74_ih (x.1, x.2.1, q23.1, q23.2) hf
                        · rw [if_neg h21] at hf
                          refine j_iload (pc := 323) C d_Mo_execute_323 6 rfl ?_
                          cases hf
                          exact j_iret (pc := 325) C d_Mo_execute_325 ⟨rfl, rfl⟩ (Nat.le_of_ble_eq_true rfl) (Nat.le_of_ble_eq_true rfl)
                      · rw [if_pos h19] at hf
                        refine j_iconst (pc := 308) C d_Mo_execute_308 ck_1 ?_
                        refine j_goto (pc := 309) C d_Mo_execute_309 (tgt := 313) rfl ?_
                        obtain ⟨q24, eq24, hf⟩ := ob hf
                        refine j_callVi (pc := 313) C (rest := []) d_Mo_execute_313 (c_Mo_counts (g := g) (ar := ar) eq24) cv_Mo_counts tw1369 0 rfl rfl cut_same rfl rfl (Nat.le_of_ble_eq_true rfl) (kc2 := 0) (ks2 := 0) (by decide) ?_
                        refine j_istore (pc := 316) C d_Mo_execute_316 [1, 2, 3, 4, 5, 6, 0] (by decide) (lc' := [(0, .ref (ar 0)), (1, .int x.1), (2, .int x.2.1), (3, .int (x.2.2.1 + 1)), (4, .int (x.2.2.2.1 24 x.2.2.1.toNatClampNeg)), (5, .int (x.2.2.2.1 25 x.2.2.1.toNatClampNeg)), (6, .int q24.1)]) rfl ?_
                        refine j_iload (pc := 318) C d_Mo_execute_318 6 rfl ?_
                        refine j_if_le (pc := 320) C d_Mo_execute_320 (tgt := 326) rfl (fun h25 => ?_) (fun h25 => ?_)
                        · rw [if_pos h25] at hf
                          refine j_iload (pc := 326) C d_Mo_execute_326 4 rfl ?_
                          refine j_bipush (pc := 328) C d_Mo_execute_328 cb_7 ?_
                          refine j_icmp_ne (pc := 330) C d_Mo_execute_330 (tgt := 341) rfl (fun h26 => ?_) (fun h26 => ?_)
                          · rw [if_neg h26] at hf
                            refine j_goto (pc := 341) C d_Mo_execute_341 (tgt := 74) rfl ?_
                            refine j_lc C (lc' := [(0, .ref (ar 0)), (1, .int x.1), (2, .int x.2.1), (3, .int (x.2.2.1 + 1))]) [0, 1, 2, 3] rfl ?_
                            exact k74_ih (x.1, x.2.1, x.2.2.1 + 1, q24.2) hf
                          · rw [if_pos h26] at hf
                            refine j_aload_n (pc := 333) C d_Mo_execute_333 rfl 0 rfl ?_
                            refine j_iload (pc := 334) C d_Mo_execute_334 5 rfl ?_
                            refine j_iload_n (pc := 336) C d_Mo_execute_336 rfl 3 rfl ?_
                            obtain ⟨q27, eq27, hf⟩ := ob hf
                            refine j_callVi (pc := 337) C (rest := []) d_Mo_execute_337 (c_Mo_uncounted (g := g) (ar := ar) eq27) cv_Mo_uncounted tw1357 0 rfl rfl cut_same rfl rfl (Nat.le_of_ble_eq_true rfl) (kc2 := 0) (ks2 := 0) (by decide) ?_
                            refine j_istore_n (pc := 340) C d_Mo_execute_340 rfl [1, 2, 3, 0, 4, 5, 6] (by decide) (lc' := [(0, .ref (ar 0)), (1, .int x.1), (2, .int x.2.1), (3, .int q27.1), (4, .int (x.2.2.2.1 24 x.2.2.1.toNatClampNeg)), (5, .int (x.2.2.2.1 25 x.2.2.1.toNatClampNeg)), (6, .int q24.1)]) rfl ?_
                            refine j_goto (pc := 341) C d_Mo_execute_341 (tgt := 74) rfl ?_
                            refine j_lc C (lc' := [(0, .ref (ar 0)), (1, .int x.1), (2, .int x.2.1), (3, .int q27.1)]) [0, 1, 2, 3] rfl ?_
                            exact k74_ih (x.1, x.2.1, q27.1, q27.2) hf
                        · rw [if_neg h25] at hf
                          refine j_iload (pc := 323) C d_Mo_execute_323 6 rfl ?_
                          cases hf
                          exact j_iret (pc := 325) C d_Mo_execute_325 ⟨rfl, rfl⟩ (Nat.le_of_ble_eq_true rfl) (Nat.le_of_ble_eq_true rfl)
                    · rw [if_pos h18] at hf
                      refine j_aload_n (pc := 283) C d_Mo_execute_283 rfl 0 rfl ?_
                      obtain ⟨q28, eq28, hf⟩ := ob hf
                      refine j_callVi (pc := 284) C (rest := []) d_Mo_execute_284 (c_Mo_pop (g := g) (ar := ar) eq28) cv_Mo_pop tw1361 0 rfl rfl cut_same rfl rfl (Nat.le_of_ble_eq_true rfl) (kc2 := 0) (ks2 := 0) (by decide) ?_
                      refine j_if_ne (pc := 287) C d_Mo_execute_287 (tgt := 295) rfl (fun h29 => ?_) (fun h29 => ?_)
                      · rw [if_neg h29] at hf
                        refine j_iload_n (pc := 295) C d_Mo_execute_295 rfl 3 rfl ?_
                        refine j_istore_n (pc := 296) C d_Mo_execute_296 rfl [1, 2, 3, 0, 4, 5] (by decide) (lc' := [(0, .ref (ar 0)), (1, .int x.1), (2, .int x.2.1), (3, .int (x.2.2.1 + 1)), (4, .int (x.2.2.2.1 24 x.2.2.1.toNatClampNeg)), (5, .int (x.2.2.2.1 25 x.2.2.1.toNatClampNeg))]) rfl ?_
                        refine j_goto (pc := 297) C d_Mo_execute_297 (tgt := 341) rfl ?_
                        refine j_goto (pc := 341) C d_Mo_execute_341 (tgt := 74) rfl ?_
                        refine j_lc C (lc' := [(0, .ref (ar 0)), (1, .int x.1), (2, .int x.2.1), (3, .int (x.2.2.1 + 1))]) [0, 1, 2, 3] rfl ?_
                        exact k74_ih (x.1, x.2.1, x.2.2.1 + 1, q28.2) hf
                      · rw [if_pos h29] at hf
                        refine j_iload (pc := 290) C d_Mo_execute_290 5 rfl ?_
                        refine j_goto (pc := 292) C d_Mo_execute_292 (tgt := 296) rfl ?_
                        refine j_istore_n (pc := 296) C d_Mo_execute_296 rfl [1, 2, 3, 0, 4, 5] (by decide) (lc' := [(0, .ref (ar 0)), (1, .int x.1), (2, .int x.2.1), (3, .int (x.2.2.2.1 25 x.2.2.1.toNatClampNeg)), (4, .int (x.2.2.2.1 24 x.2.2.1.toNatClampNeg)), (5, .int (x.2.2.2.1 25 x.2.2.1.toNatClampNeg))]) rfl ?_
                        refine j_goto (pc := 297) C d_Mo_execute_297 (tgt := 341) rfl ?_
                        refine j_goto (pc := 341) C d_Mo_execute_341 (tgt := 74) rfl ?_
                        refine j_lc C (lc' := [(0, .ref (ar 0)), (1, .int x.1), (2, .int x.2.1), (3, .int (x.2.2.2.1 25 x.2.2.1.toNatClampNeg))]) [0, 1, 2, 3] rfl ?_
                        exact k74_ih (x.1, x.2.1, x.2.2.2.1 25 x.2.2.1.toNatClampNeg, q28.2) hf
                  · rw [if_pos h17] at hf
                    refine j_iload (pc := 271) C d_Mo_execute_271 5 rfl ?_
                    refine j_istore_n (pc := 273) C d_Mo_execute_273 rfl [1, 2, 3, 0, 4, 5] (by decide) (lc' := [(0, .ref (ar 0)), (1, .int x.1), (2, .int x.2.1), (3, .int (x.2.2.2.1 25 x.2.2.1.toNatClampNeg)), (4, .int (x.2.2.2.1 24 x.2.2.1.toNatClampNeg)), (5, .int (x.2.2.2.1 25 x.2.2.1.toNatClampNeg))]) rfl ?_
                    refine j_goto (pc := 274) C d_Mo_execute_274 (tgt := 341) rfl ?_
                    refine j_goto (pc := 341) C d_Mo_execute_341 (tgt := 74) rfl ?_
                    refine j_lc C (lc' := [(0, .ref (ar 0)), (1, .int x.1), (2, .int x.2.1), (3, .int (x.2.2.2.1 25 x.2.2.1.toNatClampNeg))]) [0, 1, 2, 3] rfl ?_
                    exact k74_ih (x.1, x.2.1, x.2.2.2.1 25 x.2.2.1.toNatClampNeg, x.2.2.2) hf
                · rw [if_pos h16] at hf
                  refine j_aload_n (pc := 241) C d_Mo_execute_241 rfl 0 rfl ?_
                  refine j_dup (pc := 242) C d_Mo_execute_242 rfl ?_
                  refine j_get (pc := 243) C d_Mo_execute_243 0 49 wR_o0 rfl (v := .int (x.2.2.2.2.1 14)) rfl (by decide) tw991 ?_
                  refine j_iconst (pc := 246) C d_Mo_execute_246 ck_1 ?_
                  refine j_isub (pc := 247) C d_Mo_execute_247 ?_
                  refine j_put (pc := 248) C d_Mo_execute_248 0 49 wR_o0 rfl (by decide) tw991 pd_I rfl rfl rfl (Nat.le_of_ble_eq_true rfl) (ws' := wR g ar x.2.2.2.1 (va_up x.2.2.2.2.1 14 ((x.2.2.2.2.1 14) - 1)) x.2.2.2.2.2) wR_p0_49 ?_
                  refine j_aload_n (pc := 251) C d_Mo_execute_251 rfl 0 rfl ?_
                  refine j_get (pc := 252) C d_Mo_execute_252 0 46 wR_o0 rfl (v := .ref (ar 34)) rfl (by decide) tw988 ?_
                  refine j_aload_n (pc := 255) C d_Mo_execute_255 rfl 0 rfl ?_
                  refine j_get (pc := 256) C d_Mo_execute_256 0 49 wR_o0 rfl (v := .int ((x.2.2.2.2.1 14) - 1)) rfl (by decide) tw991 ?_
                  obtain ⟨b30, hf⟩ := og hf
                  refine j_iald (pc := 259) C d_Mo_execute_259 34 (inb_in b30) (x := x.2.2.2.1 34 ((x.2.2.2.2.1 14) - 1).toNatClampNeg) wR_a34 rfl ?_
                  refine j_topi C (fun v31 ev31 => ?_)
                  replace hf := ov ev31 hf
                  refine j_istore_n (pc := 260) C d_Mo_execute_260 rfl [1, 2, 3, 0, 4, 5] (by decide) (lc' := [(0, .ref (ar 0)), (1, .int x.1), (2, .int x.2.1), (3, .int v31), (4, .int (x.2.2.2.1 24 x.2.2.1.toNatClampNeg)), (5, .int (x.2.2.2.1 25 x.2.2.1.toNatClampNeg))]) rfl ?_
                  refine j_goto (pc := 261) C d_Mo_execute_261 (tgt := 341) rfl ?_
                  refine j_goto (pc := 341) C d_Mo_execute_341 (tgt := 74) rfl ?_
                  refine j_lc C (lc' := [(0, .ref (ar 0)), (1, .int x.1), (2, .int x.2.1), (3, .int v31)]) [0, 1, 2, 3] rfl ?_
                  exact k74_ih (x.1, x.2.1, v31, (x.2.2.2.1, (va_up x.2.2.2.2.1 14 ((x.2.2.2.2.1 14) - 1)), x.2.2.2.2.2)) hf
              · rw [if_pos h15] at hf
                refine j_aload_n (pc := 196) C d_Mo_execute_196 rfl 0 rfl ?_
                obtain ⟨q32, eq32, hf⟩ := ob hf
                refine j_callVi (pc := 197) C (rest := []) d_Mo_execute_197 (c_Mo_pop (g := g) (ar := ar) eq32) cv_Mo_pop tw1361 0 rfl rfl cut_same rfl rfl (Nat.le_of_ble_eq_true rfl) (kc2 := 0) (ks2 := 0) (by decide) ?_
                refine j_istore (pc := 200) C d_Mo_execute_200 [1, 2, 3, 4, 5, 6, 0] (by decide) (lc' := [(0, .ref (ar 0)), (1, .int x.1), (2, .int x.2.1), (3, .int (x.2.2.1 + 1)), (4, .int (x.2.2.2.1 24 x.2.2.1.toNatClampNeg)), (5, .int (x.2.2.2.1 25 x.2.2.1.toNatClampNeg)), (6, .int q32.1)]) rfl ?_
                refine j_aload_n (pc := 202) C d_Mo_execute_202 rfl 0 rfl ?_
                refine j_get (pc := 203) C d_Mo_execute_203 0 51 wR_o0 rfl (v := .int (q32.2.2.1 16)) rfl (by decide) tw993 ?_
                refine j_bipush (pc := 206) C d_Mo_execute_206 cb_32 ?_
                refine j_icmp_ge (pc := 208) C d_Mo_execute_208 (tgt := 222) rfl (fun h33 => ?_) (fun h33 => ?_)
                · rw [if_pos h33] at hf
                  refine j_aload_n (pc := 222) C d_Mo_execute_222 rfl 0 rfl ?_
                  refine j_dup (pc := 223) C d_Mo_execute_223 rfl ?_
                  refine j_get (pc := 224) C d_Mo_execute_224 0 51 wR_o0 rfl (v := .int (q32.2.2.1 16)) rfl (by decide) tw993 ?_
                  refine j_iconst (pc := 227) C d_Mo_execute_227 ck_1 ?_
                  refine j_iadd (pc := 228) C d_Mo_execute_228 ?_
                  refine j_put (pc := 229) C d_Mo_execute_229 0 51 wR_o0 rfl (by decide) tw993 pd_I rfl rfl rfl (Nat.le_of_ble_eq_true rfl) (ws' := wR g ar q32.2.1 (va_up q32.2.2.1 16 ((q32.2.2.1 16) + 1)) q32.2.2.2) wR_p0_51 ?_
                  refine j_goto (pc := 232) C d_Mo_execute_232 (tgt := 341) rfl ?_
                  refine j_goto (pc := 341) C d_Mo_execute_341 (tgt := 74) rfl ?_
                  refine j_lc C (lc' := [(0, .ref (ar 0)), (1, .int x.1), (2, .int x.2.1), (3, .int (x.2.2.1 + 1))]) [0, 1, 2, 3] rfl ?_
                  exact k74_ih (x.1, x.2.1, x.2.2.1 + 1, (q32.2.1, (va_up q32.2.2.1 16 ((q32.2.2.1 16) + 1)), q32.2.2.2)) hf
                · rw [if_neg h33] at hf
                  refine j_aload_n (pc := 211) C d_Mo_execute_211 rfl 0 rfl ?_
                  refine j_get (pc := 212) C d_Mo_execute_212 0 52 wR_o0 rfl (v := .ref (ar 36)) rfl (by decide) tw994 ?_
                  refine j_aload_n (pc := 215) C d_Mo_execute_215 rfl 0 rfl ?_
                  refine j_get (pc := 216) C d_Mo_execute_216 0 51 wR_o0 rfl (v := .int (q32.2.2.1 16)) rfl (by decide) tw993 ?_
                  refine j_iload (pc := 219) C d_Mo_execute_219 6 rfl ?_
                  obtain ⟨b34, hf⟩ := og hf
                  refine j_iast (pc := 221) C d_Mo_execute_221 36 (inb_in b34) wR_a36 (ws' := wR g ar (va_up q32.2.1 36 (upd (q32.2.1 36) (q32.2.2.1 16).toNatClampNeg q32.1)) q32.2.2.1 q32.2.2.2) wR_s36 ?_
                  refine j_aload_n (pc := 222) C d_Mo_execute_222 rfl 0 rfl ?_
                  refine j_dup (pc := 223) C d_Mo_execute_223 rfl ?_
                  refine j_get (pc := 224) C d_Mo_execute_224 0 51 wR_o0 rfl (v := .int (q32.2.2.1 16)) rfl (by decide) tw993 ?_
                  refine j_iconst (pc := 227) C d_Mo_execute_227 ck_1 ?_
                  refine j_iadd (pc := 228) C d_Mo_execute_228 ?_
                  refine j_put (pc := 229) C d_Mo_execute_229 0 51 wR_o0 rfl (by decide) tw993 pd_I rfl rfl rfl (Nat.le_of_ble_eq_true rfl) (ws' := wR g ar (va_up q32.2.1 36 (upd (q32.2.1 36) (q32.2.2.1 16).toNatClampNeg q32.1)) (va_up q32.2.2.1 16 ((q32.2.2.1 16) + 1)) q32.2.2.2) wR_p0_51 ?_
                  refine j_goto (pc := 232) C d_Mo_execute_232 (tgt := 341) rfl ?_
                  refine j_goto (pc := 341) C d_Mo_execute_341 (tgt := 74) rfl ?_
                  refine j_lc C (lc' := [(0, .ref (ar 0)), (1, .int x.1), (2, .int x.2.1), (3, .int (x.2.2.1 + 1))]) [0, 1, 2, 3] rfl ?_
                  exact k74_ih (x.1, x.2.1, x.2.2.1 + 1, ((va_up q32.2.1 36 (upd (q32.2.1 36) (q32.2.2.1 16).toNatClampNeg q32.1)), (va_up q32.2.2.1 16 ((q32.2.2.1 16) + 1)), q32.2.2.2)) hf
            · rw [if_pos h14] at hf
              refine j_aload_n (pc := 166) C d_Mo_execute_166 rfl 0 rfl ?_
              refine j_get (pc := 167) C d_Mo_execute_167 0 45 wR_o0 rfl (v := .ref (ar 33)) rfl (by decide) tw987 ?_
              refine j_bipush (pc := 170) C d_Mo_execute_170 cb_96 ?_
              refine j_aload_n (pc := 172) C d_Mo_execute_172 rfl 0 rfl ?_
              refine j_get (pc := 173) C d_Mo_execute_173 0 49 wR_o0 rfl (v := .int (x.2.2.2.2.1 14)) rfl (by decide) tw991 ?_
              refine j_iconst (pc := 176) C d_Mo_execute_176 ck_1 ?_
              refine j_isub (pc := 177) C d_Mo_execute_177 ?_
              refine j_imul (pc := 178) C d_Mo_execute_178 ?_
              refine j_iload (pc := 179) C d_Mo_execute_179 5 rfl ?_
              refine j_iadd (pc := 181) C d_Mo_execute_181 ?_
              refine j_topi C (fun v35 ev35 => ?_)
              replace hf := ov ev35 hf
              refine j_aload_n (pc := 182) C d_Mo_execute_182 rfl 0 rfl ?_
              obtain ⟨q36, eq36, hf⟩ := ob hf
              refine j_callVi (pc := 183) C (rest := [.int v35, .ref (ar 33)]) d_Mo_execute_183 (c_Mo_pop (g := g) (ar := ar) eq36) cv_Mo_pop tw1361 0 rfl rfl cut_same rfl rfl (Nat.le_of_ble_eq_true rfl) (kc2 := 0) (ks2 := 0) (by decide) ?_
              obtain ⟨b37, hf⟩ := og hf
              refine j_iast (pc := 186) C d_Mo_execute_186 33 (inb_in b37) wR_a33 (ws' := wR g ar (va_up q36.2.1 33 (upd (q36.2.1 33) v35.toNatClampNeg q36.1)) q36.2.2.1 q36.2.2.2) wR_s33 ?_
              refine j_goto (pc := 187) C d_Mo_execute_187 (tgt := 341) rfl ?_
              refine j_goto (pc := 341) C d_Mo_execute_341 (tgt := 74) rfl ?_
              refine j_lc C (lc' := [(0, .ref (ar 0)), (1, .int x.1), (2, .int x.2.1), (3, .int (x.2.2.1 + 1))]) [0, 1, 2, 3] rfl ?_
              exact k74_ih (x.1, x.2.1, x.2.2.1 + 1, ((va_up q36.2.1 33 (upd (q36.2.1 33) v35.toNatClampNeg q36.1)), q36.2.2.1, q36.2.2.2)) hf
          · rw [if_pos h13] at hf
            refine j_aload_n (pc := 136) C d_Mo_execute_136 rfl 0 rfl ?_
            refine j_aload_n (pc := 137) C d_Mo_execute_137 rfl 0 rfl ?_
            refine j_get (pc := 138) C d_Mo_execute_138 0 45 wR_o0 rfl (v := .ref (ar 33)) rfl (by decide) tw987 ?_
            refine j_bipush (pc := 141) C d_Mo_execute_141 cb_96 ?_
            refine j_aload_n (pc := 143) C d_Mo_execute_143 rfl 0 rfl ?_
            refine j_get (pc := 144) C d_Mo_execute_144 0 49 wR_o0 rfl (v := .int (x.2.2.2.2.1 14)) rfl (by decide) tw991 ?_
            refine j_iconst (pc := 147) C d_Mo_execute_147 ck_1 ?_
            refine j_isub (pc := 148) C d_Mo_execute_148 ?_
            refine j_imul (pc := 149) C d_Mo_execute_149 ?_
            refine j_iload (pc := 150) C d_Mo_execute_150 5 rfl ?_
            refine j_iadd (pc := 152) C d_Mo_execute_152 ?_
            refine j_topi C (fun v38 ev38 => ?_)
            replace hf := ov ev38 hf
            obtain ⟨b39, hf⟩ := og hf
            refine j_iald (pc := 153) C d_Mo_execute_153 33 (inb_in b39) (x := x.2.2.2.1 33 v38.toNatClampNeg) wR_a33 rfl ?_
            obtain ⟨q40, eq40, hf⟩ := ob hf
            refine j_callVv (pc := 154) C (rest := []) d_Mo_execute_154 (c_Mo_push (g := g) (ar := ar) eq40) cv_Mo_push tw1349 0 rfl rfl cut_same rfl rfl (Nat.le_of_ble_eq_true rfl) (kc2 := 0) (ks2 := 0) (by decide) ?_
            refine j_goto (pc := 157) C d_Mo_execute_157 (tgt := 341) rfl ?_
            refine j_goto (pc := 341) C d_Mo_execute_341 (tgt := 74) rfl ?_
            refine j_lc C (lc' := [(0, .ref (ar 0)), (1, .int x.1), (2, .int x.2.1), (3, .int (x.2.2.1 + 1))]) [0, 1, 2, 3] rfl ?_
            exact k74_ih (x.1, x.2.1, x.2.2.1 + 1, q40) hf
        · rw [if_pos h12] at hf
          refine j_aload_n (pc := 121) C d_Mo_execute_121 rfl 0 rfl ?_
          refine j_iload (pc := 122) C d_Mo_execute_122 5 rfl ?_
          obtain ⟨q41, eq41, hf⟩ := ob hf
          refine j_callVv (pc := 124) C (rest := []) d_Mo_execute_124 (c_Mo_push (g := g) (ar := ar) eq41) cv_Mo_push tw1349 0 rfl rfl cut_same rfl rfl (Nat.le_of_ble_eq_true rfl) (kc2 := 0) (ks2 := 0) (by decide) ?_
          refine j_goto (pc := 127) C d_Mo_execute_127 (tgt := 341) rfl ?_
          refine j_goto (pc := 341) C d_Mo_execute_341 (tgt := 74) rfl ?_
          refine j_lc C (lc' := [(0, .ref (ar 0)), (1, .int x.1), (2, .int x.2.1), (3, .int (x.2.2.1 + 1))]) [0, 1, 2, 3] rfl ?_
          exact k74_ih (x.1, x.2.1, x.2.2.1 + 1, q41) hf
      · rw [if_neg h11] at hf
        refine j_aload_n (pc := 104) C d_Mo_execute_104 rfl 0 rfl ?_
        refine j_iload (pc := 105) C d_Mo_execute_105 4 rfl ?_
        refine j_bipush (pc := 107) C d_Mo_execute_107 cb_100 ?_
        refine j_isub (pc := 109) C d_Mo_execute_109 ?_
        refine j_topi C (fun v42 ev42 => ?_)
        replace hf := ov ev42 hf
        obtain ⟨q43, eq43, hf⟩ := ob hf
        refine j_callVv (pc := 110) C (rest := []) d_Mo_execute_110 (c_Mo_reckon (g := g) (ar := ar) eq43) cv_Mo_reckon tw1365 0 rfl rfl cut_same rfl rfl (Nat.le_of_ble_eq_true rfl) (kc2 := 0) (ks2 := 0) (by decide) ?_
        refine j_goto (pc := 113) C d_Mo_execute_113 (tgt := 341) rfl ?_
        refine j_goto (pc := 341) C d_Mo_execute_341 (tgt := 74) rfl ?_
        refine j_lc C (lc' := [(0, .ref (ar 0)), (1, .int x.1), (2, .int x.2.1), (3, .int (x.2.2.1 + 1))]) [0, 1, 2, 3] rfl ?_
        exact k74_ih (x.1, x.2.1, x.2.2.1 + 1, q43) hf
  have L32 : ∀ (n : Nat) (x : Int32 × Int32 × Int32 × RS), lpN (BMo_execute_32) n x = some q → 𝒥 0 0 (wR g ar x.2.2.2.1 x.2.2.2.2.1 x.2.2.2.2.2) [(0, .ref (ar 0)), (1, .int x.1), (2, .int x.2.1), (3, .int x.2.2.1)] [] 32 := by
    refine lp_ind (fun k32 k32_ih x hf => ?_)
    unfold BMo_execute_32 at hf
    refine j_iload_n (pc := 32) C d_Mo_execute_32 rfl 3 rfl ?_
    refine j_aload_n (pc := 33) C d_Mo_execute_33 rfl 0 rfl ?_
    refine j_get (pc := 34) C d_Mo_execute_34 0 23 wR_o0 rfl (v := .ref (ar 19)) rfl (by decide) tw965 ?_
    refine j_iload_n (pc := 37) C d_Mo_execute_37 rfl 1 rfl ?_
    obtain ⟨b2, hf⟩ := og hf
    refine j_iald (pc := 38) C d_Mo_execute_38 19 (inb_in b2) (x := x.2.2.2.1 19 x.1.toNatClampNeg) wR_a19 rfl ?_
    refine j_icmp_ge (pc := 39) C d_Mo_execute_39 (tgt := 53) rfl (fun h3 => ?_) (fun h3 => ?_)
    · rw [if_pos h3] at hf
      refine j_aload_n (pc := 53) C d_Mo_execute_53 rfl 0 rfl ?_
      refine j_get (pc := 54) C d_Mo_execute_54 0 23 wR_o0 rfl (v := .ref (ar 19)) rfl (by decide) tw965 ?_
      refine j_iload_n (pc := 57) C d_Mo_execute_57 rfl 1 rfl ?_
      obtain ⟨b4, hf⟩ := og hf
      refine j_iald (pc := 58) C d_Mo_execute_58 19 (inb_in b4) (x := x.2.2.2.1 19 x.1.toNatClampNeg) wR_a19 rfl ?_
      refine j_if_ne (pc := 59) C d_Mo_execute_59 (tgt := 67) rfl (fun h5 => ?_) (fun h5 => ?_)
      · rw [if_neg h5] at hf
        refine j_aload_n (pc := 67) C d_Mo_execute_67 rfl 0 rfl ?_
        refine j_iload_n (pc := 68) C d_Mo_execute_68 rfl 1 rfl ?_
        refine j_iconst (pc := 69) C d_Mo_execute_69 ck_m1 ?_
        obtain ⟨q6, eq6, hf⟩ := ob hf
        refine j_callVi (pc := 70) C (rest := []) d_Mo_execute_70 (c_Mo_enter (g := g) (ar := ar) eq6) cv_Mo_enter tw1353 0 rfl rfl cut_same rfl rfl (Nat.le_of_ble_eq_true rfl) (kc2 := 0) (ks2 := 0) (by decide) ?_
        refine j_istore_n (pc := 73) C d_Mo_execute_73 rfl [1, 2, 3, 0] (by decide) (lc' := [(0, .ref (ar 0)), (1, .int x.1), (2, .int x.2.1), (3, .int q6.1)]) rfl ?_
        exact L74 100000 (x.1, x.2.1, q6.1, q6.2) hf
      · rw [if_pos h5] at hf
        refine j_aload_n (pc := 62) C d_Mo_execute_62 rfl 0 rfl ?_
        refine j_iconst (pc := 63) C d_Mo_execute_63 ck_0 ?_
        refine j_put (pc := 64) C d_Mo_execute_64 0 48 wR_o0 rfl (by decide) tw990 pd_I rfl rfl rfl (Nat.le_of_ble_eq_true rfl) (ws' := wR g ar x.2.2.2.1 (va_up x.2.2.2.2.1 13 0) x.2.2.2.2.2) wR_p0_48 ?_
        refine j_aload_n (pc := 67) C d_Mo_execute_67 rfl 0 rfl ?_
        refine j_iload_n (pc := 68) C d_Mo_execute_68 rfl 1 rfl ?_
        refine j_iconst (pc := 69) C d_Mo_execute_69 ck_m1 ?_
        obtain ⟨q44, eq44, hf⟩ := ob hf
        refine j_callVi (pc := 70) C (rest := []) d_Mo_execute_70 (c_Mo_enter (g := g) (ar := ar) eq44) cv_Mo_enter tw1353 0 rfl rfl cut_same rfl rfl (Nat.le_of_ble_eq_true rfl) (kc2 := 0) (ks2 := 0) (by decide) ?_
        refine j_istore_n (pc := 73) C d_Mo_execute_73 rfl [1, 2, 3, 0] (by decide) (lc' := [(0, .ref (ar 0)), (1, .int x.1), (2, .int x.2.1), (3, .int q44.1)]) rfl ?_
        exact L74 100000 (x.1, x.2.1, q44.1, q44.2) hf
    · rw [if_neg h3] at hf
      refine j_aload_n (pc := 42) C d_Mo_execute_42 rfl 0 rfl ?_
      refine j_iconst (pc := 43) C d_Mo_execute_43 ck_0 ?_
      obtain ⟨q45, eq45, hf⟩ := ob hf
      refine j_callVv (pc := 44) C (rest := []) d_Mo_execute_44 (c_Mo_push (g := g) (ar := ar) eq45) cv_Mo_push tw1349 0 rfl rfl cut_same rfl rfl (Nat.le_of_ble_eq_true rfl) (kc2 := 0) (ks2 := 0) (by decide) ?_
      refine j_iinc (pc := 47) C d_Mo_execute_47 3 rfl (v := x.2.2.1 + 1) (iv ci_1) [1, 2, 3, 0] (by decide) (lc' := [(0, .ref (ar 0)), (1, .int x.1), (2, .int x.2.1), (3, .int (x.2.2.1 + 1))]) rfl ?_
      refine j_goto (pc := 50) C d_Mo_execute_50 (tgt := 32) rfl ?_
      exact k32_ih (x.1, x.2.1, x.2.2.1 + 1, q45) hf
  unfold f_Mo_execute at hf
  change 𝒥 0 0 (wR g ar r.1 r.2.1 r.2.2) [(0, .ref (ar 0)), (1, .int a1), (2, .int a2)] [] 0
  refine j_aload_n (pc := 0) C d_Mo_execute_0 rfl 0 rfl ?_
  refine j_iconst (pc := 1) C d_Mo_execute_1 ck_0 ?_
  refine j_put (pc := 2) C d_Mo_execute_2 0 49 wR_o0 rfl (by decide) tw991 pd_I rfl rfl rfl (Nat.le_of_ble_eq_true rfl) (ws' := wR g ar r.1 (va_up r.2.1 14 0) r.2.2) wR_p0_49 ?_
  refine j_aload_n (pc := 5) C d_Mo_execute_5 rfl 0 rfl ?_
  refine j_iconst (pc := 6) C d_Mo_execute_6 ck_0 ?_
  refine j_put (pc := 7) C d_Mo_execute_7 0 48 wR_o0 rfl (by decide) tw990 pd_I rfl rfl rfl (Nat.le_of_ble_eq_true rfl) (ws' := wR g ar r.1 (va_up (va_up r.2.1 14 0) 13 0) r.2.2) wR_p0_48 ?_
  refine j_aload_n (pc := 10) C d_Mo_execute_10 rfl 0 rfl ?_
  refine j_iconst (pc := 11) C d_Mo_execute_11 ck_0 ?_
  refine j_put (pc := 12) C d_Mo_execute_12 0 50 wR_o0 rfl (by decide) tw992 pd_I rfl rfl rfl (Nat.le_of_ble_eq_true rfl) (ws' := wR g ar r.1 (va_up (va_up (va_up r.2.1 14 0) 13 0) 15 0) r.2.2) wR_p0_50 ?_
  refine j_aload_n (pc := 15) C d_Mo_execute_15 rfl 0 rfl ?_
  refine j_iconst (pc := 16) C d_Mo_execute_16 ck_0 ?_
  refine j_put (pc := 17) C d_Mo_execute_17 0 51 wR_o0 rfl (by decide) tw993 pd_I rfl rfl rfl (Nat.le_of_ble_eq_true rfl) (ws' := wR g ar r.1 (va_up (va_up (va_up (va_up r.2.1 14 0) 13 0) 15 0) 16 0) r.2.2) wR_p0_51 ?_
  refine j_aload_n (pc := 20) C d_Mo_execute_20 rfl 0 rfl ?_
  refine j_iconst (pc := 21) C d_Mo_execute_21 ck_0 ?_
  refine j_put (pc := 22) C d_Mo_execute_22 0 53 wR_o0 rfl (by decide) tw995 pd_I rfl rfl rfl (Nat.le_of_ble_eq_true rfl) (ws' := wR g ar r.1 (va_up (va_up (va_up (va_up (va_up r.2.1 14 0) 13 0) 15 0) 16 0) 17 0) r.2.2) wR_p0_53 ?_
  refine j_aload_n (pc := 25) C d_Mo_execute_25 rfl 0 rfl ?_
  refine j_iload_n (pc := 26) C d_Mo_execute_26 rfl 2 rfl ?_
  obtain ⟨q1, eq1, hf⟩ := ob hf
  refine j_callVv (pc := 27) C (rest := []) d_Mo_execute_27 (c_Mo_push (g := g) (ar := ar) eq1) cv_Mo_push tw1349 0 rfl rfl cut_same rfl rfl (Nat.le_of_ble_eq_true rfl) (kc2 := 0) (ks2 := 0) (by decide) ?_
  refine j_iconst (pc := 30) C d_Mo_execute_30 ck_1 ?_
  refine j_istore_n (pc := 31) C d_Mo_execute_31 rfl [1, 2, 3, 0] (by decide) (lc' := [(0, .ref (ar 0)), (1, .int a1), (2, .int a2), (3, .int 1)]) rfl ?_
  exact L32 100000 (a1, a2, 1, q1) hf
abbrev rm_Mo_run : Room := { frames := 6, cells := 0, slots := 0, locals := 132 }
theorem cv_Mo_run : CV y_Mo_run b_Mo_run 4 (some .int) 1 := ⟨⟨tw1321, tw10, by decide +kernel⟩, tw1319, tw1320⟩
set_option maxHeartbeats 4000000 in
set_option maxRecDepth 100000 in
theorem c_Mo_run {g : GT} {ar : Nat → Nat} {a1 : Int32} {r : RS} {q : Int32 × RS} (hf : f_Mo_run a1 r = some q) : MI g y_Mo_run b_Mo_run 4 (some .int) rm_Mo_run [.ref (ar 0), .int a1] (wR g ar r.1 r.2.1 r.2.2) q.1 (wR g ar q.2.1 q.2.2.1 q.2.2.2) := by
  refine MI.of (by decide) (Nat.le_of_ble_eq_true rfl) (fun 𝒥 C => ?_)
  have L47 : ∀ (n : Nat) (x : Int32 × Int32 × Int32 × RS), lpN (BMo_run_47) n x = some q → 𝒥 0 0 (wR g ar x.2.2.2.1 x.2.2.2.2.1 x.2.2.2.2.2) [(0, .ref (ar 0)), (1, .int x.1), (2, .int x.2.1), (3, .int x.2.2.1)] [] 47 := by
    refine lp_ind (fun k47 k47_ih x hf => ?_)
    unfold BMo_run_47 at hf
    refine j_iload_n (pc := 47) C d_Mo_run_47 rfl 3 rfl ?_
    refine j_aload_n (pc := 48) C d_Mo_run_48 rfl 0 rfl ?_
    refine j_get (pc := 49) C d_Mo_run_49 0 19 wR_o0 rfl (v := .int (x.2.2.2.2.1 4)) rfl (by decide) tw961 ?_
    refine j_icmp_ge (pc := 52) C d_Mo_run_52 (tgt := 66) rfl (fun h5 => ?_) (fun h5 => ?_)
    · rw [if_pos h5] at hf
      refine j_aload_n (pc := 66) C d_Mo_run_66 rfl 0 rfl ?_
      refine j_iload_n (pc := 67) C d_Mo_run_67 rfl 2 rfl ?_
      obtain ⟨q6, eq6, hf⟩ := ob hf
      refine j_callVi (pc := 68) C (rest := []) d_Mo_run_68 (c_Mo_partOf (g := g) (ar := ar) eq6) cv_Mo_partOf tw1254 0 rfl rfl cut_same rfl rfl (Nat.le_of_ble_eq_true rfl) (kc2 := 0) (ks2 := 0) (by decide) ?_
      refine j_istore_n (pc := 71) C d_Mo_run_71 rfl [1, 2, 3, 0] (by decide) (lc' := [(0, .ref (ar 0)), (1, .int x.1), (2, .int x.2.1), (3, .int q6.1)]) rfl ?_
      refine j_aload_n (pc := 72) C d_Mo_run_72 rfl 0 rfl ?_
      refine j_iload_n (pc := 73) C d_Mo_run_73 rfl 3 rfl ?_
      refine j_iload_n (pc := 74) C d_Mo_run_74 rfl 1 rfl ?_
      obtain ⟨q7, eq7, hf⟩ := ob hf
      refine j_callVi (pc := 75) C (rest := []) d_Mo_run_75 (c_Mo_execute (g := g) (ar := ar) eq7) cv_Mo_execute tw1345 0 rfl rfl cut_same rfl rfl (Nat.le_of_ble_eq_true rfl) (kc2 := 0) (ks2 := 0) (by decide) ?_
      cases hf
      exact j_iret (pc := 78) C d_Mo_run_78 ⟨rfl, rfl⟩ (Nat.le_of_ble_eq_true rfl) (Nat.le_of_ble_eq_true rfl)
    · rw [if_neg h5] at hf
      refine j_aload_n (pc := 55) C d_Mo_run_55 rfl 0 rfl ?_
      refine j_iload_n (pc := 56) C d_Mo_run_56 rfl 3 rfl ?_
      obtain ⟨q8, eq8, hf⟩ := ob hf
      refine j_callVv (pc := 57) C (rest := []) d_Mo_run_57 (c_Mo_function (g := g) (ar := ar) eq8) cv_Mo_function tw1322 0 rfl rfl cut_same rfl rfl (Nat.le_of_ble_eq_true rfl) (kc2 := 0) (ks2 := 0) (by decide) ?_
      refine j_iinc (pc := 60) C d_Mo_run_60 3 rfl (v := x.2.2.1 + 1) (iv ci_1) [1, 2, 3, 0] (by decide) (lc' := [(0, .ref (ar 0)), (1, .int x.1), (2, .int x.2.1), (3, .int (x.2.2.1 + 1))]) rfl ?_
      refine j_goto (pc := 63) C d_Mo_run_63 (tgt := 47) rfl ?_
      exact k47_ih (x.1, x.2.1, x.2.2.1 + 1, q8) hf
  unfold f_Mo_run at hf
  change 𝒥 0 0 (wR g ar r.1 r.2.1 r.2.2) [(0, .ref (ar 0)), (1, .int a1)] [] 0
  refine j_aload_n (pc := 0) C d_Mo_run_0 rfl 0 rfl ?_
  refine j_iconst (pc := 1) C d_Mo_run_1 ck_0 ?_
  refine j_put (pc := 2) C d_Mo_run_2 0 1 wR_o0 rfl (by decide) tw943 pd_I rfl rfl rfl (Nat.le_of_ble_eq_true rfl) (ws' := wR g ar r.1 (va_up r.2.1 0 0) r.2.2) wR_p0_1 ?_
  refine j_aload_n (pc := 5) C d_Mo_run_5 rfl 0 rfl ?_
  obtain ⟨q1, eq1, hf⟩ := ob hf
  refine j_callVv (pc := 6) C (rest := []) d_Mo_run_6 (c_Mo_analyse (g := g) (ar := ar) eq1) cv_Mo_analyse tw1147 0 rfl rfl cut_same rfl rfl (Nat.le_of_ble_eq_true rfl) (kc2 := 0) (ks2 := 0) (by decide) ?_
  refine j_aload_n (pc := 9) C d_Mo_run_9 rfl 0 rfl ?_
  refine j_get (pc := 10) C d_Mo_run_10 0 24 wR_o0 rfl (v := .int (q1.2.1 5)) rfl (by decide) tw966 ?_
  refine j_if_le (pc := 13) C d_Mo_run_13 (tgt := 22) rfl (fun h2 => ?_) (fun h2 => ?_)
  · rw [if_pos h2] at hf
    refine j_aload_n (pc := 22) C d_Mo_run_22 rfl 0 rfl ?_
    refine j_ldc2 (pc := 23) C d_Mo_run_23 tw1122 ?_
    obtain ⟨q3, eq3, hf⟩ := ob hf
    refine j_callVi (pc := 26) C (rest := []) d_Mo_run_26 (c_Mo_functionNamed (g := g) (ar := ar) eq3) cv_Mo_functionNamed tw1250 0 rfl rfl cut_same rfl rfl (Nat.le_of_ble_eq_true rfl) (kc2 := 0) (ks2 := 0) (by decide) ?_
    refine j_istore_n (pc := 29) C d_Mo_run_29 rfl [1, 2, 0] (by decide) (lc' := [(0, .ref (ar 0)), (1, .int a1), (2, .int q3.1)]) rfl ?_
    refine j_iload_n (pc := 30) C d_Mo_run_30 rfl 2 rfl ?_
    refine j_if_ge (pc := 31) C d_Mo_run_31 (tgt := 40) rfl (fun h4 => ?_) (fun h4 => ?_)
    · rw [if_pos h4] at hf
      refine j_aload_n (pc := 40) C d_Mo_run_40 rfl 0 rfl ?_
      refine j_iconst (pc := 41) C d_Mo_run_41 ck_0 ?_
      refine j_put (pc := 42) C d_Mo_run_42 0 34 wR_o0 rfl (by decide) tw976 pd_I rfl rfl rfl (Nat.le_of_ble_eq_true rfl) (ws' := wR g ar q3.2.1 (va_up q3.2.2.1 11 0) q3.2.2.2) wR_p0_34 ?_
      refine j_iconst (pc := 45) C d_Mo_run_45 ck_0 ?_
      refine j_istore_n (pc := 46) C d_Mo_run_46 rfl [1, 2, 3, 0] (by decide) (lc' := [(0, .ref (ar 0)), (1, .int a1), (2, .int q3.1), (3, .int 0)]) rfl ?_
      exact L47 100000 (a1, q3.1, 0, (q3.2.1, (va_up q3.2.2.1 11 0), q3.2.2.2)) hf
    · rw [if_neg h4] at hf
      refine j_aload_n (pc := 34) C d_Mo_run_34 rfl 0 rfl ?_
      refine j_iconst (pc := 35) C d_Mo_run_35 ck_2 ?_
      obtain ⟨q9, eq9, hf⟩ := ob hf
      refine j_callVi (pc := 36) C (rest := []) d_Mo_run_36 (c_Mo_fails (g := g) (ar := ar) eq9) cv_Mo_fails tw1262 0 rfl rfl cut_same rfl rfl (Nat.le_of_ble_eq_true rfl) (kc2 := 0) (ks2 := 0) (by decide) ?_
      cases hf
      exact j_iret (pc := 39) C d_Mo_run_39 ⟨rfl, rfl⟩ (Nat.le_of_ble_eq_true rfl) (Nat.le_of_ble_eq_true rfl)
  · rw [if_neg h2] at hf
    refine j_aload_n (pc := 16) C d_Mo_run_16 rfl 0 rfl ?_
    refine j_iconst (pc := 17) C d_Mo_run_17 ck_1 ?_
    obtain ⟨q10, eq10, hf⟩ := ob hf
    refine j_callVi (pc := 18) C (rest := []) d_Mo_run_18 (c_Mo_fails (g := g) (ar := ar) eq10) cv_Mo_fails tw1262 0 rfl rfl cut_same rfl rfl (Nat.le_of_ble_eq_true rfl) (kc2 := 0) (ks2 := 0) (by decide) ?_
    cases hf
    exact j_iret (pc := 21) C d_Mo_run_21 ⟨rfl, rfl⟩ (Nat.le_of_ble_eq_true rfl) (Nat.le_of_ble_eq_true rfl)
abbrev rm_Mo_output : Room := { frames := 1, cells := 0, slots := 0, locals := 21 }
theorem cv_Mo_output : CV y_Mo_output b_Mo_output 2 (some .int) 1 := ⟨⟨tw1376, tw10, by decide +kernel⟩, tw1374, tw1375⟩
set_option maxHeartbeats 4000000 in
set_option maxRecDepth 100000 in
theorem c_Mo_output {g : GT} {ar : Nat → Nat} {a1 : Int32} {r : RS} {q : Int32 × RS} (hf : f_Mo_output a1 r = some q) : MI g y_Mo_output b_Mo_output 2 (some .int) rm_Mo_output [.ref (ar 0), .int a1] (wR g ar r.1 r.2.1 r.2.2) q.1 (wR g ar q.2.1 q.2.2.1 q.2.2.2) := by
  refine MI.of (by decide) (Nat.le_of_ble_eq_true rfl) (fun 𝒥 C => ?_)
  unfold f_Mo_output at hf
  change 𝒥 0 0 (wR g ar r.1 r.2.1 r.2.2) [(0, .ref (ar 0)), (1, .int a1)] [] 0
  refine j_aload_n (pc := 0) C d_Mo_output_0 rfl 0 rfl ?_
  refine j_iconst (pc := 1) C d_Mo_output_1 ck_0 ?_
  refine j_put (pc := 2) C d_Mo_output_2 0 1 wR_o0 rfl (by decide) tw943 pd_I rfl rfl rfl (Nat.le_of_ble_eq_true rfl) (ws' := wR g ar r.1 (va_up r.2.1 0 0) r.2.2) wR_p0_1 ?_
  refine j_iload_n (pc := 5) C d_Mo_output_5 rfl 1 rfl ?_
  refine j_iconst (pc := 6) C d_Mo_output_6 ck_m1 ?_
  refine j_icmp_ne (pc := 7) C d_Mo_output_7 (tgt := 15) rfl (fun h1 => ?_) (fun h1 => ?_)
  · rw [if_neg h1] at hf
    refine j_iload_n (pc := 15) C d_Mo_output_15 rfl 1 rfl ?_
    refine j_bipush (pc := 16) C d_Mo_output_16 cb_m2 ?_
    refine j_icmp_ne (pc := 18) C d_Mo_output_18 (tgt := 26) rfl (fun h2 => ?_) (fun h2 => ?_)
    · rw [if_neg h2] at hf
      refine j_iload_n (pc := 26) C d_Mo_output_26 rfl 1 rfl ?_
      refine j_if_lt (pc := 27) C d_Mo_output_27 (tgt := 44) rfl (fun h3 => ?_) (fun h3 => ?_)
      · rw [if_pos h3] at hf
        refine j_aload_n (pc := 44) C d_Mo_output_44 rfl 0 rfl ?_
        refine j_iconst (pc := 45) C d_Mo_output_45 ck_1 ?_
        obtain ⟨q4, eq4, hf⟩ := ob hf
        refine j_callVi (pc := 46) C (rest := []) d_Mo_output_46 (c_Mo_fails (g := g) (ar := ar) eq4) cv_Mo_fails tw1262 0 rfl rfl cut_same rfl rfl (Nat.le_of_ble_eq_true rfl) (kc2 := 0) (ks2 := 0) (by decide) ?_
        refine j_goto (pc := 49) C d_Mo_output_49 (tgt := 58) rfl ?_
        cases hf
        exact j_iret (pc := 58) C d_Mo_output_58 ⟨rfl, rfl⟩ (Nat.le_of_ble_eq_true rfl) (Nat.le_of_ble_eq_true rfl)
      · rw [if_neg h3] at hf
        refine j_iload_n (pc := 30) C d_Mo_output_30 rfl 1 rfl ?_
        refine j_aload_n (pc := 31) C d_Mo_output_31 rfl 0 rfl ?_
        refine j_get (pc := 32) C d_Mo_output_32 0 51 wR_o0 rfl (v := .int (r.2.1 16)) rfl (by decide) tw993 ?_
        refine j_icmp_ge (pc := 35) C d_Mo_output_35 (tgt := 44) rfl (fun h5 => ?_) (fun h5 => ?_)
        · rw [if_pos h5] at hf
          refine j_aload_n (pc := 44) C d_Mo_output_44 rfl 0 rfl ?_
          refine j_iconst (pc := 45) C d_Mo_output_45 ck_1 ?_
          obtain ⟨q6, eq6, hf⟩ := ob hf
          refine j_callVi (pc := 46) C (rest := []) d_Mo_output_46 (c_Mo_fails (g := g) (ar := ar) eq6) cv_Mo_fails tw1262 0 rfl rfl cut_same rfl rfl (Nat.le_of_ble_eq_true rfl) (kc2 := 0) (ks2 := 0) (by decide) ?_
          refine j_goto (pc := 49) C d_Mo_output_49 (tgt := 58) rfl ?_
          cases hf
          exact j_iret (pc := 58) C d_Mo_output_58 ⟨rfl, rfl⟩ (Nat.le_of_ble_eq_true rfl) (Nat.le_of_ble_eq_true rfl)
        · rw [if_neg h5] at hf
          refine j_iload_n (pc := 38) C d_Mo_output_38 rfl 1 rfl ?_
          refine j_bipush (pc := 39) C d_Mo_output_39 cb_32 ?_
          refine j_icmp_lt (pc := 41) C d_Mo_output_41 (tgt := 52) rfl (fun h7 => ?_) (fun h7 => ?_)
          · rw [if_pos h7] at hf
            refine j_aload_n (pc := 52) C d_Mo_output_52 rfl 0 rfl ?_
            refine j_get (pc := 53) C d_Mo_output_53 0 52 wR_o0 rfl (v := .ref (ar 36)) rfl (by decide) tw994 ?_
            refine j_iload_n (pc := 56) C d_Mo_output_56 rfl 1 rfl ?_
            obtain ⟨b8, hf⟩ := og hf
            refine j_iald (pc := 57) C d_Mo_output_57 36 (inb_in b8) (x := r.1 36 a1.toNatClampNeg) wR_a36 rfl ?_
            cases hf
            exact j_iret (pc := 58) C d_Mo_output_58 ⟨rfl, rfl⟩ (Nat.le_of_ble_eq_true rfl) (Nat.le_of_ble_eq_true rfl)
          · rw [if_neg h7] at hf
            refine j_aload_n (pc := 44) C d_Mo_output_44 rfl 0 rfl ?_
            refine j_iconst (pc := 45) C d_Mo_output_45 ck_1 ?_
            obtain ⟨q9, eq9, hf⟩ := ob hf
            refine j_callVi (pc := 46) C (rest := []) d_Mo_output_46 (c_Mo_fails (g := g) (ar := ar) eq9) cv_Mo_fails tw1262 0 rfl rfl cut_same rfl rfl (Nat.le_of_ble_eq_true rfl) (kc2 := 0) (ks2 := 0) (by decide) ?_
            refine j_goto (pc := 49) C d_Mo_output_49 (tgt := 58) rfl ?_
            cases hf
            exact j_iret (pc := 58) C d_Mo_output_58 ⟨rfl, rfl⟩ (Nat.le_of_ble_eq_true rfl) (Nat.le_of_ble_eq_true rfl)
    · rw [if_pos h2] at hf
      refine j_aload_n (pc := 21) C d_Mo_output_21 rfl 0 rfl ?_
      refine j_get (pc := 22) C d_Mo_output_22 0 53 wR_o0 rfl (v := .int (r.2.1 17)) rfl (by decide) tw995 ?_
      cases hf
      exact j_iret (pc := 25) C d_Mo_output_25 ⟨rfl, rfl⟩ (Nat.le_of_ble_eq_true rfl) (Nat.le_of_ble_eq_true rfl)
  · rw [if_pos h1] at hf
    refine j_aload_n (pc := 10) C d_Mo_output_10 rfl 0 rfl ?_
    refine j_get (pc := 11) C d_Mo_output_11 0 51 wR_o0 rfl (v := .int (r.2.1 16)) rfl (by decide) tw993 ?_
    cases hf
    exact j_iret (pc := 14) C d_Mo_output_14 ⟨rfl, rfl⟩ (Nat.le_of_ble_eq_true rfl) (Nat.le_of_ble_eq_true rfl)
abbrev rm_La_insert : Room := { frames := 7, cells := 1, slots := 6, locals := 103 }
def hs_La_insert : List (Nat × Nat × Nat × Nat) := [(0, 6, 9, 13), (0, 6, 12, 15), (0, 6, 15, 17)]
theorem cw_La_insert : Cond.codeWith y_La_insert b_La_insert 4 (some .int) hs_La_insert ∈ wsG := tw606
theorem cv_La_insert : Cond.initialized y_La_insert.cls ∈ wsG ∧ Cond.static y_La_insert ∈ wsG := ⟨tw0, tw605⟩
theorem xh_La_insert_1 : XH "ProgramDeskLaw" hs_La_insert 3 1 9 := ⟨[], [(0, 6, 12, 15), (0, 6, 15, 17)], 0, 6, 13, rfl, by decide, by decide, tw607, xw616, fun z hz => by cases hz⟩
theorem xh_La_insert_2 : XH "ProgramDeskLaw" hs_La_insert 3 2 12 := ⟨[(0, 6, 9, 13)], [(0, 6, 15, 17)], 0, 6, 15, rfl, by decide, by decide, tw608, xw681, by
  intro z hz
  simp only [List.mem_cons, List.not_mem_nil, or_false] at hz
  rcases hz with rfl
  · exact ⟨by decide, "java/lang/IllegalArgumentException", tw607, by decide +kernel⟩⟩
theorem xh_La_insert_3 : XH "ProgramDeskLaw" hs_La_insert 3 3 15 := ⟨[(0, 6, 9, 13), (0, 6, 12, 15)], [], 0, 6, 17, rfl, by decide, by decide, tw609, xw696, by
  intro z hz
  simp only [List.mem_cons, List.not_mem_nil, or_false] at hz
  rcases hz with rfl | rfl
  · exact ⟨by decide, "java/lang/IllegalArgumentException", tw607, by decide +kernel⟩
  · exact ⟨by decide, "java/lang/IndexOutOfBoundsException", tw608, by decide +kernel⟩⟩
set_option maxHeartbeats 4000000 in
set_option maxRecDepth 100000 in
theorem c_La_insert {g : GT} {ax : Nat → Nat} {am : Nat → Nat} {ad : Nat → Nat} {bd : Nat → Nat} {a1 : Int32} {a2 : Int32} {k : DS} {d : DS} {b : DS} {q : Int32 × DS × DS × DS} (hf : f_La_insert a1 a2 k d b = some q) : MH g y_La_insert b_La_insert 4 (some .int) hs_La_insert rm_La_insert [.ref (ax 0), .int a1, .int a2] (wX g ax am ad bd ++ (wM g am k.1 k.2 ++ (wD g ad d.1 d.2 ++ wD g bd b.1 b.2))) q.1 (wX g ax am ad bd ++ (wM g am q.2.1.1 q.2.1.2 ++ (wD g ad q.2.2.1.1 q.2.2.1.2 ++ wD g bd q.2.2.2.1 q.2.2.2.2))) := by
  refine MH.of (by decide) (Nat.le_of_ble_eq_true rfl) (fun 𝒥 CH => ?_)
  have C := CH.K
  unfold f_La_insert at hf
  change 𝒥 0 0 (wX g ax am ad bd ++ (wM g am k.1 k.2 ++ (wD g ad d.1 d.2 ++ wD g bd b.1 b.2))) [(0, .ref (ax 0)), (1, .int a1), (2, .int a2)] [] 0
  refine j_aload_n (pc := 0) C d_La_insert_0 rfl 0 rfl ?_
  refine j_iload_n (pc := 1) C d_La_insert_1 rfl 1 rfl ?_
  refine j_iload_n (pc := 2) C d_La_insert_2 rfl 2 rfl ?_
  obtain ⟨q1, eq1, hf⟩ := ob hf
  refine j_callX (pc := 3) CH (rest := []) (ws' := catb [wX g ax am ad bd ++ (wM g am q1.2.1.1 q1.2.1.2 ++ (wD g ad q1.2.2.1.1 q1.2.2.1.2 ++ (wD g bd q1.2.2.2.1 q1.2.2.2.2)))]) d_La_insert_3 (c_X_insert (g := g)  eq1) cv_X_insert tw610 0 rfl rfl (cut_blk [wX g ax am ad bd ++ (wM g am k.1 k.2 ++ (wD g ad d.1 d.2 ++ (wD g bd b.1 b.2)))] [wX g ax am ad bd ++ (wM g am q1.2.1.1 q1.2.1.2 ++ (wD g ad q1.2.2.1.1 q1.2.2.1.2 ++ (wD g bd q1.2.2.2.1 q1.2.2.2.2)))] [] [0] rfl rfl (by simp only [catb, List.append_assoc]) rfl rfl rfl rfl) rfl rfl (Nat.le_of_ble_eq_true rfl) (kc2 := 1) (ks2 := 6) (by decide) (fun h2 => ?_) (fun h2 => ?_)
  · rw [if_pos h2] at hf
    refine j_perm C (ws' := wX g ax am ad bd ++ (wM g am q1.2.1.1 q1.2.1.2 ++ (wD g ad q1.2.2.1.1 q1.2.2.1.2 ++ wD g bd q1.2.2.2.1 q1.2.2.2.2))) (by simp only [catb, List.append_assoc]; exact List.Perm.refl _) ?_
    change 𝒥 1 6 (wX g ax am ad bd ++ (wM g am q1.2.1.1 q1.2.1.2 ++ (wD g ad q1.2.2.1.1 q1.2.2.1.2 ++ wD g bd q1.2.2.2.1 q1.2.2.2.2))) [(0, .ref (ax 0)), (1, .int a1), (2, .int a2)] [] 6
    refine j_goto (pc := 6) C d_La_insert_6 (tgt := 18) rfl ?_
    refine j_iconst (pc := 18) C d_La_insert_18 ck_0 ?_
    cases hf
    exact j_iret (pc := 19) C d_La_insert_19 ⟨rfl, rfl⟩ (Nat.le_of_ble_eq_true rfl) (Nat.le_of_ble_eq_true rfl)
  · rw [if_neg h2] at hf
    by_cases h3 : q1.1 = 1
    · rw [if_pos h3] at hf
      refine ⟨9, by rw [h3]; exact xh_La_insert_1, fun yq1 => ?_⟩
      refine j_perm C (ws' := wX g ax am ad bd ++ (wM g am q1.2.1.1 q1.2.1.2 ++ (wD g ad q1.2.2.1.1 q1.2.2.1.2 ++ wD g bd q1.2.2.2.1 q1.2.2.2.2))) (by simp only [catb, List.append_assoc]; exact List.Perm.refl _) ?_
      change 𝒥 1 6 (wX g ax am ad bd ++ (wM g am q1.2.1.1 q1.2.1.2 ++ (wD g ad q1.2.2.1.1 q1.2.2.1.2 ++ wD g bd q1.2.2.2.1 q1.2.2.2.2))) [(0, .ref (ax 0)), (1, .int a1), (2, .int a2)] [.ref yq1] 9
      refine j_astore_n (pc := 9) C d_La_insert_9 rfl [1, 2, 3, 0] (by decide) (lc' := [(0, .ref (ax 0)), (1, .int a1), (2, .int a2), (3, .ref yq1)]) rfl ?_
      refine j_iconst (pc := 10) C d_La_insert_10 ck_1 ?_
      cases hf
      exact j_iret (pc := 11) C d_La_insert_11 ⟨rfl, rfl⟩ (Nat.le_of_ble_eq_true rfl) (Nat.le_of_ble_eq_true rfl)
    rw [if_neg h3] at hf
    by_cases h4 : q1.1 = 2
    · rw [if_pos h4] at hf
      refine ⟨12, by rw [h4]; exact xh_La_insert_2, fun yq1 => ?_⟩
      refine j_perm C (ws' := wX g ax am ad bd ++ (wM g am q1.2.1.1 q1.2.1.2 ++ (wD g ad q1.2.2.1.1 q1.2.2.1.2 ++ wD g bd q1.2.2.2.1 q1.2.2.2.2))) (by simp only [catb, List.append_assoc]; exact List.Perm.refl _) ?_
      change 𝒥 1 6 (wX g ax am ad bd ++ (wM g am q1.2.1.1 q1.2.1.2 ++ (wD g ad q1.2.2.1.1 q1.2.2.1.2 ++ wD g bd q1.2.2.2.1 q1.2.2.2.2))) [(0, .ref (ax 0)), (1, .int a1), (2, .int a2)] [.ref yq1] 12
      refine j_astore_n (pc := 12) C d_La_insert_12 rfl [1, 2, 3, 0] (by decide) (lc' := [(0, .ref (ax 0)), (1, .int a1), (2, .int a2), (3, .ref yq1)]) rfl ?_
      refine j_iconst (pc := 13) C d_La_insert_13 ck_2 ?_
      cases hf
      exact j_iret (pc := 14) C d_La_insert_14 ⟨rfl, rfl⟩ (Nat.le_of_ble_eq_true rfl) (Nat.le_of_ble_eq_true rfl)
    rw [if_neg h4] at hf
    by_cases h5 : q1.1 = 3
    · rw [if_pos h5] at hf
      refine ⟨15, by rw [h5]; exact xh_La_insert_3, fun yq1 => ?_⟩
      refine j_perm C (ws' := wX g ax am ad bd ++ (wM g am q1.2.1.1 q1.2.1.2 ++ (wD g ad q1.2.2.1.1 q1.2.2.1.2 ++ wD g bd q1.2.2.2.1 q1.2.2.2.2))) (by simp only [catb, List.append_assoc]; exact List.Perm.refl _) ?_
      change 𝒥 1 6 (wX g ax am ad bd ++ (wM g am q1.2.1.1 q1.2.1.2 ++ (wD g ad q1.2.2.1.1 q1.2.2.1.2 ++ wD g bd q1.2.2.2.1 q1.2.2.2.2))) [(0, .ref (ax 0)), (1, .int a1), (2, .int a2)] [.ref yq1] 15
      refine j_astore_n (pc := 15) C d_La_insert_15 rfl [1, 2, 3, 0] (by decide) (lc' := [(0, .ref (ax 0)), (1, .int a1), (2, .int a2), (3, .ref yq1)]) rfl ?_
      refine j_iconst (pc := 16) C d_La_insert_16 ck_3 ?_
      cases hf
      exact j_iret (pc := 17) C d_La_insert_17 ⟨rfl, rfl⟩ (Nat.le_of_ble_eq_true rfl) (Nat.le_of_ble_eq_true rfl)
    rw [if_neg h5] at hf
    cases hf
abbrev rm_La_remove : Room := { frames := 7, cells := 1, slots := 6, locals := 103 }
def hs_La_remove : List (Nat × Nat × Nat × Nat) := [(0, 6, 9, 13), (0, 6, 12, 15)]
theorem cw_La_remove : Cond.codeWith y_La_remove b_La_remove 4 (some .int) hs_La_remove ∈ wsG := tw715
theorem cv_La_remove : Cond.initialized y_La_remove.cls ∈ wsG ∧ Cond.static y_La_remove ∈ wsG := ⟨tw0, tw714⟩
theorem xh_La_remove_1 : XH "ProgramDeskLaw" hs_La_remove 3 1 9 := ⟨[], [(0, 6, 12, 15)], 0, 6, 13, rfl, by decide, by decide, tw607, xw616, fun z hz => by cases hz⟩
theorem xh_La_remove_2 : XH "ProgramDeskLaw" hs_La_remove 3 2 12 := ⟨[(0, 6, 9, 13)], [], 0, 6, 15, rfl, by decide, by decide, tw608, xw681, by
  intro z hz
  simp only [List.mem_cons, List.not_mem_nil, or_false] at hz
  rcases hz with rfl
  · exact ⟨by decide, "java/lang/IllegalArgumentException", tw607, by decide +kernel⟩⟩
set_option maxHeartbeats 4000000 in
set_option maxRecDepth 100000 in
theorem c_La_remove {g : GT} {ax : Nat → Nat} {am : Nat → Nat} {ad : Nat → Nat} {bd : Nat → Nat} {a1 : Int32} {a2 : Int32} {k : DS} {d : DS} {b : DS} {q : Int32 × DS × DS × DS} (hf : f_La_remove a1 a2 k d b = some q) : MH g y_La_remove b_La_remove 4 (some .int) hs_La_remove rm_La_remove [.ref (ax 0), .int a1, .int a2] (wX g ax am ad bd ++ (wM g am k.1 k.2 ++ (wD g ad d.1 d.2 ++ wD g bd b.1 b.2))) q.1 (wX g ax am ad bd ++ (wM g am q.2.1.1 q.2.1.2 ++ (wD g ad q.2.2.1.1 q.2.2.1.2 ++ wD g bd q.2.2.2.1 q.2.2.2.2))) := by
  refine MH.of (by decide) (Nat.le_of_ble_eq_true rfl) (fun 𝒥 CH => ?_)
  have C := CH.K
  unfold f_La_remove at hf
  change 𝒥 0 0 (wX g ax am ad bd ++ (wM g am k.1 k.2 ++ (wD g ad d.1 d.2 ++ wD g bd b.1 b.2))) [(0, .ref (ax 0)), (1, .int a1), (2, .int a2)] [] 0
  refine j_aload_n (pc := 0) C d_La_remove_0 rfl 0 rfl ?_
  refine j_iload_n (pc := 1) C d_La_remove_1 rfl 1 rfl ?_
  refine j_iload_n (pc := 2) C d_La_remove_2 rfl 2 rfl ?_
  obtain ⟨q1, eq1, hf⟩ := ob hf
  refine j_callX (pc := 3) CH (rest := []) (ws' := catb [wX g ax am ad bd ++ (wM g am q1.2.1.1 q1.2.1.2 ++ (wD g ad q1.2.2.1.1 q1.2.2.1.2 ++ (wD g bd q1.2.2.2.1 q1.2.2.2.2)))]) d_La_remove_3 (c_X_remove (g := g)  eq1) cv_X_remove tw716 0 rfl rfl (cut_blk [wX g ax am ad bd ++ (wM g am k.1 k.2 ++ (wD g ad d.1 d.2 ++ (wD g bd b.1 b.2)))] [wX g ax am ad bd ++ (wM g am q1.2.1.1 q1.2.1.2 ++ (wD g ad q1.2.2.1.1 q1.2.2.1.2 ++ (wD g bd q1.2.2.2.1 q1.2.2.2.2)))] [] [0] rfl rfl (by simp only [catb, List.append_assoc]) rfl rfl rfl rfl) rfl rfl (Nat.le_of_ble_eq_true rfl) (kc2 := 1) (ks2 := 6) (by decide) (fun h2 => ?_) (fun h2 => ?_)
  · rw [if_pos h2] at hf
    refine j_perm C (ws' := wX g ax am ad bd ++ (wM g am q1.2.1.1 q1.2.1.2 ++ (wD g ad q1.2.2.1.1 q1.2.2.1.2 ++ wD g bd q1.2.2.2.1 q1.2.2.2.2))) (by simp only [catb, List.append_assoc]; exact List.Perm.refl _) ?_
    change 𝒥 1 6 (wX g ax am ad bd ++ (wM g am q1.2.1.1 q1.2.1.2 ++ (wD g ad q1.2.2.1.1 q1.2.2.1.2 ++ wD g bd q1.2.2.2.1 q1.2.2.2.2))) [(0, .ref (ax 0)), (1, .int a1), (2, .int a2)] [] 6
    refine j_goto (pc := 6) C d_La_remove_6 (tgt := 15) rfl ?_
    refine j_iconst (pc := 15) C d_La_remove_15 ck_0 ?_
    cases hf
    exact j_iret (pc := 16) C d_La_remove_16 ⟨rfl, rfl⟩ (Nat.le_of_ble_eq_true rfl) (Nat.le_of_ble_eq_true rfl)
  · rw [if_neg h2] at hf
    by_cases h3 : q1.1 = 1
    · rw [if_pos h3] at hf
      refine ⟨9, by rw [h3]; exact xh_La_remove_1, fun yq1 => ?_⟩
      refine j_perm C (ws' := wX g ax am ad bd ++ (wM g am q1.2.1.1 q1.2.1.2 ++ (wD g ad q1.2.2.1.1 q1.2.2.1.2 ++ wD g bd q1.2.2.2.1 q1.2.2.2.2))) (by simp only [catb, List.append_assoc]; exact List.Perm.refl _) ?_
      change 𝒥 1 6 (wX g ax am ad bd ++ (wM g am q1.2.1.1 q1.2.1.2 ++ (wD g ad q1.2.2.1.1 q1.2.2.1.2 ++ wD g bd q1.2.2.2.1 q1.2.2.2.2))) [(0, .ref (ax 0)), (1, .int a1), (2, .int a2)] [.ref yq1] 9
      refine j_astore_n (pc := 9) C d_La_remove_9 rfl [1, 2, 3, 0] (by decide) (lc' := [(0, .ref (ax 0)), (1, .int a1), (2, .int a2), (3, .ref yq1)]) rfl ?_
      refine j_iconst (pc := 10) C d_La_remove_10 ck_1 ?_
      cases hf
      exact j_iret (pc := 11) C d_La_remove_11 ⟨rfl, rfl⟩ (Nat.le_of_ble_eq_true rfl) (Nat.le_of_ble_eq_true rfl)
    rw [if_neg h3] at hf
    by_cases h4 : q1.1 = 2
    · rw [if_pos h4] at hf
      refine ⟨12, by rw [h4]; exact xh_La_remove_2, fun yq1 => ?_⟩
      refine j_perm C (ws' := wX g ax am ad bd ++ (wM g am q1.2.1.1 q1.2.1.2 ++ (wD g ad q1.2.2.1.1 q1.2.2.1.2 ++ wD g bd q1.2.2.2.1 q1.2.2.2.2))) (by simp only [catb, List.append_assoc]; exact List.Perm.refl _) ?_
      change 𝒥 1 6 (wX g ax am ad bd ++ (wM g am q1.2.1.1 q1.2.1.2 ++ (wD g ad q1.2.2.1.1 q1.2.2.1.2 ++ wD g bd q1.2.2.2.1 q1.2.2.2.2))) [(0, .ref (ax 0)), (1, .int a1), (2, .int a2)] [.ref yq1] 12
      refine j_astore_n (pc := 12) C d_La_remove_12 rfl [1, 2, 3, 0] (by decide) (lc' := [(0, .ref (ax 0)), (1, .int a1), (2, .int a2), (3, .ref yq1)]) rfl ?_
      refine j_iconst (pc := 13) C d_La_remove_13 ck_2 ?_
      cases hf
      exact j_iret (pc := 14) C d_La_remove_14 ⟨rfl, rfl⟩ (Nat.le_of_ble_eq_true rfl) (Nat.le_of_ble_eq_true rfl)
    rw [if_neg h4] at hf
    cases hf
abbrev rm_La_letter : Room := { frames := 7, cells := 1, slots := 6, locals := 102 }
def hs_La_letter : List (Nat × Nat × Nat × Nat) := [(0, 9, 12, 15)]
theorem cw_La_letter : Cond.codeWith y_La_letter b_La_letter 4 (some .int) hs_La_letter ∈ wsG := tw726
theorem cv_La_letter : Cond.initialized y_La_letter.cls ∈ wsG ∧ Cond.static y_La_letter ∈ wsG := ⟨tw0, tw725⟩
theorem xh_La_letter_2 : XH "ProgramDeskLaw" hs_La_letter 4 2 12 := ⟨[], [], 0, 9, 15, rfl, by decide, by decide, tw608, xw681, fun z hz => by cases hz⟩
set_option maxHeartbeats 4000000 in
set_option maxRecDepth 100000 in
theorem c_La_letter {g : GT} {ax : Nat → Nat} {am : Nat → Nat} {ad : Nat → Nat} {bd : Nat → Nat} {ao : Nat → Nat} {a1 : Int32} {k : DS} {d : DS} {b : DS} {o : OS} {q : Int32 × DS × DS × DS × OS} (hf : f_La_letter a1 k d b o = some q) : MH g y_La_letter b_La_letter 4 (some .int) hs_La_letter rm_La_letter [.ref (ax 0), .int a1, .ref (ao 0)] (wX g ax am ad bd ++ (wM g am k.1 k.2 ++ (wD g ad d.1 d.2 ++ (wD g bd b.1 b.2 ++ wO g ao o)))) q.1 (wX g ax am ad bd ++ (wM g am q.2.1.1 q.2.1.2 ++ (wD g ad q.2.2.1.1 q.2.2.1.2 ++ (wD g bd q.2.2.2.1.1 q.2.2.2.1.2 ++ wO g ao q.2.2.2.2)))) := by
  refine MH.of (by decide) (Nat.le_of_ble_eq_true rfl) (fun 𝒥 CH => ?_)
  have C := CH.K
  unfold f_La_letter at hf
  change 𝒥 0 0 (wX g ax am ad bd ++ (wM g am k.1 k.2 ++ (wD g ad d.1 d.2 ++ (wD g bd b.1 b.2 ++ wO g ao o)))) [(0, .ref (ax 0)), (1, .int a1), (2, .ref (ao 0))] [] 0
  refine j_aload_n (pc := 0) C d_La_letter_0 rfl 2 rfl ?_
  refine j_iconst (pc := 1) C d_La_letter_1 ck_0 ?_
  refine j_aload_n (pc := 2) C d_La_letter_2 rfl 0 rfl ?_
  refine j_iload_n (pc := 3) C d_La_letter_3 rfl 1 rfl ?_
  obtain ⟨q1, eq1, hf⟩ := ob hf
  refine j_callX (pc := 4) CH (rest := [.int 0, .ref (ao 0)]) (ws' := catb [wX g ax am ad bd ++ (wM g am q1.2.2.1.1 q1.2.2.1.2 ++ (wD g ad q1.2.2.2.1.1 q1.2.2.2.1.2 ++ (wD g bd q1.2.2.2.2.1 q1.2.2.2.2.2))), wO g ao o]) d_La_letter_4 (c_X_letter (g := g)  eq1) cv_X_letter tw727 0 rfl rfl (cut_blk [wX g ax am ad bd ++ (wM g am k.1 k.2 ++ (wD g ad d.1 d.2 ++ (wD g bd b.1 b.2))), wO g ao o] [wX g ax am ad bd ++ (wM g am q1.2.2.1.1 q1.2.2.1.2 ++ (wD g ad q1.2.2.2.1.1 q1.2.2.2.1.2 ++ (wD g bd q1.2.2.2.2.1 q1.2.2.2.2.2))), wO g ao o] [1] [0] rfl rfl (by simp only [catb, List.append_assoc]) rfl rfl rfl rfl) rfl rfl (Nat.le_of_ble_eq_true rfl) (kc2 := 1) (ks2 := 6) (by decide) (fun h2 => ?_) (fun h2 => ?_)
  · rw [if_pos h2] at hf
    refine j_perm C (ws' := wX g ax am ad bd ++ (wM g am q1.2.2.1.1 q1.2.2.1.2 ++ (wD g ad q1.2.2.2.1.1 q1.2.2.2.1.2 ++ (wD g bd q1.2.2.2.2.1 q1.2.2.2.2.2 ++ wO g ao o)))) (by simp only [catb, List.append_assoc]; exact List.Perm.refl _) ?_
    change 𝒥 1 6 (wX g ax am ad bd ++ (wM g am q1.2.2.1.1 q1.2.2.1.2 ++ (wD g ad q1.2.2.2.1.1 q1.2.2.2.1.2 ++ (wD g bd q1.2.2.2.2.1 q1.2.2.2.2.2 ++ wO g ao o)))) [(0, .ref (ax 0)), (1, .int a1), (2, .ref (ao 0))] [.int q1.2.1, .int 0, .ref (ao 0)] 7
    refine j_i2l (pc := 7) C d_La_letter_7 rfl ?_
    refine j_last (pc := 8) C d_La_letter_8 66 (inb_in (by decide)) rfl (ws' := wX g ax am ad bd ++ (wM g am q1.2.2.1.1 q1.2.2.1.2 ++ (wD g ad q1.2.2.2.1.1 q1.2.2.2.1.2 ++ (wD g bd q1.2.2.2.2.1 q1.2.2.2.2.2 ++ wO g ao (vp_updL o 0 q1.2.1.toInt64))))) rfl ?_
    refine j_goto (pc := 9) C d_La_letter_9 (tgt := 15) rfl ?_
    refine j_iconst (pc := 15) C d_La_letter_15 ck_0 ?_
    cases hf
    exact j_iret (pc := 16) C d_La_letter_16 ⟨rfl, rfl⟩ (Nat.le_of_ble_eq_true rfl) (Nat.le_of_ble_eq_true rfl)
  · rw [if_neg h2] at hf
    by_cases h4 : q1.1 = 2
    · rw [if_pos h4] at hf
      refine ⟨12, by rw [h4]; exact xh_La_letter_2, fun yq1 => ?_⟩
      refine j_perm C (ws' := wX g ax am ad bd ++ (wM g am q1.2.2.1.1 q1.2.2.1.2 ++ (wD g ad q1.2.2.2.1.1 q1.2.2.2.1.2 ++ (wD g bd q1.2.2.2.2.1 q1.2.2.2.2.2 ++ wO g ao o)))) (by simp only [catb, List.append_assoc]; exact List.Perm.refl _) ?_
      change 𝒥 1 6 (wX g ax am ad bd ++ (wM g am q1.2.2.1.1 q1.2.2.1.2 ++ (wD g ad q1.2.2.2.1.1 q1.2.2.2.1.2 ++ (wD g bd q1.2.2.2.2.1 q1.2.2.2.2.2 ++ wO g ao o)))) [(0, .ref (ax 0)), (1, .int a1), (2, .ref (ao 0))] [.ref yq1] 12
      refine j_astore_n (pc := 12) C d_La_letter_12 rfl [1, 2, 3, 0] (by decide) (lc' := [(0, .ref (ax 0)), (1, .int a1), (2, .ref (ao 0)), (3, .ref yq1)]) rfl ?_
      refine j_iconst (pc := 13) C d_La_letter_13 ck_1 ?_
      cases hf
      exact j_iret (pc := 14) C d_La_letter_14 ⟨rfl, rfl⟩ (Nat.le_of_ble_eq_true rfl) (Nat.le_of_ble_eq_true rfl)
    rw [if_neg h4] at hf
    cases hf
abbrev rm_La_token : Room := { frames := 42, cells := 1, slots := 6, locals := 1184 }
def hs_La_token : List (Nat × Nat × Nat × Nat) := [(0, 10, 13, 13), (0, 10, 17, 31)]
theorem cw_La_token : Cond.codeWith y_La_token b_La_token 5 (some .int) hs_La_token ∈ wsG := tw733
theorem cv_La_token : Cond.initialized y_La_token.cls ∈ wsG ∧ Cond.static y_La_token ∈ wsG := ⟨tw0, tw732⟩
theorem xh_La_token_1 : XH "ProgramDeskLaw" hs_La_token 5 1 13 := ⟨[], [(0, 10, 17, 31)], 0, 10, 13, rfl, by decide, by decide, tw607, xw616, fun z hz => by cases hz⟩
theorem xh_La_token_4 : XH "ProgramDeskLaw" hs_La_token 5 4 17 := ⟨[(0, 10, 13, 13)], [], 0, 10, 31, rfl, by decide, by decide, tw734, xw741, by
  intro z hz
  simp only [List.mem_cons, List.not_mem_nil, or_false] at hz
  rcases hz with rfl
  · exact ⟨by decide, "java/lang/IllegalArgumentException", tw607, by decide +kernel⟩⟩
set_option maxHeartbeats 4000000 in
set_option maxRecDepth 100000 in
theorem c_La_token {g : GT} {ax : Nat → Nat} {am : Nat → Nat} {ad : Nat → Nat} {bd : Nat → Nat} {ao : Nat → Nat} {a1 : Int32} {a2 : Int32} {k : DS} {d : DS} {b : DS} {o : OS} {q : Int32 × DS × DS × DS × OS} (hf : f_La_token a1 a2 k d b o = some q) : MH g y_La_token b_La_token 5 (some .int) hs_La_token rm_La_token [.ref (ax 0), .int a1, .int a2, .ref (ao 0)] (wX g ax am ad bd ++ (wM g am k.1 k.2 ++ (wD g ad d.1 d.2 ++ (wD g bd b.1 b.2 ++ wO g ao o)))) q.1 (wX g ax am ad bd ++ (wM g am q.2.1.1 q.2.1.2 ++ (wD g ad q.2.2.1.1 q.2.2.1.2 ++ (wD g bd q.2.2.2.1.1 q.2.2.2.1.2 ++ wO g ao q.2.2.2.2)))) := by
  refine MH.of (by decide) (Nat.le_of_ble_eq_true rfl) (fun 𝒥 CH => ?_)
  have C := CH.K
  unfold f_La_token at hf
  change 𝒥 0 0 (wX g ax am ad bd ++ (wM g am k.1 k.2 ++ (wD g ad d.1 d.2 ++ (wD g bd b.1 b.2 ++ wO g ao o)))) [(0, .ref (ax 0)), (1, .int a1), (2, .int a2), (3, .ref (ao 0))] [] 0
  refine j_aload_n (pc := 0) C d_La_token_0 rfl 3 rfl ?_
  refine j_iconst (pc := 1) C d_La_token_1 ck_0 ?_
  refine j_aload_n (pc := 2) C d_La_token_2 rfl 0 rfl ?_
  refine j_iload_n (pc := 3) C d_La_token_3 rfl 1 rfl ?_
  refine j_iload_n (pc := 4) C d_La_token_4 rfl 2 rfl ?_
  obtain ⟨q1, eq1, hf⟩ := ob hf
  refine j_callX (pc := 5) CH (rest := [.int 0, .ref (ao 0)]) (ws' := catb [wX g ax am ad bd ++ (wM g am q1.2.2.1.1 q1.2.2.1.2 ++ (wD g ad q1.2.2.2.1.1 q1.2.2.2.1.2 ++ (wD g bd q1.2.2.2.2.1 q1.2.2.2.2.2))), wO g ao o]) d_La_token_5 (c_X_token (g := g)  eq1) cv_X_token tw735 0 rfl rfl (cut_blk [wX g ax am ad bd ++ (wM g am k.1 k.2 ++ (wD g ad d.1 d.2 ++ (wD g bd b.1 b.2))), wO g ao o] [wX g ax am ad bd ++ (wM g am q1.2.2.1.1 q1.2.2.1.2 ++ (wD g ad q1.2.2.2.1.1 q1.2.2.2.1.2 ++ (wD g bd q1.2.2.2.2.1 q1.2.2.2.2.2))), wO g ao o] [1] [0] rfl rfl (by simp only [catb, List.append_assoc]) rfl rfl rfl rfl) rfl rfl (Nat.le_of_ble_eq_true rfl) (kc2 := 1) (ks2 := 6) (by decide) (fun h2 => ?_) (fun h2 => ?_)
  · rw [if_pos h2] at hf
    refine j_perm C (ws' := wX g ax am ad bd ++ (wM g am q1.2.2.1.1 q1.2.2.1.2 ++ (wD g ad q1.2.2.2.1.1 q1.2.2.2.1.2 ++ (wD g bd q1.2.2.2.2.1 q1.2.2.2.2.2 ++ wO g ao o)))) (by simp only [catb, List.append_assoc]; exact List.Perm.refl _) ?_
    change 𝒥 1 6 (wX g ax am ad bd ++ (wM g am q1.2.2.1.1 q1.2.2.1.2 ++ (wD g ad q1.2.2.2.1.1 q1.2.2.2.1.2 ++ (wD g bd q1.2.2.2.2.1 q1.2.2.2.2.2 ++ wO g ao o)))) [(0, .ref (ax 0)), (1, .int a1), (2, .int a2), (3, .ref (ao 0))] [.int q1.2.1, .int 0, .ref (ao 0)] 8
    refine j_i2l (pc := 8) C d_La_token_8 rfl ?_
    refine j_last (pc := 9) C d_La_token_9 66 (inb_in (by decide)) rfl (ws' := wX g ax am ad bd ++ (wM g am q1.2.2.1.1 q1.2.2.1.2 ++ (wD g ad q1.2.2.2.1.1 q1.2.2.2.1.2 ++ (wD g bd q1.2.2.2.2.1 q1.2.2.2.2.2 ++ wO g ao (vp_updL o 0 q1.2.1.toInt64))))) rfl ?_
    refine j_goto (pc := 10) C d_La_token_10 (tgt := 21) rfl ?_
    refine j_iconst (pc := 21) C d_La_token_21 ck_0 ?_
    cases hf
    exact j_iret (pc := 22) C d_La_token_22 ⟨rfl, rfl⟩ (Nat.le_of_ble_eq_true rfl) (Nat.le_of_ble_eq_true rfl)
  · rw [if_neg h2] at hf
    by_cases h4 : q1.1 = 1
    · rw [if_pos h4] at hf
      refine ⟨13, by rw [h4]; exact xh_La_token_1, fun yq1 => ?_⟩
      refine j_perm C (ws' := wX g ax am ad bd ++ (wM g am q1.2.2.1.1 q1.2.2.1.2 ++ (wD g ad q1.2.2.2.1.1 q1.2.2.2.1.2 ++ (wD g bd q1.2.2.2.2.1 q1.2.2.2.2.2 ++ wO g ao o)))) (by simp only [catb, List.append_assoc]; exact List.Perm.refl _) ?_
      change 𝒥 1 6 (wX g ax am ad bd ++ (wM g am q1.2.2.1.1 q1.2.2.1.2 ++ (wD g ad q1.2.2.2.1.1 q1.2.2.2.1.2 ++ (wD g bd q1.2.2.2.2.1 q1.2.2.2.2.2 ++ wO g ao o)))) [(0, .ref (ax 0)), (1, .int a1), (2, .int a2), (3, .ref (ao 0))] [.ref yq1] 13
      refine j_astore (pc := 13) C d_La_token_13 [1, 2, 3, 4, 0] (by decide) (lc' := [(0, .ref (ax 0)), (1, .int a1), (2, .int a2), (3, .ref (ao 0)), (4, .ref yq1)]) rfl ?_
      refine j_iconst (pc := 15) C d_La_token_15 ck_1 ?_
      cases hf
      exact j_iret (pc := 16) C d_La_token_16 ⟨rfl, rfl⟩ (Nat.le_of_ble_eq_true rfl) (Nat.le_of_ble_eq_true rfl)
    rw [if_neg h4] at hf
    by_cases h5 : q1.1 = 4
    · rw [if_pos h5] at hf
      refine ⟨17, by rw [h5]; exact xh_La_token_4, fun yq1 => ?_⟩
      refine j_perm C (ws' := wX g ax am ad bd ++ (wM g am q1.2.2.1.1 q1.2.2.1.2 ++ (wD g ad q1.2.2.2.1.1 q1.2.2.2.1.2 ++ (wD g bd q1.2.2.2.2.1 q1.2.2.2.2.2 ++ wO g ao o)))) (by simp only [catb, List.append_assoc]; exact List.Perm.refl _) ?_
      change 𝒥 1 6 (wX g ax am ad bd ++ (wM g am q1.2.2.1.1 q1.2.2.1.2 ++ (wD g ad q1.2.2.2.1.1 q1.2.2.2.1.2 ++ (wD g bd q1.2.2.2.2.1 q1.2.2.2.2.2 ++ wO g ao o)))) [(0, .ref (ax 0)), (1, .int a1), (2, .int a2), (3, .ref (ao 0))] [.ref yq1] 17
      refine j_astore (pc := 17) C d_La_token_17 [1, 2, 3, 4, 0] (by decide) (lc' := [(0, .ref (ax 0)), (1, .int a1), (2, .int a2), (3, .ref (ao 0)), (4, .ref yq1)]) rfl ?_
      refine j_iconst (pc := 19) C d_La_token_19 ck_2 ?_
      cases hf
      exact j_iret (pc := 20) C d_La_token_20 ⟨rfl, rfl⟩ (Nat.le_of_ble_eq_true rfl) (Nat.le_of_ble_eq_true rfl)
    rw [if_neg h5] at hf
    cases hf
abbrev rm_La_fault : Room := { frames := 42, cells := 1, slots := 6, locals := 1183 }
def hs_La_fault : List (Nat × Nat × Nat × Nat) := [(0, 9, 12, 31)]
theorem cw_La_fault : Cond.codeWith y_La_fault b_La_fault 4 (some .int) hs_La_fault ∈ wsG := tw756
theorem cv_La_fault : Cond.initialized y_La_fault.cls ∈ wsG ∧ Cond.static y_La_fault ∈ wsG := ⟨tw0, tw755⟩
theorem xh_La_fault_4 : XH "ProgramDeskLaw" hs_La_fault 4 4 12 := ⟨[], [], 0, 9, 31, rfl, by decide, by decide, tw734, xw741, fun z hz => by cases hz⟩
set_option maxHeartbeats 4000000 in
set_option maxRecDepth 100000 in
theorem c_La_fault {g : GT} {ax : Nat → Nat} {am : Nat → Nat} {ad : Nat → Nat} {bd : Nat → Nat} {ao : Nat → Nat} {a1 : Int32} {k : DS} {d : DS} {b : DS} {o : OS} {q : Int32 × DS × DS × DS × OS} (hf : f_La_fault a1 k d b o = some q) : MH g y_La_fault b_La_fault 4 (some .int) hs_La_fault rm_La_fault [.ref (ax 0), .int a1, .ref (ao 0)] (wX g ax am ad bd ++ (wM g am k.1 k.2 ++ (wD g ad d.1 d.2 ++ (wD g bd b.1 b.2 ++ wO g ao o)))) q.1 (wX g ax am ad bd ++ (wM g am q.2.1.1 q.2.1.2 ++ (wD g ad q.2.2.1.1 q.2.2.1.2 ++ (wD g bd q.2.2.2.1.1 q.2.2.2.1.2 ++ wO g ao q.2.2.2.2)))) := by
  refine MH.of (by decide) (Nat.le_of_ble_eq_true rfl) (fun 𝒥 CH => ?_)
  have C := CH.K
  unfold f_La_fault at hf
  change 𝒥 0 0 (wX g ax am ad bd ++ (wM g am k.1 k.2 ++ (wD g ad d.1 d.2 ++ (wD g bd b.1 b.2 ++ wO g ao o)))) [(0, .ref (ax 0)), (1, .int a1), (2, .ref (ao 0))] [] 0
  refine j_aload_n (pc := 0) C d_La_fault_0 rfl 2 rfl ?_
  refine j_iconst (pc := 1) C d_La_fault_1 ck_0 ?_
  refine j_aload_n (pc := 2) C d_La_fault_2 rfl 0 rfl ?_
  refine j_iload_n (pc := 3) C d_La_fault_3 rfl 1 rfl ?_
  obtain ⟨q1, eq1, hf⟩ := ob hf
  refine j_callX (pc := 4) CH (rest := [.int 0, .ref (ao 0)]) (ws' := catb [wX g ax am ad bd ++ (wM g am q1.2.2.1.1 q1.2.2.1.2 ++ (wD g ad q1.2.2.2.1.1 q1.2.2.2.1.2 ++ (wD g bd q1.2.2.2.2.1 q1.2.2.2.2.2))), wO g ao o]) d_La_fault_4 (c_X_fault (g := g)  eq1) cv_X_fault tw757 0 rfl rfl (cut_blk [wX g ax am ad bd ++ (wM g am k.1 k.2 ++ (wD g ad d.1 d.2 ++ (wD g bd b.1 b.2))), wO g ao o] [wX g ax am ad bd ++ (wM g am q1.2.2.1.1 q1.2.2.1.2 ++ (wD g ad q1.2.2.2.1.1 q1.2.2.2.1.2 ++ (wD g bd q1.2.2.2.2.1 q1.2.2.2.2.2))), wO g ao o] [1] [0] rfl rfl (by simp only [catb, List.append_assoc]) rfl rfl rfl rfl) rfl rfl (Nat.le_of_ble_eq_true rfl) (kc2 := 1) (ks2 := 6) (by decide) (fun h2 => ?_) (fun h2 => ?_)
  · rw [if_pos h2] at hf
    refine j_perm C (ws' := wX g ax am ad bd ++ (wM g am q1.2.2.1.1 q1.2.2.1.2 ++ (wD g ad q1.2.2.2.1.1 q1.2.2.2.1.2 ++ (wD g bd q1.2.2.2.2.1 q1.2.2.2.2.2 ++ wO g ao o)))) (by simp only [catb, List.append_assoc]; exact List.Perm.refl _) ?_
    change 𝒥 1 6 (wX g ax am ad bd ++ (wM g am q1.2.2.1.1 q1.2.2.1.2 ++ (wD g ad q1.2.2.2.1.1 q1.2.2.2.1.2 ++ (wD g bd q1.2.2.2.2.1 q1.2.2.2.2.2 ++ wO g ao o)))) [(0, .ref (ax 0)), (1, .int a1), (2, .ref (ao 0))] [.int q1.2.1, .int 0, .ref (ao 0)] 7
    refine j_i2l (pc := 7) C d_La_fault_7 rfl ?_
    refine j_last (pc := 8) C d_La_fault_8 66 (inb_in (by decide)) rfl (ws' := wX g ax am ad bd ++ (wM g am q1.2.2.1.1 q1.2.2.1.2 ++ (wD g ad q1.2.2.2.1.1 q1.2.2.2.1.2 ++ (wD g bd q1.2.2.2.2.1 q1.2.2.2.2.2 ++ wO g ao (vp_updL o 0 q1.2.1.toInt64))))) rfl ?_
    refine j_goto (pc := 9) C d_La_fault_9 (tgt := 15) rfl ?_
    refine j_iconst (pc := 15) C d_La_fault_15 ck_0 ?_
    cases hf
    exact j_iret (pc := 16) C d_La_fault_16 ⟨rfl, rfl⟩ (Nat.le_of_ble_eq_true rfl) (Nat.le_of_ble_eq_true rfl)
  · rw [if_neg h2] at hf
    by_cases h4 : q1.1 = 4
    · rw [if_pos h4] at hf
      refine ⟨12, by rw [h4]; exact xh_La_fault_4, fun yq1 => ?_⟩
      refine j_perm C (ws' := wX g ax am ad bd ++ (wM g am q1.2.2.1.1 q1.2.2.1.2 ++ (wD g ad q1.2.2.2.1.1 q1.2.2.2.1.2 ++ (wD g bd q1.2.2.2.2.1 q1.2.2.2.2.2 ++ wO g ao o)))) (by simp only [catb, List.append_assoc]; exact List.Perm.refl _) ?_
      change 𝒥 1 6 (wX g ax am ad bd ++ (wM g am q1.2.2.1.1 q1.2.2.1.2 ++ (wD g ad q1.2.2.2.1.1 q1.2.2.2.1.2 ++ (wD g bd q1.2.2.2.2.1 q1.2.2.2.2.2 ++ wO g ao o)))) [(0, .ref (ax 0)), (1, .int a1), (2, .ref (ao 0))] [.ref yq1] 12
      refine j_astore_n (pc := 12) C d_La_fault_12 rfl [1, 2, 3, 0] (by decide) (lc' := [(0, .ref (ax 0)), (1, .int a1), (2, .ref (ao 0)), (3, .ref yq1)]) rfl ?_
      refine j_iconst (pc := 13) C d_La_fault_13 ck_1 ?_
      cases hf
      exact j_iret (pc := 14) C d_La_fault_14 ⟨rfl, rfl⟩ (Nat.le_of_ble_eq_true rfl) (Nat.le_of_ble_eq_true rfl)
    rw [if_neg h4] at hf
    cases hf
abbrev rm_La_reference : Room := { frames := 42, cells := 1, slots := 6, locals := 1187 }
def hs_La_reference : List (Nat × Nat × Nat × Nat) := [(0, 10, 13, 31)]
theorem cw_La_reference : Cond.codeWith y_La_reference b_La_reference 5 (some .int) hs_La_reference ∈ wsG := tw763
theorem cv_La_reference : Cond.initialized y_La_reference.cls ∈ wsG ∧ Cond.static y_La_reference ∈ wsG := ⟨tw0, tw762⟩
theorem xh_La_reference_4 : XH "ProgramDeskLaw" hs_La_reference 5 4 13 := ⟨[], [], 0, 10, 31, rfl, by decide, by decide, tw734, xw741, fun z hz => by cases hz⟩
set_option maxHeartbeats 4000000 in
set_option maxRecDepth 100000 in
theorem c_La_reference {g : GT} {ax : Nat → Nat} {am : Nat → Nat} {ad : Nat → Nat} {bd : Nat → Nat} {ao : Nat → Nat} {a1 : Int32} {a2 : Int32} {k : DS} {d : DS} {b : DS} {o : OS} {q : Int32 × DS × DS × DS × OS} (hf : f_La_reference a1 a2 k d b o = some q) : MH g y_La_reference b_La_reference 5 (some .int) hs_La_reference rm_La_reference [.ref (ax 0), .int a1, .int a2, .ref (ao 0)] (wX g ax am ad bd ++ (wM g am k.1 k.2 ++ (wD g ad d.1 d.2 ++ (wD g bd b.1 b.2 ++ wO g ao o)))) q.1 (wX g ax am ad bd ++ (wM g am q.2.1.1 q.2.1.2 ++ (wD g ad q.2.2.1.1 q.2.2.1.2 ++ (wD g bd q.2.2.2.1.1 q.2.2.2.1.2 ++ wO g ao q.2.2.2.2)))) := by
  refine MH.of (by decide) (Nat.le_of_ble_eq_true rfl) (fun 𝒥 CH => ?_)
  have C := CH.K
  unfold f_La_reference at hf
  change 𝒥 0 0 (wX g ax am ad bd ++ (wM g am k.1 k.2 ++ (wD g ad d.1 d.2 ++ (wD g bd b.1 b.2 ++ wO g ao o)))) [(0, .ref (ax 0)), (1, .int a1), (2, .int a2), (3, .ref (ao 0))] [] 0
  refine j_aload_n (pc := 0) C d_La_reference_0 rfl 3 rfl ?_
  refine j_iconst (pc := 1) C d_La_reference_1 ck_0 ?_
  refine j_aload_n (pc := 2) C d_La_reference_2 rfl 0 rfl ?_
  refine j_iload_n (pc := 3) C d_La_reference_3 rfl 1 rfl ?_
  refine j_iload_n (pc := 4) C d_La_reference_4 rfl 2 rfl ?_
  obtain ⟨q1, eq1, hf⟩ := ob hf
  refine j_callX (pc := 5) CH (rest := [.int 0, .ref (ao 0)]) (ws' := catb [wX g ax am ad bd ++ (wM g am q1.2.2.1.1 q1.2.2.1.2 ++ (wD g ad q1.2.2.2.1.1 q1.2.2.2.1.2 ++ (wD g bd q1.2.2.2.2.1 q1.2.2.2.2.2))), wO g ao o]) d_La_reference_5 (c_X_reference (g := g)  eq1) cv_X_reference tw764 0 rfl rfl (cut_blk [wX g ax am ad bd ++ (wM g am k.1 k.2 ++ (wD g ad d.1 d.2 ++ (wD g bd b.1 b.2))), wO g ao o] [wX g ax am ad bd ++ (wM g am q1.2.2.1.1 q1.2.2.1.2 ++ (wD g ad q1.2.2.2.1.1 q1.2.2.2.1.2 ++ (wD g bd q1.2.2.2.2.1 q1.2.2.2.2.2))), wO g ao o] [1] [0] rfl rfl (by simp only [catb, List.append_assoc]) rfl rfl rfl rfl) rfl rfl (Nat.le_of_ble_eq_true rfl) (kc2 := 1) (ks2 := 6) (by decide) (fun h2 => ?_) (fun h2 => ?_)
  · rw [if_pos h2] at hf
    refine j_perm C (ws' := wX g ax am ad bd ++ (wM g am q1.2.2.1.1 q1.2.2.1.2 ++ (wD g ad q1.2.2.2.1.1 q1.2.2.2.1.2 ++ (wD g bd q1.2.2.2.2.1 q1.2.2.2.2.2 ++ wO g ao o)))) (by simp only [catb, List.append_assoc]; exact List.Perm.refl _) ?_
    change 𝒥 1 6 (wX g ax am ad bd ++ (wM g am q1.2.2.1.1 q1.2.2.1.2 ++ (wD g ad q1.2.2.2.1.1 q1.2.2.2.1.2 ++ (wD g bd q1.2.2.2.2.1 q1.2.2.2.2.2 ++ wO g ao o)))) [(0, .ref (ax 0)), (1, .int a1), (2, .int a2), (3, .ref (ao 0))] [.int q1.2.1, .int 0, .ref (ao 0)] 8
    refine j_i2l (pc := 8) C d_La_reference_8 rfl ?_
    refine j_last (pc := 9) C d_La_reference_9 66 (inb_in (by decide)) rfl (ws' := wX g ax am ad bd ++ (wM g am q1.2.2.1.1 q1.2.2.1.2 ++ (wD g ad q1.2.2.2.1.1 q1.2.2.2.1.2 ++ (wD g bd q1.2.2.2.2.1 q1.2.2.2.2.2 ++ wO g ao (vp_updL o 0 q1.2.1.toInt64))))) rfl ?_
    refine j_goto (pc := 10) C d_La_reference_10 (tgt := 17) rfl ?_
    refine j_iconst (pc := 17) C d_La_reference_17 ck_0 ?_
    cases hf
    exact j_iret (pc := 18) C d_La_reference_18 ⟨rfl, rfl⟩ (Nat.le_of_ble_eq_true rfl) (Nat.le_of_ble_eq_true rfl)
  · rw [if_neg h2] at hf
    by_cases h4 : q1.1 = 4
    · rw [if_pos h4] at hf
      refine ⟨13, by rw [h4]; exact xh_La_reference_4, fun yq1 => ?_⟩
      refine j_perm C (ws' := wX g ax am ad bd ++ (wM g am q1.2.2.1.1 q1.2.2.1.2 ++ (wD g ad q1.2.2.2.1.1 q1.2.2.2.1.2 ++ (wD g bd q1.2.2.2.2.1 q1.2.2.2.2.2 ++ wO g ao o)))) (by simp only [catb, List.append_assoc]; exact List.Perm.refl _) ?_
      change 𝒥 1 6 (wX g ax am ad bd ++ (wM g am q1.2.2.1.1 q1.2.2.1.2 ++ (wD g ad q1.2.2.2.1.1 q1.2.2.2.1.2 ++ (wD g bd q1.2.2.2.2.1 q1.2.2.2.2.2 ++ wO g ao o)))) [(0, .ref (ax 0)), (1, .int a1), (2, .int a2), (3, .ref (ao 0))] [.ref yq1] 13
      refine j_astore (pc := 13) C d_La_reference_13 [1, 2, 3, 4, 0] (by decide) (lc' := [(0, .ref (ax 0)), (1, .int a1), (2, .int a2), (3, .ref (ao 0)), (4, .ref yq1)]) rfl ?_
      refine j_iconst (pc := 15) C d_La_reference_15 ck_1 ?_
      cases hf
      exact j_iret (pc := 16) C d_La_reference_16 ⟨rfl, rfl⟩ (Nat.le_of_ble_eq_true rfl) (Nat.le_of_ble_eq_true rfl)
    rw [if_neg h4] at hf
    cases hf
abbrev rm_La_rename : Room := { frames := 42, cells := 1, slots := 6, locals := 1188 }
def hs_La_rename : List (Nat × Nat × Nat × Nat) := [(0, 11, 14, 13), (0, 11, 18, 17), (0, 11, 22, 31), (0, 11, 26, 44)]
theorem cw_La_rename : Cond.codeWith y_La_rename b_La_rename 6 (some .int) hs_La_rename ∈ wsG := tw778
theorem cv_La_rename : Cond.initialized y_La_rename.cls ∈ wsG ∧ Cond.static y_La_rename ∈ wsG := ⟨tw0, tw777⟩
theorem xh_La_rename_1 : XH "ProgramDeskLaw" hs_La_rename 6 1 14 := ⟨[], [(0, 11, 18, 17), (0, 11, 22, 31), (0, 11, 26, 44)], 0, 11, 13, rfl, by decide, by decide, tw607, xw616, fun z hz => by cases hz⟩
theorem xh_La_rename_3 : XH "ProgramDeskLaw" hs_La_rename 6 3 18 := ⟨[(0, 11, 14, 13)], [(0, 11, 22, 31), (0, 11, 26, 44)], 0, 11, 17, rfl, by decide, by decide, tw609, xw696, by
  intro z hz
  simp only [List.mem_cons, List.not_mem_nil, or_false] at hz
  rcases hz with rfl
  · exact ⟨by decide, "java/lang/IllegalArgumentException", tw607, by decide +kernel⟩⟩
theorem xh_La_rename_4 : XH "ProgramDeskLaw" hs_La_rename 6 4 22 := ⟨[(0, 11, 14, 13), (0, 11, 18, 17)], [(0, 11, 26, 44)], 0, 11, 31, rfl, by decide, by decide, tw734, xw741, by
  intro z hz
  simp only [List.mem_cons, List.not_mem_nil, or_false] at hz
  rcases hz with rfl | rfl
  · exact ⟨by decide, "java/lang/IllegalArgumentException", tw607, by decide +kernel⟩
  · exact ⟨by decide, "java/lang/IllegalStateException", tw609, by decide +kernel⟩⟩
theorem xh_La_rename_5 : XH "ProgramDeskLaw" hs_La_rename 6 5 26 := ⟨[(0, 11, 14, 13), (0, 11, 18, 17), (0, 11, 22, 31)], [], 0, 11, 44, rfl, by decide, by decide, tw779, xw810, by
  intro z hz
  simp only [List.mem_cons, List.not_mem_nil, or_false] at hz
  rcases hz with rfl | rfl | rfl
  · exact ⟨by decide, "java/lang/IllegalArgumentException", tw607, by decide +kernel⟩
  · exact ⟨by decide, "java/lang/IllegalStateException", tw609, by decide +kernel⟩
  · exact ⟨by decide, "java/util/NoSuchElementException", tw734, by decide +kernel⟩⟩
set_option maxHeartbeats 4000000 in
set_option maxRecDepth 100000 in
theorem c_La_rename {g : GT} {ax : Nat → Nat} {am : Nat → Nat} {ad : Nat → Nat} {bd : Nat → Nat} {ao : Nat → Nat} {a1 : Int32} {a2 : Int64} {k : DS} {d : DS} {b : DS} {o : OS} {q : Int32 × DS × DS × DS × OS} (hf : f_La_rename a1 a2 k d b o = some q) : MH g y_La_rename b_La_rename 6 (some .int) hs_La_rename rm_La_rename [.ref (ax 0), .int a1, .long a2, .ref (ao 0)] (wX g ax am ad bd ++ (wM g am k.1 k.2 ++ (wD g ad d.1 d.2 ++ (wD g bd b.1 b.2 ++ wO g ao o)))) q.1 (swq q.1 (wX g ax am bd ad ++ (wM g am q.2.1.1 q.2.1.2 ++ (wD g bd q.2.2.1.1 q.2.2.1.2 ++ (wD g ad q.2.2.2.1.1 q.2.2.2.1.2 ++ wO g ao q.2.2.2.2)))) (wX g ax am ad bd ++ (wM g am q.2.1.1 q.2.1.2 ++ (wD g ad q.2.2.1.1 q.2.2.1.2 ++ (wD g bd q.2.2.2.1.1 q.2.2.2.1.2 ++ wO g ao q.2.2.2.2))))) := by
  refine MH.of (by decide) (Nat.le_of_ble_eq_true rfl) (fun 𝒥 CH => ?_)
  have C := CH.K
  unfold f_La_rename at hf
  change 𝒥 0 0 (wX g ax am ad bd ++ (wM g am k.1 k.2 ++ (wD g ad d.1 d.2 ++ (wD g bd b.1 b.2 ++ wO g ao o)))) [(0, .ref (ax 0)), (1, .int a1), (2, .long a2), (4, .ref (ao 0))] [] 0
  refine j_aload (pc := 0) C d_La_rename_0 3 rfl ?_
  refine j_iconst (pc := 2) C d_La_rename_2 ck_0 ?_
  refine j_aload_n (pc := 3) C d_La_rename_3 rfl 0 rfl ?_
  refine j_iload_n (pc := 4) C d_La_rename_4 rfl 1 rfl ?_
  refine j_lload_n (pc := 5) C d_La_rename_5 rfl 2 rfl ?_
  obtain ⟨q1, eq1, hf⟩ := ob hf
  refine j_callX (pc := 6) CH (rest := [.int 0, .ref (ao 0)]) (ws' := catb [swp q1.1 (wX g ax am bd ad ++ (wM g am q1.2.2.1.1 q1.2.2.1.2 ++ (wD g bd q1.2.2.2.1.1 q1.2.2.2.1.2 ++ wD g ad q1.2.2.2.2.1 q1.2.2.2.2.2))) (wX g ax am ad bd ++ (wM g am q1.2.2.1.1 q1.2.2.1.2 ++ (wD g ad q1.2.2.2.1.1 q1.2.2.2.1.2 ++ (wD g bd q1.2.2.2.2.1 q1.2.2.2.2.2)))), wO g ao o]) d_La_rename_6 (c_X_rename (g := g)  eq1) cv_X_rename tw780 0 rfl rfl (cut_blk [wX g ax am ad bd ++ (wM g am k.1 k.2 ++ (wD g ad d.1 d.2 ++ (wD g bd b.1 b.2))), wO g ao o] [swp q1.1 (wX g ax am bd ad ++ (wM g am q1.2.2.1.1 q1.2.2.1.2 ++ (wD g bd q1.2.2.2.1.1 q1.2.2.2.1.2 ++ wD g ad q1.2.2.2.2.1 q1.2.2.2.2.2))) (wX g ax am ad bd ++ (wM g am q1.2.2.1.1 q1.2.2.1.2 ++ (wD g ad q1.2.2.2.1.1 q1.2.2.2.1.2 ++ (wD g bd q1.2.2.2.2.1 q1.2.2.2.2.2)))), wO g ao o] [1] [0] rfl rfl (by simp only [catb, List.append_assoc]) rfl rfl rfl rfl) rfl rfl (Nat.le_of_ble_eq_true rfl) (kc2 := 1) (ks2 := 6) (by decide) (fun h2 => ?_) (fun h2 => ?_)
  · rw [if_pos h2] at hf
    refine j_perm C (ws' := wX g ax am bd ad ++ (wM g am q1.2.2.1.1 q1.2.2.1.2 ++ (wD g bd q1.2.2.2.1.1 q1.2.2.2.1.2 ++ (wD g ad q1.2.2.2.2.1 q1.2.2.2.2.2 ++ wO g ao o)))) (by rw [h2]; simp only [swp, catb, List.append_assoc]; exact List.Perm.refl _) ?_
    change 𝒥 1 6 (wX g ax am bd ad ++ (wM g am q1.2.2.1.1 q1.2.2.1.2 ++ (wD g bd q1.2.2.2.1.1 q1.2.2.2.1.2 ++ (wD g ad q1.2.2.2.2.1 q1.2.2.2.2.2 ++ wO g ao o)))) [(0, .ref (ax 0)), (1, .int a1), (2, .long a2), (4, .ref (ao 0))] [.int q1.2.1, .int 0, .ref (ao 0)] 9
    refine j_i2l (pc := 9) C d_La_rename_9 rfl ?_
    refine j_last (pc := 10) C d_La_rename_10 66 (inb_in (by decide)) rfl (ws' := wX g ax am bd ad ++ (wM g am q1.2.2.1.1 q1.2.2.1.2 ++ (wD g bd q1.2.2.2.1.1 q1.2.2.2.1.2 ++ (wD g ad q1.2.2.2.2.1 q1.2.2.2.2.2 ++ wO g ao (vp_updL o 0 q1.2.1.toInt64))))) rfl ?_
    refine j_goto (pc := 11) C d_La_rename_11 (tgt := 30) rfl ?_
    refine j_iconst (pc := 30) C d_La_rename_30 ck_0 ?_
    cases hf
    exact j_iret (pc := 31) C d_La_rename_31 ⟨rfl, rfl⟩ (Nat.le_of_ble_eq_true rfl) (Nat.le_of_ble_eq_true rfl)
  · rw [if_neg h2] at hf
    by_cases h4 : q1.1 = 1
    · rw [if_pos h4] at hf
      refine ⟨14, by rw [h4]; exact xh_La_rename_1, fun yq1 => ?_⟩
      refine j_perm C (ws' := wX g ax am ad bd ++ (wM g am q1.2.2.1.1 q1.2.2.1.2 ++ (wD g ad q1.2.2.2.1.1 q1.2.2.2.1.2 ++ (wD g bd q1.2.2.2.2.1 q1.2.2.2.2.2 ++ wO g ao o)))) (by rw [h4]; simp only [swp, catb, List.append_assoc]; exact List.Perm.refl _) ?_
      change 𝒥 1 6 (wX g ax am ad bd ++ (wM g am q1.2.2.1.1 q1.2.2.1.2 ++ (wD g ad q1.2.2.2.1.1 q1.2.2.2.1.2 ++ (wD g bd q1.2.2.2.2.1 q1.2.2.2.2.2 ++ wO g ao o)))) [(0, .ref (ax 0)), (1, .int a1), (2, .long a2), (4, .ref (ao 0))] [.ref yq1] 14
      refine j_astore (pc := 14) C d_La_rename_14 [1, 2, 3, 4, 0] (by decide) (lc' := [(0, .ref (ax 0)), (1, .int a1), (2, .long a2), (4, .ref (ao 0)), (5, .ref yq1)]) rfl ?_
      refine j_iconst (pc := 16) C d_La_rename_16 ck_1 ?_
      cases hf
      exact j_iret (pc := 17) C d_La_rename_17 ⟨rfl, rfl⟩ (Nat.le_of_ble_eq_true rfl) (Nat.le_of_ble_eq_true rfl)
    rw [if_neg h4] at hf
    by_cases h5 : q1.1 = 3
    · rw [if_pos h5] at hf
      refine ⟨18, by rw [h5]; exact xh_La_rename_3, fun yq1 => ?_⟩
      refine j_perm C (ws' := wX g ax am ad bd ++ (wM g am q1.2.2.1.1 q1.2.2.1.2 ++ (wD g ad q1.2.2.2.1.1 q1.2.2.2.1.2 ++ (wD g bd q1.2.2.2.2.1 q1.2.2.2.2.2 ++ wO g ao o)))) (by rw [h5]; simp only [swp, catb, List.append_assoc]; exact List.Perm.refl _) ?_
      change 𝒥 1 6 (wX g ax am ad bd ++ (wM g am q1.2.2.1.1 q1.2.2.1.2 ++ (wD g ad q1.2.2.2.1.1 q1.2.2.2.1.2 ++ (wD g bd q1.2.2.2.2.1 q1.2.2.2.2.2 ++ wO g ao o)))) [(0, .ref (ax 0)), (1, .int a1), (2, .long a2), (4, .ref (ao 0))] [.ref yq1] 18
      refine j_astore (pc := 18) C d_La_rename_18 [1, 2, 3, 4, 0] (by decide) (lc' := [(0, .ref (ax 0)), (1, .int a1), (2, .long a2), (4, .ref (ao 0)), (5, .ref yq1)]) rfl ?_
      refine j_iconst (pc := 20) C d_La_rename_20 ck_2 ?_
      cases hf
      exact j_iret (pc := 21) C d_La_rename_21 ⟨rfl, rfl⟩ (Nat.le_of_ble_eq_true rfl) (Nat.le_of_ble_eq_true rfl)
    rw [if_neg h5] at hf
    by_cases h6 : q1.1 = 4
    · rw [if_pos h6] at hf
      refine ⟨22, by rw [h6]; exact xh_La_rename_4, fun yq1 => ?_⟩
      refine j_perm C (ws' := wX g ax am ad bd ++ (wM g am q1.2.2.1.1 q1.2.2.1.2 ++ (wD g ad q1.2.2.2.1.1 q1.2.2.2.1.2 ++ (wD g bd q1.2.2.2.2.1 q1.2.2.2.2.2 ++ wO g ao o)))) (by rw [h6]; simp only [swp, catb, List.append_assoc]; exact List.Perm.refl _) ?_
      change 𝒥 1 6 (wX g ax am ad bd ++ (wM g am q1.2.2.1.1 q1.2.2.1.2 ++ (wD g ad q1.2.2.2.1.1 q1.2.2.2.1.2 ++ (wD g bd q1.2.2.2.2.1 q1.2.2.2.2.2 ++ wO g ao o)))) [(0, .ref (ax 0)), (1, .int a1), (2, .long a2), (4, .ref (ao 0))] [.ref yq1] 22
      refine j_astore (pc := 22) C d_La_rename_22 [1, 2, 3, 4, 0] (by decide) (lc' := [(0, .ref (ax 0)), (1, .int a1), (2, .long a2), (4, .ref (ao 0)), (5, .ref yq1)]) rfl ?_
      refine j_iconst (pc := 24) C d_La_rename_24 ck_3 ?_
      cases hf
      exact j_iret (pc := 25) C d_La_rename_25 ⟨rfl, rfl⟩ (Nat.le_of_ble_eq_true rfl) (Nat.le_of_ble_eq_true rfl)
    rw [if_neg h6] at hf
    by_cases h7 : q1.1 = 5
    · rw [if_pos h7] at hf
      refine ⟨26, by rw [h7]; exact xh_La_rename_5, fun yq1 => ?_⟩
      refine j_perm C (ws' := wX g ax am ad bd ++ (wM g am q1.2.2.1.1 q1.2.2.1.2 ++ (wD g ad q1.2.2.2.1.1 q1.2.2.2.1.2 ++ (wD g bd q1.2.2.2.2.1 q1.2.2.2.2.2 ++ wO g ao o)))) (by rw [h7]; simp only [swp, catb, List.append_assoc]; exact List.Perm.refl _) ?_
      change 𝒥 1 6 (wX g ax am ad bd ++ (wM g am q1.2.2.1.1 q1.2.2.1.2 ++ (wD g ad q1.2.2.2.1.1 q1.2.2.2.1.2 ++ (wD g bd q1.2.2.2.2.1 q1.2.2.2.2.2 ++ wO g ao o)))) [(0, .ref (ax 0)), (1, .int a1), (2, .long a2), (4, .ref (ao 0))] [.ref yq1] 26
      refine j_astore (pc := 26) C d_La_rename_26 [1, 2, 3, 4, 0] (by decide) (lc' := [(0, .ref (ax 0)), (1, .int a1), (2, .long a2), (4, .ref (ao 0)), (5, .ref yq1)]) rfl ?_
      refine j_iconst (pc := 28) C d_La_rename_28 ck_4 ?_
      cases hf
      exact j_iret (pc := 29) C d_La_rename_29 ⟨rfl, rfl⟩ (Nat.le_of_ble_eq_true rfl) (Nat.le_of_ble_eq_true rfl)
    rw [if_neg h7] at hf
    cases hf
abbrev rm_La_inline : Room := { frames := 42, cells := 1, slots := 6, locals := 1185 }
def hs_La_inline : List (Nat × Nat × Nat × Nat) := [(0, 9, 12, 17), (0, 9, 15, 31), (0, 9, 18, 44)]
theorem cw_La_inline : Cond.codeWith y_La_inline b_La_inline 4 (some .int) hs_La_inline ∈ wsG := tw829
theorem cv_La_inline : Cond.initialized y_La_inline.cls ∈ wsG ∧ Cond.static y_La_inline ∈ wsG := ⟨tw0, tw828⟩
theorem xh_La_inline_3 : XH "ProgramDeskLaw" hs_La_inline 4 3 12 := ⟨[], [(0, 9, 15, 31), (0, 9, 18, 44)], 0, 9, 17, rfl, by decide, by decide, tw609, xw696, fun z hz => by cases hz⟩
theorem xh_La_inline_4 : XH "ProgramDeskLaw" hs_La_inline 4 4 15 := ⟨[(0, 9, 12, 17)], [(0, 9, 18, 44)], 0, 9, 31, rfl, by decide, by decide, tw734, xw741, by
  intro z hz
  simp only [List.mem_cons, List.not_mem_nil, or_false] at hz
  rcases hz with rfl
  · exact ⟨by decide, "java/lang/IllegalStateException", tw609, by decide +kernel⟩⟩
theorem xh_La_inline_5 : XH "ProgramDeskLaw" hs_La_inline 4 5 18 := ⟨[(0, 9, 12, 17), (0, 9, 15, 31)], [], 0, 9, 44, rfl, by decide, by decide, tw779, xw810, by
  intro z hz
  simp only [List.mem_cons, List.not_mem_nil, or_false] at hz
  rcases hz with rfl | rfl
  · exact ⟨by decide, "java/lang/IllegalStateException", tw609, by decide +kernel⟩
  · exact ⟨by decide, "java/util/NoSuchElementException", tw734, by decide +kernel⟩⟩
set_option maxHeartbeats 4000000 in
set_option maxRecDepth 100000 in
theorem c_La_inline {g : GT} {ax : Nat → Nat} {am : Nat → Nat} {ad : Nat → Nat} {bd : Nat → Nat} {ao : Nat → Nat} {a1 : Int32} {k : DS} {d : DS} {b : DS} {o : OS} {q : Int32 × DS × DS × DS × OS} (hf : f_La_inline a1 k d b o = some q) : MH g y_La_inline b_La_inline 4 (some .int) hs_La_inline rm_La_inline [.ref (ax 0), .int a1, .ref (ao 0)] (wX g ax am ad bd ++ (wM g am k.1 k.2 ++ (wD g ad d.1 d.2 ++ (wD g bd b.1 b.2 ++ wO g ao o)))) q.1 (swq q.1 (wX g ax am bd ad ++ (wM g am q.2.1.1 q.2.1.2 ++ (wD g bd q.2.2.1.1 q.2.2.1.2 ++ (wD g ad q.2.2.2.1.1 q.2.2.2.1.2 ++ wO g ao q.2.2.2.2)))) (wX g ax am ad bd ++ (wM g am q.2.1.1 q.2.1.2 ++ (wD g ad q.2.2.1.1 q.2.2.1.2 ++ (wD g bd q.2.2.2.1.1 q.2.2.2.1.2 ++ wO g ao q.2.2.2.2))))) := by
  refine MH.of (by decide) (Nat.le_of_ble_eq_true rfl) (fun 𝒥 CH => ?_)
  have C := CH.K
  unfold f_La_inline at hf
  change 𝒥 0 0 (wX g ax am ad bd ++ (wM g am k.1 k.2 ++ (wD g ad d.1 d.2 ++ (wD g bd b.1 b.2 ++ wO g ao o)))) [(0, .ref (ax 0)), (1, .int a1), (2, .ref (ao 0))] [] 0
  refine j_aload_n (pc := 0) C d_La_inline_0 rfl 2 rfl ?_
  refine j_iconst (pc := 1) C d_La_inline_1 ck_0 ?_
  refine j_aload_n (pc := 2) C d_La_inline_2 rfl 0 rfl ?_
  refine j_iload_n (pc := 3) C d_La_inline_3 rfl 1 rfl ?_
  obtain ⟨q1, eq1, hf⟩ := ob hf
  refine j_callX (pc := 4) CH (rest := [.int 0, .ref (ao 0)]) (ws' := catb [swp q1.1 (wX g ax am bd ad ++ (wM g am q1.2.2.1.1 q1.2.2.1.2 ++ (wD g bd q1.2.2.2.1.1 q1.2.2.2.1.2 ++ wD g ad q1.2.2.2.2.1 q1.2.2.2.2.2))) (wX g ax am ad bd ++ (wM g am q1.2.2.1.1 q1.2.2.1.2 ++ (wD g ad q1.2.2.2.1.1 q1.2.2.2.1.2 ++ (wD g bd q1.2.2.2.2.1 q1.2.2.2.2.2)))), wO g ao o]) d_La_inline_4 (c_X_inline (g := g)  eq1) cv_X_inline tw830 0 rfl rfl (cut_blk [wX g ax am ad bd ++ (wM g am k.1 k.2 ++ (wD g ad d.1 d.2 ++ (wD g bd b.1 b.2))), wO g ao o] [swp q1.1 (wX g ax am bd ad ++ (wM g am q1.2.2.1.1 q1.2.2.1.2 ++ (wD g bd q1.2.2.2.1.1 q1.2.2.2.1.2 ++ wD g ad q1.2.2.2.2.1 q1.2.2.2.2.2))) (wX g ax am ad bd ++ (wM g am q1.2.2.1.1 q1.2.2.1.2 ++ (wD g ad q1.2.2.2.1.1 q1.2.2.2.1.2 ++ (wD g bd q1.2.2.2.2.1 q1.2.2.2.2.2)))), wO g ao o] [1] [0] rfl rfl (by simp only [catb, List.append_assoc]) rfl rfl rfl rfl) rfl rfl (Nat.le_of_ble_eq_true rfl) (kc2 := 1) (ks2 := 6) (by decide) (fun h2 => ?_) (fun h2 => ?_)
  · rw [if_pos h2] at hf
    refine j_perm C (ws' := wX g ax am bd ad ++ (wM g am q1.2.2.1.1 q1.2.2.1.2 ++ (wD g bd q1.2.2.2.1.1 q1.2.2.2.1.2 ++ (wD g ad q1.2.2.2.2.1 q1.2.2.2.2.2 ++ wO g ao o)))) (by rw [h2]; simp only [swp, catb, List.append_assoc]; exact List.Perm.refl _) ?_
    change 𝒥 1 6 (wX g ax am bd ad ++ (wM g am q1.2.2.1.1 q1.2.2.1.2 ++ (wD g bd q1.2.2.2.1.1 q1.2.2.2.1.2 ++ (wD g ad q1.2.2.2.2.1 q1.2.2.2.2.2 ++ wO g ao o)))) [(0, .ref (ax 0)), (1, .int a1), (2, .ref (ao 0))] [.int q1.2.1, .int 0, .ref (ao 0)] 7
    refine j_i2l (pc := 7) C d_La_inline_7 rfl ?_
    refine j_last (pc := 8) C d_La_inline_8 66 (inb_in (by decide)) rfl (ws' := wX g ax am bd ad ++ (wM g am q1.2.2.1.1 q1.2.2.1.2 ++ (wD g bd q1.2.2.2.1.1 q1.2.2.2.1.2 ++ (wD g ad q1.2.2.2.2.1 q1.2.2.2.2.2 ++ wO g ao (vp_updL o 0 q1.2.1.toInt64))))) rfl ?_
    refine j_goto (pc := 9) C d_La_inline_9 (tgt := 21) rfl ?_
    refine j_iconst (pc := 21) C d_La_inline_21 ck_0 ?_
    cases hf
    exact j_iret (pc := 22) C d_La_inline_22 ⟨rfl, rfl⟩ (Nat.le_of_ble_eq_true rfl) (Nat.le_of_ble_eq_true rfl)
  · rw [if_neg h2] at hf
    by_cases h4 : q1.1 = 3
    · rw [if_pos h4] at hf
      refine ⟨12, by rw [h4]; exact xh_La_inline_3, fun yq1 => ?_⟩
      refine j_perm C (ws' := wX g ax am ad bd ++ (wM g am q1.2.2.1.1 q1.2.2.1.2 ++ (wD g ad q1.2.2.2.1.1 q1.2.2.2.1.2 ++ (wD g bd q1.2.2.2.2.1 q1.2.2.2.2.2 ++ wO g ao o)))) (by rw [h4]; simp only [swp, catb, List.append_assoc]; exact List.Perm.refl _) ?_
      change 𝒥 1 6 (wX g ax am ad bd ++ (wM g am q1.2.2.1.1 q1.2.2.1.2 ++ (wD g ad q1.2.2.2.1.1 q1.2.2.2.1.2 ++ (wD g bd q1.2.2.2.2.1 q1.2.2.2.2.2 ++ wO g ao o)))) [(0, .ref (ax 0)), (1, .int a1), (2, .ref (ao 0))] [.ref yq1] 12
      refine j_astore_n (pc := 12) C d_La_inline_12 rfl [1, 2, 3, 0] (by decide) (lc' := [(0, .ref (ax 0)), (1, .int a1), (2, .ref (ao 0)), (3, .ref yq1)]) rfl ?_
      refine j_iconst (pc := 13) C d_La_inline_13 ck_1 ?_
      cases hf
      exact j_iret (pc := 14) C d_La_inline_14 ⟨rfl, rfl⟩ (Nat.le_of_ble_eq_true rfl) (Nat.le_of_ble_eq_true rfl)
    rw [if_neg h4] at hf
    by_cases h5 : q1.1 = 4
    · rw [if_pos h5] at hf
      refine ⟨15, by rw [h5]; exact xh_La_inline_4, fun yq1 => ?_⟩
      refine j_perm C (ws' := wX g ax am ad bd ++ (wM g am q1.2.2.1.1 q1.2.2.1.2 ++ (wD g ad q1.2.2.2.1.1 q1.2.2.2.1.2 ++ (wD g bd q1.2.2.2.2.1 q1.2.2.2.2.2 ++ wO g ao o)))) (by rw [h5]; simp only [swp, catb, List.append_assoc]; exact List.Perm.refl _) ?_
      change 𝒥 1 6 (wX g ax am ad bd ++ (wM g am q1.2.2.1.1 q1.2.2.1.2 ++ (wD g ad q1.2.2.2.1.1 q1.2.2.2.1.2 ++ (wD g bd q1.2.2.2.2.1 q1.2.2.2.2.2 ++ wO g ao o)))) [(0, .ref (ax 0)), (1, .int a1), (2, .ref (ao 0))] [.ref yq1] 15
      refine j_astore_n (pc := 15) C d_La_inline_15 rfl [1, 2, 3, 0] (by decide) (lc' := [(0, .ref (ax 0)), (1, .int a1), (2, .ref (ao 0)), (3, .ref yq1)]) rfl ?_
      refine j_iconst (pc := 16) C d_La_inline_16 ck_2 ?_
      cases hf
      exact j_iret (pc := 17) C d_La_inline_17 ⟨rfl, rfl⟩ (Nat.le_of_ble_eq_true rfl) (Nat.le_of_ble_eq_true rfl)
    rw [if_neg h5] at hf
    by_cases h6 : q1.1 = 5
    · rw [if_pos h6] at hf
      refine ⟨18, by rw [h6]; exact xh_La_inline_5, fun yq1 => ?_⟩
      refine j_perm C (ws' := wX g ax am ad bd ++ (wM g am q1.2.2.1.1 q1.2.2.1.2 ++ (wD g ad q1.2.2.2.1.1 q1.2.2.2.1.2 ++ (wD g bd q1.2.2.2.2.1 q1.2.2.2.2.2 ++ wO g ao o)))) (by rw [h6]; simp only [swp, catb, List.append_assoc]; exact List.Perm.refl _) ?_
      change 𝒥 1 6 (wX g ax am ad bd ++ (wM g am q1.2.2.1.1 q1.2.2.1.2 ++ (wD g ad q1.2.2.2.1.1 q1.2.2.2.1.2 ++ (wD g bd q1.2.2.2.2.1 q1.2.2.2.2.2 ++ wO g ao o)))) [(0, .ref (ax 0)), (1, .int a1), (2, .ref (ao 0))] [.ref yq1] 18
      refine j_astore_n (pc := 18) C d_La_inline_18 rfl [1, 2, 3, 0] (by decide) (lc' := [(0, .ref (ax 0)), (1, .int a1), (2, .ref (ao 0)), (3, .ref yq1)]) rfl ?_
      refine j_iconst (pc := 19) C d_La_inline_19 ck_3 ?_
      cases hf
      exact j_iret (pc := 20) C d_La_inline_20 ⟨rfl, rfl⟩ (Nat.le_of_ble_eq_true rfl) (Nat.le_of_ble_eq_true rfl)
    rw [if_neg h6] at hf
    cases hf
abbrev rm_La_run : Room := { frames := 42, cells := 1, slots := 6, locals := 1184 }
def hs_La_run : List (Nat × Nat × Nat × Nat) := [(0, 9, 12, 17), (0, 9, 15, 31)]
theorem cw_La_run : Cond.codeWith y_La_run b_La_run 4 (some .int) hs_La_run ∈ wsG := tw875
theorem cv_La_run : Cond.initialized y_La_run.cls ∈ wsG ∧ Cond.static y_La_run ∈ wsG := ⟨tw0, tw874⟩
theorem xh_La_run_3 : XH "ProgramDeskLaw" hs_La_run 4 3 12 := ⟨[], [(0, 9, 15, 31)], 0, 9, 17, rfl, by decide, by decide, tw609, xw696, fun z hz => by cases hz⟩
theorem xh_La_run_4 : XH "ProgramDeskLaw" hs_La_run 4 4 15 := ⟨[(0, 9, 12, 17)], [], 0, 9, 31, rfl, by decide, by decide, tw734, xw741, by
  intro z hz
  simp only [List.mem_cons, List.not_mem_nil, or_false] at hz
  rcases hz with rfl
  · exact ⟨by decide, "java/lang/IllegalStateException", tw609, by decide +kernel⟩⟩
set_option maxHeartbeats 4000000 in
set_option maxRecDepth 100000 in
theorem c_La_run {g : GT} {ax : Nat → Nat} {am : Nat → Nat} {ad : Nat → Nat} {bd : Nat → Nat} {ao : Nat → Nat} {a1 : Int32} {k : DS} {d : DS} {b : DS} {o : OS} {q : Int32 × DS × DS × DS × OS} (hf : f_La_run a1 k d b o = some q) : MH g y_La_run b_La_run 4 (some .int) hs_La_run rm_La_run [.ref (ax 0), .int a1, .ref (ao 0)] (wX g ax am ad bd ++ (wM g am k.1 k.2 ++ (wD g ad d.1 d.2 ++ (wD g bd b.1 b.2 ++ wO g ao o)))) q.1 (wX g ax am ad bd ++ (wM g am q.2.1.1 q.2.1.2 ++ (wD g ad q.2.2.1.1 q.2.2.1.2 ++ (wD g bd q.2.2.2.1.1 q.2.2.2.1.2 ++ wO g ao q.2.2.2.2)))) := by
  refine MH.of (by decide) (Nat.le_of_ble_eq_true rfl) (fun 𝒥 CH => ?_)
  have C := CH.K
  unfold f_La_run at hf
  change 𝒥 0 0 (wX g ax am ad bd ++ (wM g am k.1 k.2 ++ (wD g ad d.1 d.2 ++ (wD g bd b.1 b.2 ++ wO g ao o)))) [(0, .ref (ax 0)), (1, .int a1), (2, .ref (ao 0))] [] 0
  refine j_aload_n (pc := 0) C d_La_run_0 rfl 2 rfl ?_
  refine j_iconst (pc := 1) C d_La_run_1 ck_0 ?_
  refine j_aload_n (pc := 2) C d_La_run_2 rfl 0 rfl ?_
  refine j_iload_n (pc := 3) C d_La_run_3 rfl 1 rfl ?_
  obtain ⟨q1, eq1, hf⟩ := ob hf
  refine j_callX (pc := 4) CH (rest := [.int 0, .ref (ao 0)]) (ws' := catb [wX g ax am ad bd ++ (wM g am q1.2.2.1.1 q1.2.2.1.2 ++ (wD g ad q1.2.2.2.1.1 q1.2.2.2.1.2 ++ (wD g bd q1.2.2.2.2.1 q1.2.2.2.2.2))), wO g ao o]) d_La_run_4 (c_X_run (g := g)  eq1) cv_X_run tw876 0 rfl rfl (cut_blk [wX g ax am ad bd ++ (wM g am k.1 k.2 ++ (wD g ad d.1 d.2 ++ (wD g bd b.1 b.2))), wO g ao o] [wX g ax am ad bd ++ (wM g am q1.2.2.1.1 q1.2.2.1.2 ++ (wD g ad q1.2.2.2.1.1 q1.2.2.2.1.2 ++ (wD g bd q1.2.2.2.2.1 q1.2.2.2.2.2))), wO g ao o] [1] [0] rfl rfl (by simp only [catb, List.append_assoc]) rfl rfl rfl rfl) rfl rfl (Nat.le_of_ble_eq_true rfl) (kc2 := 1) (ks2 := 6) (by decide) (fun h2 => ?_) (fun h2 => ?_)
  · rw [if_pos h2] at hf
    refine j_perm C (ws' := wX g ax am ad bd ++ (wM g am q1.2.2.1.1 q1.2.2.1.2 ++ (wD g ad q1.2.2.2.1.1 q1.2.2.2.1.2 ++ (wD g bd q1.2.2.2.2.1 q1.2.2.2.2.2 ++ wO g ao o)))) (by simp only [catb, List.append_assoc]; exact List.Perm.refl _) ?_
    change 𝒥 1 6 (wX g ax am ad bd ++ (wM g am q1.2.2.1.1 q1.2.2.1.2 ++ (wD g ad q1.2.2.2.1.1 q1.2.2.2.1.2 ++ (wD g bd q1.2.2.2.2.1 q1.2.2.2.2.2 ++ wO g ao o)))) [(0, .ref (ax 0)), (1, .int a1), (2, .ref (ao 0))] [.int q1.2.1, .int 0, .ref (ao 0)] 7
    refine j_i2l (pc := 7) C d_La_run_7 rfl ?_
    refine j_last (pc := 8) C d_La_run_8 66 (inb_in (by decide)) rfl (ws' := wX g ax am ad bd ++ (wM g am q1.2.2.1.1 q1.2.2.1.2 ++ (wD g ad q1.2.2.2.1.1 q1.2.2.2.1.2 ++ (wD g bd q1.2.2.2.2.1 q1.2.2.2.2.2 ++ wO g ao (vp_updL o 0 q1.2.1.toInt64))))) rfl ?_
    refine j_goto (pc := 9) C d_La_run_9 (tgt := 18) rfl ?_
    refine j_iconst (pc := 18) C d_La_run_18 ck_0 ?_
    cases hf
    exact j_iret (pc := 19) C d_La_run_19 ⟨rfl, rfl⟩ (Nat.le_of_ble_eq_true rfl) (Nat.le_of_ble_eq_true rfl)
  · rw [if_neg h2] at hf
    by_cases h4 : q1.1 = 3
    · rw [if_pos h4] at hf
      refine ⟨12, by rw [h4]; exact xh_La_run_3, fun yq1 => ?_⟩
      refine j_perm C (ws' := wX g ax am ad bd ++ (wM g am q1.2.2.1.1 q1.2.2.1.2 ++ (wD g ad q1.2.2.2.1.1 q1.2.2.2.1.2 ++ (wD g bd q1.2.2.2.2.1 q1.2.2.2.2.2 ++ wO g ao o)))) (by simp only [catb, List.append_assoc]; exact List.Perm.refl _) ?_
      change 𝒥 1 6 (wX g ax am ad bd ++ (wM g am q1.2.2.1.1 q1.2.2.1.2 ++ (wD g ad q1.2.2.2.1.1 q1.2.2.2.1.2 ++ (wD g bd q1.2.2.2.2.1 q1.2.2.2.2.2 ++ wO g ao o)))) [(0, .ref (ax 0)), (1, .int a1), (2, .ref (ao 0))] [.ref yq1] 12
      refine j_astore_n (pc := 12) C d_La_run_12 rfl [1, 2, 3, 0] (by decide) (lc' := [(0, .ref (ax 0)), (1, .int a1), (2, .ref (ao 0)), (3, .ref yq1)]) rfl ?_
      refine j_iconst (pc := 13) C d_La_run_13 ck_1 ?_
      cases hf
      exact j_iret (pc := 14) C d_La_run_14 ⟨rfl, rfl⟩ (Nat.le_of_ble_eq_true rfl) (Nat.le_of_ble_eq_true rfl)
    rw [if_neg h4] at hf
    by_cases h5 : q1.1 = 4
    · rw [if_pos h5] at hf
      refine ⟨15, by rw [h5]; exact xh_La_run_4, fun yq1 => ?_⟩
      refine j_perm C (ws' := wX g ax am ad bd ++ (wM g am q1.2.2.1.1 q1.2.2.1.2 ++ (wD g ad q1.2.2.2.1.1 q1.2.2.2.1.2 ++ (wD g bd q1.2.2.2.2.1 q1.2.2.2.2.2 ++ wO g ao o)))) (by simp only [catb, List.append_assoc]; exact List.Perm.refl _) ?_
      change 𝒥 1 6 (wX g ax am ad bd ++ (wM g am q1.2.2.1.1 q1.2.2.1.2 ++ (wD g ad q1.2.2.2.1.1 q1.2.2.2.1.2 ++ (wD g bd q1.2.2.2.2.1 q1.2.2.2.2.2 ++ wO g ao o)))) [(0, .ref (ax 0)), (1, .int a1), (2, .ref (ao 0))] [.ref yq1] 15
      refine j_astore_n (pc := 15) C d_La_run_15 rfl [1, 2, 3, 0] (by decide) (lc' := [(0, .ref (ax 0)), (1, .int a1), (2, .ref (ao 0)), (3, .ref yq1)]) rfl ?_
      refine j_iconst (pc := 16) C d_La_run_16 ck_2 ?_
      cases hf
      exact j_iret (pc := 17) C d_La_run_17 ⟨rfl, rfl⟩ (Nat.le_of_ble_eq_true rfl) (Nat.le_of_ble_eq_true rfl)
    rw [if_neg h5] at hf
    cases hf
abbrev rm_La_output : Room := { frames := 7, cells := 1, slots := 6, locals := 102 }
def hs_La_output : List (Nat × Nat × Nat × Nat) := [(0, 9, 12, 31)]
theorem cw_La_output : Cond.codeWith y_La_output b_La_output 4 (some .int) hs_La_output ∈ wsG := tw925
theorem cv_La_output : Cond.initialized y_La_output.cls ∈ wsG ∧ Cond.static y_La_output ∈ wsG := ⟨tw0, tw924⟩
theorem xh_La_output_4 : XH "ProgramDeskLaw" hs_La_output 4 4 12 := ⟨[], [], 0, 9, 31, rfl, by decide, by decide, tw734, xw741, fun z hz => by cases hz⟩
set_option maxHeartbeats 4000000 in
set_option maxRecDepth 100000 in
theorem c_La_output {g : GT} {ax : Nat → Nat} {am : Nat → Nat} {ad : Nat → Nat} {bd : Nat → Nat} {ao : Nat → Nat} {a1 : Int32} {k : DS} {d : DS} {b : DS} {o : OS} {q : Int32 × DS × DS × DS × OS} (hf : f_La_output a1 k d b o = some q) : MH g y_La_output b_La_output 4 (some .int) hs_La_output rm_La_output [.ref (ax 0), .int a1, .ref (ao 0)] (wX g ax am ad bd ++ (wM g am k.1 k.2 ++ (wD g ad d.1 d.2 ++ (wD g bd b.1 b.2 ++ wO g ao o)))) q.1 (wX g ax am ad bd ++ (wM g am q.2.1.1 q.2.1.2 ++ (wD g ad q.2.2.1.1 q.2.2.1.2 ++ (wD g bd q.2.2.2.1.1 q.2.2.2.1.2 ++ wO g ao q.2.2.2.2)))) := by
  refine MH.of (by decide) (Nat.le_of_ble_eq_true rfl) (fun 𝒥 CH => ?_)
  have C := CH.K
  unfold f_La_output at hf
  change 𝒥 0 0 (wX g ax am ad bd ++ (wM g am k.1 k.2 ++ (wD g ad d.1 d.2 ++ (wD g bd b.1 b.2 ++ wO g ao o)))) [(0, .ref (ax 0)), (1, .int a1), (2, .ref (ao 0))] [] 0
  refine j_aload_n (pc := 0) C d_La_output_0 rfl 2 rfl ?_
  refine j_iconst (pc := 1) C d_La_output_1 ck_0 ?_
  refine j_aload_n (pc := 2) C d_La_output_2 rfl 0 rfl ?_
  refine j_iload_n (pc := 3) C d_La_output_3 rfl 1 rfl ?_
  obtain ⟨q1, eq1, hf⟩ := ob hf
  refine j_callX (pc := 4) CH (rest := [.int 0, .ref (ao 0)]) (ws' := catb [wX g ax am ad bd ++ (wM g am q1.2.2.1.1 q1.2.2.1.2 ++ (wD g ad q1.2.2.2.1.1 q1.2.2.2.1.2 ++ (wD g bd q1.2.2.2.2.1 q1.2.2.2.2.2))), wO g ao o]) d_La_output_4 (c_X_output (g := g)  eq1) cv_X_output tw926 0 rfl rfl (cut_blk [wX g ax am ad bd ++ (wM g am k.1 k.2 ++ (wD g ad d.1 d.2 ++ (wD g bd b.1 b.2))), wO g ao o] [wX g ax am ad bd ++ (wM g am q1.2.2.1.1 q1.2.2.1.2 ++ (wD g ad q1.2.2.2.1.1 q1.2.2.2.1.2 ++ (wD g bd q1.2.2.2.2.1 q1.2.2.2.2.2))), wO g ao o] [1] [0] rfl rfl (by simp only [catb, List.append_assoc]) rfl rfl rfl rfl) rfl rfl (Nat.le_of_ble_eq_true rfl) (kc2 := 1) (ks2 := 6) (by decide) (fun h2 => ?_) (fun h2 => ?_)
  · rw [if_pos h2] at hf
    refine j_perm C (ws' := wX g ax am ad bd ++ (wM g am q1.2.2.1.1 q1.2.2.1.2 ++ (wD g ad q1.2.2.2.1.1 q1.2.2.2.1.2 ++ (wD g bd q1.2.2.2.2.1 q1.2.2.2.2.2 ++ wO g ao o)))) (by simp only [catb, List.append_assoc]; exact List.Perm.refl _) ?_
    change 𝒥 1 6 (wX g ax am ad bd ++ (wM g am q1.2.2.1.1 q1.2.2.1.2 ++ (wD g ad q1.2.2.2.1.1 q1.2.2.2.1.2 ++ (wD g bd q1.2.2.2.2.1 q1.2.2.2.2.2 ++ wO g ao o)))) [(0, .ref (ax 0)), (1, .int a1), (2, .ref (ao 0))] [.int q1.2.1, .int 0, .ref (ao 0)] 7
    refine j_i2l (pc := 7) C d_La_output_7 rfl ?_
    refine j_last (pc := 8) C d_La_output_8 66 (inb_in (by decide)) rfl (ws' := wX g ax am ad bd ++ (wM g am q1.2.2.1.1 q1.2.2.1.2 ++ (wD g ad q1.2.2.2.1.1 q1.2.2.2.1.2 ++ (wD g bd q1.2.2.2.2.1 q1.2.2.2.2.2 ++ wO g ao (vp_updL o 0 q1.2.1.toInt64))))) rfl ?_
    refine j_goto (pc := 9) C d_La_output_9 (tgt := 15) rfl ?_
    refine j_iconst (pc := 15) C d_La_output_15 ck_0 ?_
    cases hf
    exact j_iret (pc := 16) C d_La_output_16 ⟨rfl, rfl⟩ (Nat.le_of_ble_eq_true rfl) (Nat.le_of_ble_eq_true rfl)
  · rw [if_neg h2] at hf
    by_cases h4 : q1.1 = 4
    · rw [if_pos h4] at hf
      refine ⟨12, by rw [h4]; exact xh_La_output_4, fun yq1 => ?_⟩
      refine j_perm C (ws' := wX g ax am ad bd ++ (wM g am q1.2.2.1.1 q1.2.2.1.2 ++ (wD g ad q1.2.2.2.1.1 q1.2.2.2.1.2 ++ (wD g bd q1.2.2.2.2.1 q1.2.2.2.2.2 ++ wO g ao o)))) (by simp only [catb, List.append_assoc]; exact List.Perm.refl _) ?_
      change 𝒥 1 6 (wX g ax am ad bd ++ (wM g am q1.2.2.1.1 q1.2.2.1.2 ++ (wD g ad q1.2.2.2.1.1 q1.2.2.2.1.2 ++ (wD g bd q1.2.2.2.2.1 q1.2.2.2.2.2 ++ wO g ao o)))) [(0, .ref (ax 0)), (1, .int a1), (2, .ref (ao 0))] [.ref yq1] 12
      refine j_astore_n (pc := 12) C d_La_output_12 rfl [1, 2, 3, 0] (by decide) (lc' := [(0, .ref (ax 0)), (1, .int a1), (2, .ref (ao 0)), (3, .ref yq1)]) rfl ?_
      refine j_iconst (pc := 13) C d_La_output_13 ck_1 ?_
      cases hf
      exact j_iret (pc := 14) C d_La_output_14 ⟨rfl, rfl⟩ (Nat.le_of_ble_eq_true rfl) (Nat.le_of_ble_eq_true rfl)
    rw [if_neg h4] at hf
    cases hf
