abbrev rm_Ma_perform : Room := { frames := 3, cells := 0, slots := 0, locals := 67 }
theorem cv_Ma_perform : CV y_Ma_perform b_Ma_perform 5 (some .int) 3 := ⟨⟨tw884, tw2, by decide +kernel⟩, tw882, tw883⟩
set_option maxHeartbeats 4000000 in
set_option maxRecDepth 100000 in
theorem c_Ma_perform {g : GT} {am : Nat → Nat} {ad : Nat → Nat} {a2 : Int32} {a3 : Int32} {k : DS} {d : DS} {q : Int32 × DS × DS} (hf : f_Ma_perform a2 a3 k d = some q) : MI g y_Ma_perform b_Ma_perform 5 (some .int) rm_Ma_perform [.ref (am 0), .ref (ad 0), .int a2, .int a3] (wM g am k.1 k.2 ++ wD g ad d.1 d.2) q.1 (wM g am q.2.1.1 q.2.1.2 ++ wD g ad q.2.2.1 q.2.2.2) := by
  refine MI.of (by decide) (Nat.le_of_ble_eq_true rfl) (fun 𝒥 C => ?_)
  have L79 : ∀ (n : Nat) (x : Int32 × Int32 × Int32 × DS × DS), lpN (BMa_perform_79) n x = some q → 𝒥 0 0 (wM g am x.2.2.2.1.1 x.2.2.2.1.2 ++ wD g ad x.2.2.2.2.1 x.2.2.2.2.2) [(0, .ref (am 0)), (1, .ref (ad 0)), (2, .int x.1), (3, .int x.2.1), (4, .int x.2.2.1)] [] 79 := by
    refine lp_ind (fun k79 k79_ih x hf => ?_)
    unfold BMa_perform_79 at hf
    refine j_iload (pc := 79) C d_Ma_perform_79 4 rfl ?_
    refine j_ldc (pc := 81) C d_Ma_perform_81 tw905 ?_
    refine j_icmp_ge (pc := 83) C d_Ma_perform_83 (tgt := 143) rfl (fun h4 => ?_) (fun h4 => ?_)
    · rw [if_pos h4] at hf
      refine j_aload_n (pc := 143) C d_Ma_perform_143 rfl 0 rfl ?_
      refine j_get (pc := 144) C d_Ma_perform_144 0 10 rfl rfl (v := .int (x.2.2.2.1.2 6)) rfl (by decide) tw52 ?_
      cases hf
      exact j_iret (pc := 147) C d_Ma_perform_147 ⟨rfl, rfl⟩ (Nat.le_of_ble_eq_true rfl) (Nat.le_of_ble_eq_true rfl)
    · rw [if_neg h4] at hf
      refine j_aload_n (pc := 86) C d_Ma_perform_86 rfl 0 rfl ?_
      refine j_get (pc := 87) C d_Ma_perform_87 0 10 rfl rfl (v := .int (x.2.2.2.1.2 6)) rfl (by decide) tw52 ?_
      refine j_iconst (pc := 90) C d_Ma_perform_90 ck_m1 ?_
      refine j_icmp_ne (pc := 91) C d_Ma_perform_91 (tgt := 143) rfl (fun h5 => ?_) (fun h5 => ?_)
      · rw [if_neg h5] at hf
        refine j_aload_n (pc := 143) C d_Ma_perform_143 rfl 0 rfl ?_
        refine j_get (pc := 144) C d_Ma_perform_144 0 10 rfl rfl (v := .int (x.2.2.2.1.2 6)) rfl (by decide) tw52 ?_
        cases hf
        exact j_iret (pc := 147) C d_Ma_perform_147 ⟨rfl, rfl⟩ (Nat.le_of_ble_eq_true rfl) (Nat.le_of_ble_eq_true rfl)
      · rw [if_pos h5] at hf
        refine j_aload_n (pc := 94) C d_Ma_perform_94 rfl 0 rfl ?_
        refine j_get (pc := 95) C d_Ma_perform_95 0 9 rfl rfl (v := .int (x.2.2.2.1.2 5)) rfl (by decide) tw51 ?_
        refine j_aload_n (pc := 98) C d_Ma_perform_98 rfl 1 rfl ?_
        refine j_get (pc := 99) C d_Ma_perform_99 5 4 rfl rfl (v := .ref (ad 20)) rfl (by decide) tw281 ?_
        refine j_get (pc := 102) C d_Ma_perform_102 25 2 rfl rfl (v := .int (x.2.2.2.2.2 6)) rfl (by decide) tw223 ?_
        refine j_icmp_ge (pc := 105) C d_Ma_perform_105 (tgt := 143) rfl (fun h6 => ?_) (fun h6 => ?_)
        · rw [if_pos h6] at hf
          refine j_aload_n (pc := 143) C d_Ma_perform_143 rfl 0 rfl ?_
          refine j_get (pc := 144) C d_Ma_perform_144 0 10 rfl rfl (v := .int (x.2.2.2.1.2 6)) rfl (by decide) tw52 ?_
          cases hf
          exact j_iret (pc := 147) C d_Ma_perform_147 ⟨rfl, rfl⟩ (Nat.le_of_ble_eq_true rfl) (Nat.le_of_ble_eq_true rfl)
        · rw [if_neg h6] at hf
          refine j_aload_n (pc := 108) C d_Ma_perform_108 rfl 0 rfl ?_
          refine j_aload_n (pc := 109) C d_Ma_perform_109 rfl 1 rfl ?_
          refine j_aload_n (pc := 110) C d_Ma_perform_110 rfl 1 rfl ?_
          refine j_get (pc := 111) C d_Ma_perform_111 5 4 rfl rfl (v := .ref (ad 20)) rfl (by decide) tw281 ?_
          refine j_get (pc := 114) C d_Ma_perform_114 25 0 rfl rfl (v := .ref (ad 21)) rfl (by decide) tw217 ?_
          refine j_aload_n (pc := 117) C d_Ma_perform_117 rfl 0 rfl ?_
          refine j_get (pc := 118) C d_Ma_perform_118 0 9 rfl rfl (v := .int (x.2.2.2.1.2 5)) rfl (by decide) tw51 ?_
          obtain ⟨b7, hf⟩ := og hf
          refine j_iald (pc := 121) C d_Ma_perform_121 26 (inb_in b7) (x := x.2.2.2.2.1 21 (x.2.2.2.1.2 5).toNatClampNeg) rfl rfl ?_
          refine j_topi C (fun v8 ev8 => ?_)
          replace hf := ov ev8 hf
          refine j_aload_n (pc := 122) C d_Ma_perform_122 rfl 1 rfl ?_
          refine j_get (pc := 123) C d_Ma_perform_123 5 4 rfl rfl (v := .ref (ad 20)) rfl (by decide) tw281 ?_
          refine j_get (pc := 126) C d_Ma_perform_126 25 1 rfl rfl (v := .ref (ad 22)) rfl (by decide) tw219 ?_
          refine j_aload_n (pc := 129) C d_Ma_perform_129 rfl 0 rfl ?_
          refine j_get (pc := 130) C d_Ma_perform_130 0 9 rfl rfl (v := .int (x.2.2.2.1.2 5)) rfl (by decide) tw51 ?_
          obtain ⟨b9, hf⟩ := og hf
          refine j_iald (pc := 133) C d_Ma_perform_133 27 (inb_in b9) (x := x.2.2.2.2.1 22 (x.2.2.2.1.2 5).toNatClampNeg) rfl rfl ?_
          refine j_topi C (fun v10 ev10 => ?_)
          replace hf := ov ev10 hf
          obtain ⟨q11, eq11, hf⟩ := ob hf
          refine j_callVv (pc := 134) C (rest := []) d_Ma_perform_134 (c_Ma_advance (g := g) (am := am) (ad := ad) eq11) cv_Ma_advance tw906 0 rfl rfl cut_same rfl rfl (Nat.le_of_ble_eq_true rfl) (kc2 := 0) (ks2 := 0) (by decide) ?_
          refine j_iinc (pc := 137) C d_Ma_perform_137 4 rfl (v := x.2.2.1 + 1) (iv ci_1) [1, 2, 3, 4, 0] (by decide) (lc' := [(0, .ref (am 0)), (1, .ref (ad 0)), (2, .int x.1), (3, .int x.2.1), (4, .int (x.2.2.1 + 1))]) rfl ?_
          refine j_goto (pc := 140) C d_Ma_perform_140 (tgt := 79) rfl ?_
          exact k79_ih (x.1, x.2.1, x.2.2.1 + 1, q11.1, q11.2) hf
  have L33 : ∀ (n : Nat) (x : Int32 × Int32 × Int32 × DS × DS), lpN (BMa_perform_33) n x = some q → 𝒥 0 0 (wM g am x.2.2.2.1.1 x.2.2.2.1.2 ++ wD g ad x.2.2.2.2.1 x.2.2.2.2.2) [(0, .ref (am 0)), (1, .ref (ad 0)), (2, .int x.1), (3, .int x.2.1), (4, .int x.2.2.1)] [] 33 := by
    refine lp_ind (fun k33 k33_ih x hf => ?_)
    unfold BMa_perform_33 at hf
    refine j_iload (pc := 33) C d_Ma_perform_33 4 rfl ?_
    refine j_aload_n (pc := 35) C d_Ma_perform_35 rfl 1 rfl ?_
    refine j_get (pc := 36) C d_Ma_perform_36 5 2 rfl rfl (v := .ref (ad 8)) rfl (by decide) tw275 ?_
    refine j_get (pc := 39) C d_Ma_perform_39 13 1 rfl rfl (v := .ref (ad 10)) rfl (by decide) tw148 ?_
    refine j_iload_n (pc := 42) C d_Ma_perform_42 rfl 2 rfl ?_
    obtain ⟨b1, hf⟩ := og hf
    refine j_iald (pc := 43) C d_Ma_perform_43 15 (inb_in b1) (x := x.2.2.2.2.1 10 x.1.toNatClampNeg) rfl rfl ?_
    refine j_icmp_ge (pc := 44) C d_Ma_perform_44 (tgt := 67) rfl (fun h2 => ?_) (fun h2 => ?_)
    · rw [if_pos h2] at hf
      refine j_aload_n (pc := 67) C d_Ma_perform_67 rfl 0 rfl ?_
      refine j_aload_n (pc := 68) C d_Ma_perform_68 rfl 1 rfl ?_
      refine j_get (pc := 69) C d_Ma_perform_69 5 2 rfl rfl (v := .ref (ad 8)) rfl (by decide) tw275 ?_
      refine j_iload_n (pc := 72) C d_Ma_perform_72 rfl 2 rfl ?_
      obtain ⟨q3, eq3, hf⟩ := ob hf
      refine j_callVv (pc := 73) C (rest := []) d_Ma_perform_73 (c_Ma_begin (g := g) (am := am) (ad := ad) eq3) cv_Ma_begin tw889 0 rfl rfl cut_same rfl rfl (Nat.le_of_ble_eq_true rfl) (kc2 := 0) (ks2 := 0) (by decide) ?_
      refine j_iconst (pc := 76) C d_Ma_perform_76 ck_0 ?_
      refine j_istore (pc := 77) C d_Ma_perform_77 [1, 2, 3, 4, 0] (by decide) (lc' := [(0, .ref (am 0)), (1, .ref (ad 0)), (2, .int x.1), (3, .int x.2.1), (4, .int 0)]) rfl ?_
      exact L79 100000 (x.1, x.2.1, 0, q3.1, q3.2) hf
    · rw [if_neg h2] at hf
      refine j_aload_n (pc := 47) C d_Ma_perform_47 rfl 0 rfl ?_
      refine j_iload (pc := 48) C d_Ma_perform_48 4 rfl ?_
      refine j_if_ne (pc := 50) C d_Ma_perform_50 (tgt := 57) rfl (fun h12 => ?_) (fun h12 => ?_)
      · rw [if_neg h12] at hf
        refine j_iconst (pc := 57) C d_Ma_perform_57 ck_0 ?_
        obtain ⟨q13, eq13, hf⟩ := ob hf
        refine j_callVv (pc := 58) C (rest := []) d_Ma_perform_58 (c_Ma_push (g := g) (am := am) eq13) cv_Ma_push tw885 0 rfl rfl (cut_blk [wM g am x.2.2.2.1.1 x.2.2.2.1.2, wD g ad x.2.2.2.2.1 x.2.2.2.2.2] [wM g am q13.1 q13.2, wD g ad x.2.2.2.2.1 x.2.2.2.2.2] [1] [0] rfl rfl rfl rfl rfl rfl rfl) rfl rfl (Nat.le_of_ble_eq_true rfl) (kc2 := 0) (ks2 := 0) (by decide) ?_
        refine j_iinc (pc := 61) C d_Ma_perform_61 4 rfl (v := x.2.2.1 + 1) (iv ci_1) [1, 2, 3, 4, 0] (by decide) (lc' := [(0, .ref (am 0)), (1, .ref (ad 0)), (2, .int x.1), (3, .int x.2.1), (4, .int (x.2.2.1 + 1))]) rfl ?_
        refine j_goto (pc := 64) C d_Ma_perform_64 (tgt := 33) rfl ?_
        exact k33_ih (x.1, x.2.1, x.2.2.1 + 1, q13, x.2.2.2.2) hf
      · rw [if_pos h12] at hf
        refine j_iload_n (pc := 53) C d_Ma_perform_53 rfl 3 rfl ?_
        refine j_goto (pc := 54) C d_Ma_perform_54 (tgt := 58) rfl ?_
        obtain ⟨q14, eq14, hf⟩ := ob hf
        refine j_callVv (pc := 58) C (rest := []) d_Ma_perform_58 (c_Ma_push (g := g) (am := am) eq14) cv_Ma_push tw885 0 rfl rfl (cut_blk [wM g am x.2.2.2.1.1 x.2.2.2.1.2, wD g ad x.2.2.2.2.1 x.2.2.2.2.2] [wM g am q14.1 q14.2, wD g ad x.2.2.2.2.1 x.2.2.2.2.2] [1] [0] rfl rfl rfl rfl rfl rfl rfl) rfl rfl (Nat.le_of_ble_eq_true rfl) (kc2 := 0) (ks2 := 0) (by decide) ?_
        refine j_iinc (pc := 61) C d_Ma_perform_61 4 rfl (v := x.2.2.1 + 1) (iv ci_1) [1, 2, 3, 4, 0] (by decide) (lc' := [(0, .ref (am 0)), (1, .ref (ad 0)), (2, .int x.1), (3, .int x.2.1), (4, .int (x.2.2.1 + 1))]) rfl ?_
        refine j_goto (pc := 64) C d_Ma_perform_64 (tgt := 33) rfl ?_
        exact k33_ih (x.1, x.2.1, x.2.2.1 + 1, q14, x.2.2.2.2) hf
  unfold f_Ma_perform at hf
  change 𝒥 0 0 (wM g am k.1 k.2 ++ wD g ad d.1 d.2) [(0, .ref (am 0)), (1, .ref (ad 0)), (2, .int a2), (3, .int a3)] [] 0
  refine j_aload_n (pc := 0) C d_Ma_perform_0 rfl 0 rfl ?_
  refine j_iconst (pc := 1) C d_Ma_perform_1 ck_0 ?_
  refine j_put (pc := 2) C d_Ma_perform_2 0 1 rfl rfl (by decide) tw41 pd_I rfl rfl rfl (Nat.le_of_ble_eq_true rfl) (ws' := wM g am k.1 (va_up k.2 0 0) ++ wD g ad d.1 d.2) rfl ?_
  refine j_aload_n (pc := 5) C d_Ma_perform_5 rfl 0 rfl ?_
  refine j_iconst (pc := 6) C d_Ma_perform_6 ck_0 ?_
  refine j_put (pc := 7) C d_Ma_perform_7 0 2 rfl rfl (by decide) tw43 pd_I rfl rfl rfl (Nat.le_of_ble_eq_true rfl) (ws' := wM g am k.1 (va_up (va_up k.2 0 0) 1 0) ++ wD g ad d.1 d.2) rfl ?_
  refine j_aload_n (pc := 10) C d_Ma_perform_10 rfl 0 rfl ?_
  refine j_iconst (pc := 11) C d_Ma_perform_11 ck_0 ?_
  refine j_put (pc := 12) C d_Ma_perform_12 0 5 rfl rfl (by decide) tw47 pd_I rfl rfl rfl (Nat.le_of_ble_eq_true rfl) (ws' := wM g am k.1 (va_up (va_up (va_up k.2 0 0) 1 0) 2 0) ++ wD g ad d.1 d.2) rfl ?_
  refine j_aload_n (pc := 15) C d_Ma_perform_15 rfl 0 rfl ?_
  refine j_iconst (pc := 16) C d_Ma_perform_16 ck_0 ?_
  refine j_put (pc := 17) C d_Ma_perform_17 0 7 rfl rfl (by decide) tw49 pd_I rfl rfl rfl (Nat.le_of_ble_eq_true rfl) (ws' := wM g am k.1 (va_up (va_up (va_up (va_up k.2 0 0) 1 0) 2 0) 3 0) ++ wD g ad d.1 d.2) rfl ?_
  refine j_aload_n (pc := 20) C d_Ma_perform_20 rfl 0 rfl ?_
  refine j_iconst (pc := 21) C d_Ma_perform_21 ck_0 ?_
  refine j_put (pc := 22) C d_Ma_perform_22 0 8 rfl rfl (by decide) tw50 pd_I rfl rfl rfl (Nat.le_of_ble_eq_true rfl) (ws' := wM g am k.1 (va_up (va_up (va_up (va_up (va_up k.2 0 0) 1 0) 2 0) 3 0) 4 0) ++ wD g ad d.1 d.2) rfl ?_
  refine j_aload_n (pc := 25) C d_Ma_perform_25 rfl 0 rfl ?_
  refine j_iconst (pc := 26) C d_Ma_perform_26 ck_m1 ?_
  refine j_put (pc := 27) C d_Ma_perform_27 0 10 rfl rfl (by decide) tw52 pd_I rfl rfl rfl (Nat.le_of_ble_eq_true rfl) (ws' := wM g am k.1 (va_up (va_up (va_up (va_up (va_up (va_up k.2 0 0) 1 0) 2 0) 3 0) 4 0) 6 (-1)) ++ wD g ad d.1 d.2) rfl ?_
  refine j_iconst (pc := 30) C d_Ma_perform_30 ck_0 ?_
  refine j_istore (pc := 31) C d_Ma_perform_31 [1, 2, 3, 4, 0] (by decide) (lc' := [(0, .ref (am 0)), (1, .ref (ad 0)), (2, .int a2), (3, .int a3), (4, .int 0)]) rfl ?_
  exact L33 100000 (a2, a3, 0, (k.1, (va_up (va_up (va_up (va_up (va_up (va_up k.2 0 0) 1 0) 2 0) 3 0) 4 0) 6 (-1))), d) hf
abbrev rm_X_run : Room := { frames := 41, cells := 1, slots := 6, locals := 1162 }
theorem cv_X_run : CV y_X_run b_X_run 3 (some .int) 1 := ⟨⟨tw879, tw1, by decide +kernel⟩, tw877, tw878⟩
set_option maxHeartbeats 4000000 in
set_option maxRecDepth 100000 in
theorem c_X_run {g : GT} {ax : Nat → Nat} {am : Nat → Nat} {ad : Nat → Nat} {bd : Nat → Nat} {a1 : Int32} {k : DS} {d : DS} {b : DS} {q : Nat × Int32 × DS × DS × DS} (hf : f_X_run a1 k d b = some q) : MX g y_X_run b_X_run 3 (some .int) rm_X_run [.ref (ax 0), .int a1] (wX g ax am ad bd ++ (wM g am k.1 k.2 ++ (wD g ad d.1 d.2 ++ wD g bd b.1 b.2))) q.1 (some (.int q.2.1)) (wX g ax am ad bd ++ (wM g am q.2.2.1.1 q.2.2.1.2 ++ (wD g ad q.2.2.2.1.1 q.2.2.2.1.2 ++ wD g bd q.2.2.2.2.1 q.2.2.2.2.2))) := by
  refine MX.of (by decide) (Nat.le_of_ble_eq_true rfl) (fun 𝒥 CX => ?_)
  have C := CX.K
  unfold f_X_run at hf
  change 𝒥 0 0 (wX g ax am ad bd ++ (wM g am k.1 k.2 ++ (wD g ad d.1 d.2 ++ wD g bd b.1 b.2))) [(0, .ref (ax 0)), (1, .int a1)] [] 0
  refine j_aload_n (pc := 0) C d_X_run_0 rfl 0 rfl ?_
  refine j_get (pc := 1) C d_X_run_1 0 1 rfl rfl (v := .ref (ad 0)) rfl (by decide) tw318 ?_
  obtain ⟨q1, eq1, hf⟩ := ob hf
  refine j_callVv (pc := 4) C (rest := []) d_X_run_4 (c_Dr_refresh (g := g) (ad := ad) eq1) cv_Dr_refresh tw360 6 rfl rfl (cut_blk [wX g ax am ad bd, wM g am k.1 k.2, wD g ad d.1 d.2, wD g bd b.1 b.2] [wX g ax am ad bd, wM g am k.1 k.2, wD g ad q1.1 q1.2, wD g bd b.1 b.2] [0, 1, 3] [2] rfl rfl rfl rfl rfl rfl rfl) rfl rfl (Nat.le_of_ble_eq_true rfl) (kc2 := 0) (ks2 := 0) (by decide) ?_
  refine j_aload_n (pc := 7) C d_X_run_7 rfl 0 rfl ?_
  refine j_get (pc := 8) C d_X_run_8 0 1 rfl rfl (v := .ref (ad 0)) rfl (by decide) tw318 ?_
  refine j_get (pc := 11) C d_X_run_11 6 10 rfl rfl (v := .int (q1.2 1)) rfl (by decide) tw289 ?_
  refine j_if_le (pc := 14) C d_X_run_14 (tgt := 25) rfl (fun h2 => ?_) (fun h2 => ?_)
  · rw [if_pos h2] at hf
    refine j_aload_n (pc := 25) C d_X_run_25 rfl 0 rfl ?_
    refine j_get (pc := 26) C d_X_run_26 0 1 rfl rfl (v := .ref (ad 0)) rfl (by decide) tw318 ?_
    refine j_get (pc := 29) C d_X_run_29 6 2 rfl rfl (v := .ref (ad 8)) rfl (by decide) tw276 ?_
    refine j_gets (pc := 32) C d_X_run_32 tw342 ?_
    refine j_bipush (pc := 35) C d_X_run_35 cb_6 ?_
    refine j_tld (pc := 37) C d_X_run_37 (inb_in (by decide)) ?_
    obtain ⟨q4, eq4, hf⟩ := ob hf
    refine j_callVi (pc := 38) C (rest := []) d_X_run_38 (c_Fn_find (g := g) (ad := ad) eq4) cv_Fn_find tw880 14 rfl rfl (cut_blk [wX g ax am ad bd, wM g am k.1 k.2, wD g ad q1.1 q1.2, wD g bd b.1 b.2] [wX g ax am ad bd, wM g am k.1 k.2, wD g ad q4.2.1 q4.2.2, wD g bd b.1 b.2] [0, 1, 3] [2] rfl rfl rfl rfl rfl rfl rfl) rfl rfl (Nat.le_of_ble_eq_true rfl) (kc2 := 0) (ks2 := 0) (by decide) ?_
    refine j_istore_n (pc := 41) C d_X_run_41 rfl [1, 2, 0] (by decide) (lc' := [(0, .ref (ax 0)), (1, .int a1), (2, .int q4.1)]) rfl ?_
    refine j_iload_n (pc := 42) C d_X_run_42 rfl 2 rfl ?_
    refine j_iconst (pc := 43) C d_X_run_43 ck_m1 ?_
    refine j_icmp_ne (pc := 44) C d_X_run_44 (tgt := 55) rfl (fun h5 => ?_) (fun h5 => ?_)
    · rw [if_neg h5] at hf
      refine j_aload_n (pc := 55) C d_X_run_55 rfl 0 rfl ?_
      refine j_get (pc := 56) C d_X_run_56 0 0 rfl rfl (v := .ref (am 0)) rfl (by decide) tw317 ?_
      refine j_aload_n (pc := 59) C d_X_run_59 rfl 0 rfl ?_
      refine j_get (pc := 60) C d_X_run_60 0 1 rfl rfl (v := .ref (ad 0)) rfl (by decide) tw318 ?_
      refine j_iload_n (pc := 63) C d_X_run_63 rfl 2 rfl ?_
      refine j_iload_n (pc := 64) C d_X_run_64 rfl 1 rfl ?_
      obtain ⟨q6, eq6, hf⟩ := ob hf
      refine j_callVi (pc := 65) C (rest := []) d_X_run_65 (c_Ma_perform (g := g) (am := am) (ad := ad) eq6) cv_Ma_perform tw881 1 rfl rfl (cut_blk [wX g ax am ad bd, wM g am k.1 k.2, wD g ad q4.2.1 q4.2.2, wD g bd b.1 b.2] [wX g ax am ad bd, wM g am q6.2.1.1 q6.2.1.2, wD g ad q6.2.2.1 q6.2.2.2, wD g bd b.1 b.2] [0, 3] [1, 2] rfl rfl rfl rfl rfl rfl rfl) rfl rfl (Nat.le_of_ble_eq_true rfl) (kc2 := 0) (ks2 := 0) (by decide) ?_
      cases hf
      exact j_iret (pc := 68) C d_X_run_68 ⟨rfl, rfl, rfl⟩ (Nat.le_of_ble_eq_true rfl) (Nat.le_of_ble_eq_true rfl)
    · rw [if_pos h5] at hf
      cases hf
      exact j_throw (pc := 47) CX xt_4 d_X_run_47 d_X_run_50 d_X_run_51 d_X_run_54 ⟨by decide, rfl, rfl⟩ (by decide)
  · rw [if_neg h2] at hf
    cases hf
    exact j_throw (pc := 17) CX xt_3 d_X_run_17 d_X_run_20 d_X_run_21 d_X_run_24 ⟨by decide, rfl, rfl⟩ (by decide)
abbrev rm_X_output : Room := { frames := 6, cells := 1, slots := 6, locals := 81 }
theorem cv_X_output : CV y_X_output b_X_output 2 (some .int) 1 := ⟨⟨tw929, tw1, by decide +kernel⟩, tw927, tw928⟩
set_option maxHeartbeats 4000000 in
set_option maxRecDepth 100000 in
theorem c_X_output {g : GT} {ax : Nat → Nat} {am : Nat → Nat} {ad : Nat → Nat} {bd : Nat → Nat} {a1 : Int32} {k : DS} {d : DS} {b : DS} {q : Nat × Int32 × DS × DS × DS} (hf : f_X_output a1 k d b = some q) : MX g y_X_output b_X_output 2 (some .int) rm_X_output [.ref (ax 0), .int a1] (wX g ax am ad bd ++ (wM g am k.1 k.2 ++ (wD g ad d.1 d.2 ++ wD g bd b.1 b.2))) q.1 (some (.int q.2.1)) (wX g ax am ad bd ++ (wM g am q.2.2.1.1 q.2.2.1.2 ++ (wD g ad q.2.2.2.1.1 q.2.2.2.1.2 ++ wD g bd q.2.2.2.2.1 q.2.2.2.2.2))) := by
  refine MX.of (by decide) (Nat.le_of_ble_eq_true rfl) (fun 𝒥 CX => ?_)
  have C := CX.K
  unfold f_X_output at hf
  change 𝒥 0 0 (wX g ax am ad bd ++ (wM g am k.1 k.2 ++ (wD g ad d.1 d.2 ++ wD g bd b.1 b.2))) [(0, .ref (ax 0)), (1, .int a1)] [] 0
  refine j_iload_n (pc := 0) C d_X_output_0 rfl 1 rfl ?_
  refine j_iconst (pc := 1) C d_X_output_1 ck_m1 ?_
  refine j_icmp_ne (pc := 2) C d_X_output_2 (tgt := 13) rfl (fun h1 => ?_) (fun h1 => ?_)
  · rw [if_neg h1] at hf
    refine j_iload_n (pc := 13) C d_X_output_13 rfl 1 rfl ?_
    refine j_bipush (pc := 14) C d_X_output_14 cb_m2 ?_
    refine j_icmp_ne (pc := 16) C d_X_output_16 (tgt := 27) rfl (fun h2 => ?_) (fun h2 => ?_)
    · rw [if_neg h2] at hf
      refine j_iload_n (pc := 27) C d_X_output_27 rfl 1 rfl ?_
      refine j_if_lt (pc := 28) C d_X_output_28 (tgt := 48) rfl (fun h3 => ?_) (fun h3 => ?_)
      · rw [if_pos h3] at hf
        cases hf
        exact j_throw (pc := 48) CX xt_4 d_X_output_48 d_X_output_51 d_X_output_52 d_X_output_55 ⟨by decide, rfl, rfl⟩ (by decide)
      · rw [if_neg h3] at hf
        refine j_iload_n (pc := 31) C d_X_output_31 rfl 1 rfl ?_
        refine j_aload_n (pc := 32) C d_X_output_32 rfl 0 rfl ?_
        refine j_get (pc := 33) C d_X_output_33 0 0 rfl rfl (v := .ref (am 0)) rfl (by decide) tw317 ?_
        refine j_get (pc := 36) C d_X_output_36 1 1 rfl rfl (v := .int (k.2 0)) rfl (by decide) tw42 ?_
        refine j_icmp_ge (pc := 39) C d_X_output_39 (tgt := 48) rfl (fun h4 => ?_) (fun h4 => ?_)
        · rw [if_pos h4] at hf
          cases hf
          exact j_throw (pc := 48) CX xt_4 d_X_output_48 d_X_output_51 d_X_output_52 d_X_output_55 ⟨by decide, rfl, rfl⟩ (by decide)
        · rw [if_neg h4] at hf
          refine j_iload_n (pc := 42) C d_X_output_42 rfl 1 rfl ?_
          refine j_bipush (pc := 43) C d_X_output_43 cb_32 ?_
          refine j_icmp_lt (pc := 45) C d_X_output_45 (tgt := 56) rfl (fun h5 => ?_) (fun h5 => ?_)
          · rw [if_pos h5] at hf
            refine j_aload_n (pc := 56) C d_X_output_56 rfl 0 rfl ?_
            refine j_get (pc := 57) C d_X_output_57 0 0 rfl rfl (v := .ref (am 0)) rfl (by decide) tw317 ?_
            refine j_get (pc := 60) C d_X_output_60 1 0 rfl rfl (v := .ref (am 1)) rfl (by decide) tw40 ?_
            refine j_iload_n (pc := 63) C d_X_output_63 rfl 1 rfl ?_
            obtain ⟨b6, hf⟩ := og hf
            refine j_iald (pc := 64) C d_X_output_64 2 (inb_in b6) (x := k.1 1 a1.toNatClampNeg) rfl rfl ?_
            cases hf
            exact j_iret (pc := 65) C d_X_output_65 ⟨rfl, rfl, rfl⟩ (Nat.le_of_ble_eq_true rfl) (Nat.le_of_ble_eq_true rfl)
          · rw [if_neg h5] at hf
            cases hf
            exact j_throw (pc := 48) CX xt_4 d_X_output_48 d_X_output_51 d_X_output_52 d_X_output_55 ⟨by decide, rfl, rfl⟩ (by decide)
    · rw [if_pos h2] at hf
      refine j_aload_n (pc := 19) C d_X_output_19 rfl 0 rfl ?_
      refine j_get (pc := 20) C d_X_output_20 0 0 rfl rfl (v := .ref (am 0)) rfl (by decide) tw317 ?_
      refine j_get (pc := 23) C d_X_output_23 1 2 rfl rfl (v := .int (k.2 1)) rfl (by decide) tw44 ?_
      cases hf
      exact j_iret (pc := 26) C d_X_output_26 ⟨rfl, rfl, rfl⟩ (Nat.le_of_ble_eq_true rfl) (Nat.le_of_ble_eq_true rfl)
  · rw [if_pos h1] at hf
    refine j_aload_n (pc := 5) C d_X_output_5 rfl 0 rfl ?_
    refine j_get (pc := 6) C d_X_output_6 0 0 rfl rfl (v := .ref (am 0)) rfl (by decide) tw317 ?_
    refine j_get (pc := 9) C d_X_output_9 1 1 rfl rfl (v := .int (k.2 0)) rfl (by decide) tw42 ?_
    cases hf
    exact j_iret (pc := 12) C d_X_output_12 ⟨rfl, rfl, rfl⟩ (Nat.le_of_ble_eq_true rfl) (Nat.le_of_ble_eq_true rfl)
abbrev rm_Mo_thrown : Room := { frames := 0, cells := 0, slots := 0, locals := 0 }
theorem cv_Mo_thrown : CV y_Mo_thrown b_Mo_thrown 1 (some .int) 0 := ⟨⟨tw1110, tw10, by decide +kernel⟩, tw1108, tw1109⟩
set_option maxHeartbeats 4000000 in
set_option maxRecDepth 100000 in
theorem c_Mo_thrown {g : GT} {ar : Nat → Nat} {r : RS} {q : Int32 × RS} (hf : f_Mo_thrown r = some q) : MI g y_Mo_thrown b_Mo_thrown 1 (some .int) rm_Mo_thrown [.ref (ar 0)] (wR g ar r.1 r.2.1 r.2.2) q.1 (wR g ar q.2.1 q.2.2.1 q.2.2.2) := by
  refine MI.of (by decide) (Nat.le_of_ble_eq_true rfl) (fun 𝒥 C => ?_)
  unfold f_Mo_thrown at hf
  change 𝒥 0 0 (wR g ar r.1 r.2.1 r.2.2) [(0, .ref (ar 0))] [] 0
  refine j_aload_n (pc := 0) C d_Mo_thrown_0 rfl 0 rfl ?_
  refine j_get (pc := 1) C d_Mo_thrown_1 0 1 wR_o0 rfl (v := .int (r.2.1 0)) rfl (by decide) tw943 ?_
  cases hf
  exact j_iret (pc := 4) C d_Mo_thrown_4 ⟨rfl, rfl⟩ (Nat.le_of_ble_eq_true rfl) (Nat.le_of_ble_eq_true rfl)
abbrev rm_Mo_fails : Room := { frames := 0, cells := 0, slots := 0, locals := 0 }
theorem cv_Mo_fails : CV y_Mo_fails b_Mo_fails 2 (some .int) 1 := ⟨⟨tw1265, tw10, by decide +kernel⟩, tw1264, (sw_ (q := (y_Mo_fails, 54)) (by decide +kernel) (by decide +kernel))⟩
set_option maxHeartbeats 4000000 in
set_option maxRecDepth 100000 in
theorem c_Mo_fails {g : GT} {ar : Nat → Nat} {a1 : Int32} {r : RS} {q : Int32 × RS} (hf : f_Mo_fails a1 r = some q) : MI g y_Mo_fails b_Mo_fails 2 (some .int) rm_Mo_fails [.ref (ar 0), .int a1] (wR g ar r.1 r.2.1 r.2.2) q.1 (wR g ar q.2.1 q.2.2.1 q.2.2.2) := by
  refine MI.of (by decide) (Nat.le_of_ble_eq_true rfl) (fun 𝒥 C => ?_)
  unfold f_Mo_fails at hf
  change 𝒥 0 0 (wR g ar r.1 r.2.1 r.2.2) [(0, .ref (ar 0)), (1, .int a1)] [] 0
  refine j_aload_n (pc := 0) C d_Mo_fails_0 rfl 0 rfl ?_
  refine j_iload_n (pc := 1) C d_Mo_fails_1 rfl 1 rfl ?_
  refine j_put (pc := 2) C d_Mo_fails_2 0 1 wR_o0 rfl (by decide) tw943 pd_I rfl rfl rfl (Nat.le_of_ble_eq_true rfl) (ws' := wR g ar r.1 (va_up r.2.1 0 a1) r.2.2) wR_p0_1 ?_
  refine j_iconst (pc := 5) C d_Mo_fails_5 ck_0 ?_
  cases hf
  exact j_iret (pc := 6) C d_Mo_fails_6 ⟨rfl, rfl⟩ (Nat.le_of_ble_eq_true rfl) (Nat.le_of_ble_eq_true rfl)
abbrev rm_Mo_isChar : Room := { frames := 0, cells := 0, slots := 0, locals := 0 }
theorem cv_Mo_isChar : CS y_Mo_isChar b_Mo_isChar 1 (some .boolean) 1 := ⟨⟨tw1117, tw10, by decide +kernel⟩, tw1116⟩
set_option maxHeartbeats 4000000 in
set_option maxRecDepth 100000 in
theorem c_Mo_isChar {g : GT} {a0 : Int32} {q : Int32} (hf : f_Mo_isChar a0 = some q) : MI g y_Mo_isChar b_Mo_isChar 1 (some .boolean) rm_Mo_isChar [.int a0] ([]) q ([]) := by
  refine MI.of (by decide) (Nat.le_of_ble_eq_true rfl) (fun 𝒥 C => ?_)
  unfold f_Mo_isChar at hf
  change 𝒥 0 0 ([]) [(0, .int a0)] [] 0
  refine j_iload_n (pc := 0) C d_Mo_isChar_0 rfl 0 rfl ?_
  refine j_bipush (pc := 1) C d_Mo_isChar_1 cb_32 ?_
  refine j_icmp_lt (pc := 3) C d_Mo_isChar_3 (tgt := 16) rfl (fun h1 => ?_) (fun h1 => ?_)
  · rw [if_pos h1] at hf
    refine j_iconst (pc := 16) C d_Mo_isChar_16 ck_0 ?_
    cases hf
    exact j_zret (pc := 17) C d_Mo_isChar_17 rfl ⟨rfl, rfl⟩ (Nat.le_of_ble_eq_true rfl) (Nat.le_of_ble_eq_true rfl)
  · rw [if_neg h1] at hf
    refine j_iload_n (pc := 6) C d_Mo_isChar_6 rfl 0 rfl ?_
    refine j_bipush (pc := 7) C d_Mo_isChar_7 cb_126 ?_
    refine j_icmp_gt (pc := 9) C d_Mo_isChar_9 (tgt := 16) rfl (fun h2 => ?_) (fun h2 => ?_)
    · rw [if_pos h2] at hf
      refine j_iconst (pc := 16) C d_Mo_isChar_16 ck_0 ?_
      cases hf
      exact j_zret (pc := 17) C d_Mo_isChar_17 rfl ⟨rfl, rfl⟩ (Nat.le_of_ble_eq_true rfl) (Nat.le_of_ble_eq_true rfl)
    · rw [if_neg h2] at hf
      refine j_iconst (pc := 12) C d_Mo_isChar_12 ck_1 ?_
      refine j_goto (pc := 13) C d_Mo_isChar_13 (tgt := 17) rfl ?_
      cases hf
      exact j_zret (pc := 17) C d_Mo_isChar_17 rfl ⟨rfl, rfl⟩ (Nat.le_of_ble_eq_true rfl) (Nat.le_of_ble_eq_true rfl)
abbrev rm_Mo_isLetter : Room := { frames := 0, cells := 0, slots := 0, locals := 0 }
theorem cv_Mo_isLetter : CS y_Mo_isLetter b_Mo_isLetter 1 (some .boolean) 1 := ⟨⟨tw1157, tw10, by decide +kernel⟩, tw1156⟩
set_option maxHeartbeats 4000000 in
set_option maxRecDepth 100000 in
theorem c_Mo_isLetter {g : GT} {a0 : Int32} {q : Int32} (hf : f_Mo_isLetter a0 = some q) : MI g y_Mo_isLetter b_Mo_isLetter 1 (some .boolean) rm_Mo_isLetter [.int a0] ([]) q ([]) := by
  refine MI.of (by decide) (Nat.le_of_ble_eq_true rfl) (fun 𝒥 C => ?_)
  unfold f_Mo_isLetter at hf
  change 𝒥 0 0 ([]) [(0, .int a0)] [] 0
  refine j_iload_n (pc := 0) C d_Mo_isLetter_0 rfl 0 rfl ?_
  refine j_bipush (pc := 1) C d_Mo_isLetter_1 cb_97 ?_
  refine j_icmp_lt (pc := 3) C d_Mo_isLetter_3 (tgt := 16) rfl (fun h1 => ?_) (fun h1 => ?_)
  · rw [if_pos h1] at hf
    refine j_iconst (pc := 16) C d_Mo_isLetter_16 ck_0 ?_
    cases hf
    exact j_zret (pc := 17) C d_Mo_isLetter_17 rfl ⟨rfl, rfl⟩ (Nat.le_of_ble_eq_true rfl) (Nat.le_of_ble_eq_true rfl)
  · rw [if_neg h1] at hf
    refine j_iload_n (pc := 6) C d_Mo_isLetter_6 rfl 0 rfl ?_
    refine j_bipush (pc := 7) C d_Mo_isLetter_7 cb_122 ?_
    refine j_icmp_gt (pc := 9) C d_Mo_isLetter_9 (tgt := 16) rfl (fun h2 => ?_) (fun h2 => ?_)
    · rw [if_pos h2] at hf
      refine j_iconst (pc := 16) C d_Mo_isLetter_16 ck_0 ?_
      cases hf
      exact j_zret (pc := 17) C d_Mo_isLetter_17 rfl ⟨rfl, rfl⟩ (Nat.le_of_ble_eq_true rfl) (Nat.le_of_ble_eq_true rfl)
    · rw [if_neg h2] at hf
      refine j_iconst (pc := 12) C d_Mo_isLetter_12 ck_1 ?_
      refine j_goto (pc := 13) C d_Mo_isLetter_13 (tgt := 17) rfl ?_
      cases hf
      exact j_zret (pc := 17) C d_Mo_isLetter_17 rfl ⟨rfl, rfl⟩ (Nat.le_of_ble_eq_true rfl) (Nat.le_of_ble_eq_true rfl)
abbrev rm_Mo_isDigit : Room := { frames := 0, cells := 0, slots := 0, locals := 0 }
theorem cv_Mo_isDigit : CS y_Mo_isDigit b_Mo_isDigit 1 (some .boolean) 1 := ⟨⟨tw1164, tw10, by decide +kernel⟩, tw1163⟩
set_option maxHeartbeats 4000000 in
set_option maxRecDepth 100000 in
theorem c_Mo_isDigit {g : GT} {a0 : Int32} {q : Int32} (hf : f_Mo_isDigit a0 = some q) : MI g y_Mo_isDigit b_Mo_isDigit 1 (some .boolean) rm_Mo_isDigit [.int a0] ([]) q ([]) := by
  refine MI.of (by decide) (Nat.le_of_ble_eq_true rfl) (fun 𝒥 C => ?_)
  unfold f_Mo_isDigit at hf
  change 𝒥 0 0 ([]) [(0, .int a0)] [] 0
  refine j_iload_n (pc := 0) C d_Mo_isDigit_0 rfl 0 rfl ?_
  refine j_bipush (pc := 1) C d_Mo_isDigit_1 cb_48 ?_
  refine j_icmp_lt (pc := 3) C d_Mo_isDigit_3 (tgt := 16) rfl (fun h1 => ?_) (fun h1 => ?_)
  · rw [if_pos h1] at hf
    refine j_iconst (pc := 16) C d_Mo_isDigit_16 ck_0 ?_
    cases hf
    exact j_zret (pc := 17) C d_Mo_isDigit_17 rfl ⟨rfl, rfl⟩ (Nat.le_of_ble_eq_true rfl) (Nat.le_of_ble_eq_true rfl)
  · rw [if_neg h1] at hf
    refine j_iload_n (pc := 6) C d_Mo_isDigit_6 rfl 0 rfl ?_
    refine j_bipush (pc := 7) C d_Mo_isDigit_7 cb_57 ?_
    refine j_icmp_gt (pc := 9) C d_Mo_isDigit_9 (tgt := 16) rfl (fun h2 => ?_) (fun h2 => ?_)
    · rw [if_pos h2] at hf
      refine j_iconst (pc := 16) C d_Mo_isDigit_16 ck_0 ?_
      cases hf
      exact j_zret (pc := 17) C d_Mo_isDigit_17 rfl ⟨rfl, rfl⟩ (Nat.le_of_ble_eq_true rfl) (Nat.le_of_ble_eq_true rfl)
    · rw [if_neg h2] at hf
      refine j_iconst (pc := 12) C d_Mo_isDigit_12 ck_1 ?_
      refine j_goto (pc := 13) C d_Mo_isDigit_13 (tgt := 17) rfl ?_
      cases hf
      exact j_zret (pc := 17) C d_Mo_isDigit_17 rfl ⟨rfl, rfl⟩ (Nat.le_of_ble_eq_true rfl) (Nat.le_of_ble_eq_true rfl)
abbrev rm_Mo_type : Room := { frames := 1, cells := 0, slots := 0, locals := 20 }
theorem cv_Mo_type : CV y_Mo_type b_Mo_type 2 (some .boolean) 1 := ⟨⟨tw1114, tw10, by decide +kernel⟩, tw1112, tw1113⟩
set_option maxHeartbeats 4000000 in
set_option maxRecDepth 100000 in
theorem c_Mo_type {g : GT} {ar : Nat → Nat} {a1 : Int32} {r : RS} {q : Int32 × RS} (hf : f_Mo_type a1 r = some q) : MI g y_Mo_type b_Mo_type 2 (some .boolean) rm_Mo_type [.ref (ar 0), .int a1] (wR g ar r.1 r.2.1 r.2.2) q.1 (wR g ar q.2.1 q.2.2.1 q.2.2.2) := by
  refine MI.of (by decide) (Nat.le_of_ble_eq_true rfl) (fun 𝒥 C => ?_)
  unfold f_Mo_type at hf
  change 𝒥 0 0 (wR g ar r.1 r.2.1 r.2.2) [(0, .ref (ar 0)), (1, .int a1)] [] 0
  refine j_aload_n (pc := 0) C d_Mo_type_0 rfl 0 rfl ?_
  refine j_iconst (pc := 1) C d_Mo_type_1 ck_0 ?_
  refine j_put (pc := 2) C d_Mo_type_2 0 1 wR_o0 rfl (by decide) tw943 pd_I rfl rfl rfl (Nat.le_of_ble_eq_true rfl) (ws' := wR g ar r.1 (va_up r.2.1 0 0) r.2.2) wR_p0_1 ?_
  refine j_iload_n (pc := 5) C d_Mo_type_5 rfl 1 rfl ?_
  obtain ⟨q1, eq1, hf⟩ := ob hf
  refine j_callSi (pc := 6) C (rest := []) d_Mo_type_6 (c_Mo_isChar (g := g)  eq1) cv_Mo_isChar tw1115 cut_none rfl rfl (Nat.le_of_ble_eq_true rfl) (kc2 := 0) (ks2 := 0) (by decide) ?_
  refine j_if_eq (pc := 9) C d_Mo_type_9 (tgt := 22) rfl (fun h2 => ?_) (fun h2 => ?_)
  · rw [if_pos h2] at hf
    refine j_iconst (pc := 22) C d_Mo_type_22 ck_0 ?_
    cases hf
    exact j_zret (pc := 23) C d_Mo_type_23 rfl ⟨rfl, rfl⟩ (Nat.le_of_ble_eq_true rfl) (Nat.le_of_ble_eq_true rfl)
  · rw [if_neg h2] at hf
    refine j_aload_n (pc := 12) C d_Mo_type_12 rfl 0 rfl ?_
    refine j_get (pc := 13) C d_Mo_type_13 0 3 wR_o0 rfl (v := .int (r.2.1 1)) rfl (by decide) tw945 ?_
    refine j_sipush (pc := 16) C d_Mo_type_16 cs_240 ?_
    refine j_icmp_ne (pc := 19) C d_Mo_type_19 (tgt := 24) rfl (fun h3 => ?_) (fun h3 => ?_)
    · rw [if_neg h3] at hf
      refine j_aload_n (pc := 24) C d_Mo_type_24 rfl 0 rfl ?_
      refine j_get (pc := 25) C d_Mo_type_25 0 2 wR_o0 rfl (v := .ref (ar 2)) rfl (by decide) tw944 ?_
      refine j_aload_n (pc := 28) C d_Mo_type_28 rfl 0 rfl ?_
      refine j_get (pc := 29) C d_Mo_type_29 0 3 wR_o0 rfl (v := .int (r.2.1 1)) rfl (by decide) tw945 ?_
      refine j_iload_n (pc := 32) C d_Mo_type_32 rfl 1 rfl ?_
      obtain ⟨b4, hf⟩ := og hf
      refine j_iast (pc := 33) C d_Mo_type_33 2 (inb_in b4) wR_a2 (ws' := wR g ar (va_up r.1 2 (upd (r.1 2) (r.2.1 1).toNatClampNeg a1)) (va_up r.2.1 0 0) r.2.2) wR_s2 ?_
      refine j_aload_n (pc := 34) C d_Mo_type_34 rfl 0 rfl ?_
      refine j_dup (pc := 35) C d_Mo_type_35 rfl ?_
      refine j_get (pc := 36) C d_Mo_type_36 0 3 wR_o0 rfl (v := .int (r.2.1 1)) rfl (by decide) tw945 ?_
      refine j_iconst (pc := 39) C d_Mo_type_39 ck_1 ?_
      refine j_iadd (pc := 40) C d_Mo_type_40 ?_
      refine j_put (pc := 41) C d_Mo_type_41 0 3 wR_o0 rfl (by decide) tw945 pd_I rfl rfl rfl (Nat.le_of_ble_eq_true rfl) (ws' := wR g ar (va_up r.1 2 (upd (r.1 2) (r.2.1 1).toNatClampNeg a1)) (va_up (va_up r.2.1 0 0) 1 ((r.2.1 1) + 1)) r.2.2) wR_p0_3 ?_
      refine j_iconst (pc := 44) C d_Mo_type_44 ck_1 ?_
      cases hf
      exact j_zret (pc := 45) C d_Mo_type_45 rfl ⟨rfl, rfl⟩ (Nat.le_of_ble_eq_true rfl) (Nat.le_of_ble_eq_true rfl)
    · rw [if_pos h3] at hf
      refine j_iconst (pc := 22) C d_Mo_type_22 ck_0 ?_
      cases hf
      exact j_zret (pc := 23) C d_Mo_type_23 rfl ⟨rfl, rfl⟩ (Nat.le_of_ble_eq_true rfl) (Nat.le_of_ble_eq_true rfl)
abbrev rm_Mo_letters : Room := { frames := 0, cells := 0, slots := 0, locals := 0 }
theorem cv_Mo_letters : CS y_Mo_letters b_Mo_letters 3 (some .int) 1 := ⟨⟨tw1125, tw10, by decide +kernel⟩, tw1124⟩
set_option maxHeartbeats 4000000 in
set_option maxRecDepth 100000 in
theorem c_Mo_letters {g : GT} {a0 : Int64} {q : Int32} (hf : f_Mo_letters a0 = some q) : MI g y_Mo_letters b_Mo_letters 3 (some .int) rm_Mo_letters [.long a0] ([]) q ([]) := by
  refine MI.of (by decide) (Nat.le_of_ble_eq_true rfl) (fun 𝒥 C => ?_)
  have L2 : ∀ (n : Nat) (x : Int64 × Int32), lpN (BMo_letters_2) n x = some q → 𝒥 0 0 ([]) [(0, .long x.1), (2, .int x.2)] [] 2 := by
    refine lp_ind (fun k2 k2_ih x hf => ?_)
    unfold BMo_letters_2 at hf
    refine j_iload_n (pc := 2) C d_Mo_letters_2 rfl 1 rfl ?_
    refine j_bipush (pc := 3) C d_Mo_letters_3 cb_13 ?_
    refine j_icmp_ge (pc := 5) C d_Mo_letters_5 (tgt := 24) rfl (fun h1 => ?_) (fun h1 => ?_)
    · rw [if_pos h1] at hf
      refine j_iload_n (pc := 24) C d_Mo_letters_24 rfl 1 rfl ?_
      cases hf
      exact j_iret (pc := 25) C d_Mo_letters_25 ⟨rfl, rfl⟩ (Nat.le_of_ble_eq_true rfl) (Nat.le_of_ble_eq_true rfl)
    · rw [if_neg h1] at hf
      refine j_lload_n (pc := 8) C d_Mo_letters_8 rfl 0 rfl ?_
      refine j_iconst (pc := 9) C d_Mo_letters_9 ck_5 ?_
      refine j_iload_n (pc := 10) C d_Mo_letters_10 rfl 1 rfl ?_
      refine j_imul (pc := 11) C d_Mo_letters_11 ?_
      refine j_lshr (pc := 12) C d_Mo_letters_12 ?_
      refine j_lconst (pc := 13) C d_Mo_letters_13 cl_0 ?_
      refine j_lcmp (pc := 14) C d_Mo_letters_14 ?_
      refine j_topi C (fun v2 ev2 => ?_)
      replace hf := ov ev2 hf
      refine j_if_eq (pc := 15) C d_Mo_letters_15 (tgt := 24) rfl (fun h3 => ?_) (fun h3 => ?_)
      · rw [if_pos h3] at hf
        refine j_iload_n (pc := 24) C d_Mo_letters_24 rfl 1 rfl ?_
        cases hf
        exact j_iret (pc := 25) C d_Mo_letters_25 ⟨rfl, rfl⟩ (Nat.le_of_ble_eq_true rfl) (Nat.le_of_ble_eq_true rfl)
      · rw [if_neg h3] at hf
        refine j_iinc (pc := 18) C d_Mo_letters_18 1 rfl (v := x.2 + 1) (iv ci_1) [1, 0] (by decide) (lc' := [(0, .long x.1), (2, .int (x.2 + 1))]) rfl ?_
        refine j_goto (pc := 21) C d_Mo_letters_21 (tgt := 2) rfl ?_
        exact k2_ih (x.1, x.2 + 1) hf
  unfold f_Mo_letters at hf
  change 𝒥 0 0 ([]) [(0, .long a0)] [] 0
  refine j_iconst (pc := 0) C d_Mo_letters_0 ck_0 ?_
  refine j_istore_n (pc := 1) C d_Mo_letters_1 rfl [1, 0] (by decide) (lc' := [(0, .long a0), (2, .int 0)]) rfl ?_
  exact L2 100000 (a0, 0) hf
abbrev rm_Mo_word : Room := { frames := 1, cells := 0, slots := 0, locals := 22 }
theorem cv_Mo_word : CV y_Mo_word b_Mo_word 6 (some .boolean) 1 := ⟨⟨tw1121, tw10, by decide +kernel⟩, tw1119, tw1120⟩
set_option maxHeartbeats 4000000 in
set_option maxRecDepth 100000 in
theorem c_Mo_word {g : GT} {ar : Nat → Nat} {a1 : Int32} {r : RS} {q : Int32 × RS} (hf : f_Mo_word a1 r = some q) : MI g y_Mo_word b_Mo_word 6 (some .boolean) rm_Mo_word [.ref (ar 0), .int a1] (wR g ar r.1 r.2.1 r.2.2) q.1 (wR g ar q.2.1 q.2.2.1 q.2.2.2) := by
  refine MI.of (by decide) (Nat.le_of_ble_eq_true rfl) (fun 𝒥 C => ?_)
  have L62 : ∀ (n : Nat) (x : Int32 × Int64 × Int32 × Int32 × RS), lpN (BMo_word_62) n x = some q → 𝒥 0 0 (wR g ar x.2.2.2.2.1 x.2.2.2.2.2.1 x.2.2.2.2.2.2) [(0, .ref (ar 0)), (1, .int x.1), (2, .long x.2.1), (4, .int x.2.2.1), (5, .int x.2.2.2.1)] [] 62 := by
    refine lp_ind (fun k62 k62_ih x hf => ?_)
    unfold BMo_word_62 at hf
    refine j_iload (pc := 62) C d_Mo_word_62 4 rfl ?_
    refine j_iload (pc := 64) C d_Mo_word_64 3 rfl ?_
    refine j_icmp_ge (pc := 66) C d_Mo_word_66 (tgt := 101) rfl (fun h7 => ?_) (fun h7 => ?_)
    · rw [if_pos h7] at hf
      refine j_aload_n (pc := 101) C d_Mo_word_101 rfl 0 rfl ?_
      refine j_get (pc := 102) C d_Mo_word_102 0 2 wR_o0 rfl (v := .ref (ar 2)) rfl (by decide) tw944 ?_
      refine j_aload_n (pc := 105) C d_Mo_word_105 rfl 0 rfl ?_
      refine j_get (pc := 106) C d_Mo_word_106 0 3 wR_o0 rfl (v := .int (x.2.2.2.2.2.1 1)) rfl (by decide) tw945 ?_
      refine j_iload (pc := 109) C d_Mo_word_109 3 rfl ?_
      refine j_iadd (pc := 111) C d_Mo_word_111 ?_
      refine j_bipush (pc := 112) C d_Mo_word_112 cb_32 ?_
      obtain ⟨b8, hf⟩ := og hf
      refine j_iast (pc := 114) C d_Mo_word_114 2 (inb_in b8) wR_a2 (ws' := wR g ar (va_up x.2.2.2.2.1 2 (upd (x.2.2.2.2.1 2) ((x.2.2.2.2.2.1 1) + x.2.2.1).toNatClampNeg 32)) x.2.2.2.2.2.1 x.2.2.2.2.2.2) wR_s2 ?_
      refine j_aload_n (pc := 115) C d_Mo_word_115 rfl 0 rfl ?_
      refine j_dup (pc := 116) C d_Mo_word_116 rfl ?_
      refine j_get (pc := 117) C d_Mo_word_117 0 3 wR_o0 rfl (v := .int (x.2.2.2.2.2.1 1)) rfl (by decide) tw945 ?_
      refine j_iload (pc := 120) C d_Mo_word_120 3 rfl ?_
      refine j_iconst (pc := 122) C d_Mo_word_122 ck_1 ?_
      refine j_iadd (pc := 123) C d_Mo_word_123 ?_
      refine j_iadd (pc := 124) C d_Mo_word_124 ?_
      refine j_put (pc := 125) C d_Mo_word_125 0 3 wR_o0 rfl (by decide) tw945 pd_I rfl rfl rfl (Nat.le_of_ble_eq_true rfl) (ws' := wR g ar (va_up x.2.2.2.2.1 2 (upd (x.2.2.2.2.1 2) ((x.2.2.2.2.2.1 1) + x.2.2.1).toNatClampNeg 32)) (va_up x.2.2.2.2.2.1 1 ((x.2.2.2.2.2.1 1) + (x.2.2.1 + 1))) x.2.2.2.2.2.2) wR_p0_3 ?_
      refine j_iconst (pc := 128) C d_Mo_word_128 ck_1 ?_
      cases hf
      exact j_zret (pc := 129) C d_Mo_word_129 rfl ⟨rfl, rfl⟩ (Nat.le_of_ble_eq_true rfl) (Nat.le_of_ble_eq_true rfl)
    · rw [if_neg h7] at hf
      refine j_aload_n (pc := 69) C d_Mo_word_69 rfl 0 rfl ?_
      refine j_get (pc := 70) C d_Mo_word_70 0 2 wR_o0 rfl (v := .ref (ar 2)) rfl (by decide) tw944 ?_
      refine j_aload_n (pc := 73) C d_Mo_word_73 rfl 0 rfl ?_
      refine j_get (pc := 74) C d_Mo_word_74 0 3 wR_o0 rfl (v := .int (x.2.2.2.2.2.1 1)) rfl (by decide) tw945 ?_
      refine j_iload (pc := 77) C d_Mo_word_77 4 rfl ?_
      refine j_iadd (pc := 79) C d_Mo_word_79 ?_
      refine j_bipush (pc := 80) C d_Mo_word_80 cb_96 ?_
      refine j_lload_n (pc := 82) C d_Mo_word_82 rfl 2 rfl ?_
      refine j_iconst (pc := 83) C d_Mo_word_83 ck_5 ?_
      refine j_iload (pc := 84) C d_Mo_word_84 4 rfl ?_
      refine j_imul (pc := 86) C d_Mo_word_86 ?_
      refine j_lshr (pc := 87) C d_Mo_word_87 ?_
      refine j_topl C (fun v9 ev9 => ?_)
      replace hf := ov ev9 hf
      refine j_ldc2 (pc := 88) C d_Mo_word_88 tw1126 ?_
      refine j_land (pc := 91) C d_Mo_word_91 ?_
      refine j_l2i (pc := 92) C d_Mo_word_92 rfl ?_
      refine j_iadd (pc := 93) C d_Mo_word_93 ?_
      obtain ⟨b10, hf⟩ := og hf
      refine j_iast (pc := 94) C d_Mo_word_94 2 (inb_in b10) wR_a2 (ws' := wR g ar (va_up x.2.2.2.2.1 2 (upd (x.2.2.2.2.1 2) ((x.2.2.2.2.2.1 1) + x.2.2.2.1).toNatClampNeg (96 + ((v9 &&& 31).toInt32)))) x.2.2.2.2.2.1 x.2.2.2.2.2.2) wR_s2 ?_
      refine j_iinc (pc := 95) C d_Mo_word_95 4 rfl (v := x.2.2.2.1 + 1) (iv ci_1) [1, 2, 3, 4, 0] (by decide) (lc' := [(0, .ref (ar 0)), (1, .int x.1), (2, .long x.2.1), (4, .int x.2.2.1), (5, .int (x.2.2.2.1 + 1))]) rfl ?_
      refine j_goto (pc := 98) C d_Mo_word_98 (tgt := 62) rfl ?_
      exact k62_ih (x.1, x.2.1, x.2.2.1, x.2.2.2.1 + 1, ((va_up x.2.2.2.2.1 2 (upd (x.2.2.2.2.1 2) ((x.2.2.2.2.2.1 1) + x.2.2.2.1).toNatClampNeg (96 + ((v9 &&& 31).toInt32)))), x.2.2.2.2.2.1, x.2.2.2.2.2.2)) hf
  unfold f_Mo_word at hf
  change 𝒥 0 0 (wR g ar r.1 r.2.1 r.2.2) [(0, .ref (ar 0)), (1, .int a1)] [] 0
  refine j_aload_n (pc := 0) C d_Mo_word_0 rfl 0 rfl ?_
  refine j_iconst (pc := 1) C d_Mo_word_1 ck_0 ?_
  refine j_put (pc := 2) C d_Mo_word_2 0 1 wR_o0 rfl (by decide) tw943 pd_I rfl rfl rfl (Nat.le_of_ble_eq_true rfl) (ws' := wR g ar r.1 (va_up r.2.1 0 0) r.2.2) wR_p0_1 ?_
  refine j_iload_n (pc := 5) C d_Mo_word_5 rfl 1 rfl ?_
  refine j_if_lt (pc := 6) C d_Mo_word_6 (tgt := 15) rfl (fun h1 => ?_) (fun h1 => ?_)
  · rw [if_pos h1] at hf
    refine j_iconst (pc := 15) C d_Mo_word_15 ck_0 ?_
    cases hf
    exact j_zret (pc := 16) C d_Mo_word_16 rfl ⟨rfl, rfl⟩ (Nat.le_of_ble_eq_true rfl) (Nat.le_of_ble_eq_true rfl)
  · rw [if_neg h1] at hf
    refine j_iload_n (pc := 9) C d_Mo_word_9 rfl 1 rfl ?_
    refine j_bipush (pc := 10) C d_Mo_word_10 cb_6 ?_
    refine j_icmp_le (pc := 12) C d_Mo_word_12 (tgt := 17) rfl (fun h2 => ?_) (fun h2 => ?_)
    · rw [if_pos h2] at hf
      refine j_iload_n (pc := 17) C d_Mo_word_17 rfl 1 rfl ?_
      refine j_bipush (pc := 18) C d_Mo_word_18 cb_6 ?_
      refine j_icmp_ne (pc := 20) C d_Mo_word_20 (tgt := 29) rfl (fun h3 => ?_) (fun h3 => ?_)
      · rw [if_neg h3] at hf
        refine j_aload_n (pc := 29) C d_Mo_word_29 rfl 0 rfl ?_
        refine j_get (pc := 30) C d_Mo_word_30 0 0 wR_o0 rfl (v := .ref (ar 1)) rfl (by decide) tw942 ?_
        refine j_iload_n (pc := 33) C d_Mo_word_33 rfl 1 rfl ?_
        obtain ⟨b4, hf⟩ := og hf
        refine j_lald (pc := 34) C d_Mo_word_34 1 (inb_in b4) (x := r.2.2 1 a1.toNatClampNeg) wR_a1 rfl ?_
        refine j_lstore_n (pc := 35) C d_Mo_word_35 rfl [1, 2, 0] (by decide) (lc' := [(0, .ref (ar 0)), (1, .int a1), (2, .long (r.2.2 1 a1.toNatClampNeg))]) rfl ?_
        refine j_lload_n (pc := 36) C d_Mo_word_36 rfl 2 rfl ?_
        obtain ⟨q5, eq5, hf⟩ := ob hf
        refine j_callSi (pc := 37) C (rest := []) d_Mo_word_37 (c_Mo_letters (g := g)  eq5) cv_Mo_letters tw1123 cut_none rfl rfl (Nat.le_of_ble_eq_true rfl) (kc2 := 0) (ks2 := 0) (by decide) ?_
        refine j_istore (pc := 40) C d_Mo_word_40 [1, 2, 3, 0] (by decide) (lc' := [(0, .ref (ar 0)), (1, .int a1), (2, .long (r.2.2 1 a1.toNatClampNeg)), (4, .int q5)]) rfl ?_
        refine j_aload_n (pc := 42) C d_Mo_word_42 rfl 0 rfl ?_
        refine j_get (pc := 43) C d_Mo_word_43 0 3 wR_o0 rfl (v := .int (r.2.1 1)) rfl (by decide) tw945 ?_
        refine j_iload (pc := 46) C d_Mo_word_46 3 rfl ?_
        refine j_iadd (pc := 48) C d_Mo_word_48 ?_
        refine j_iconst (pc := 49) C d_Mo_word_49 ck_1 ?_
        refine j_iadd (pc := 50) C d_Mo_word_50 ?_
        refine j_sipush (pc := 51) C d_Mo_word_51 cs_240 ?_
        refine j_icmp_le (pc := 54) C d_Mo_word_54 (tgt := 59) rfl (fun h6 => ?_) (fun h6 => ?_)
        · rw [if_pos h6] at hf
          refine j_iconst (pc := 59) C d_Mo_word_59 ck_0 ?_
          refine j_istore (pc := 60) C d_Mo_word_60 [1, 2, 3, 4, 0] (by decide) (lc' := [(0, .ref (ar 0)), (1, .int a1), (2, .long (r.2.2 1 a1.toNatClampNeg)), (4, .int q5), (5, .int 0)]) rfl ?_
          exact L62 100000 (a1, r.2.2 1 a1.toNatClampNeg, q5, 0, (r.1, (va_up r.2.1 0 0), r.2.2)) hf
        · rw [if_neg h6] at hf
          refine j_iconst (pc := 57) C d_Mo_word_57 ck_0 ?_
          cases hf
          exact j_zret (pc := 58) C d_Mo_word_58 rfl ⟨rfl, rfl⟩ (Nat.le_of_ble_eq_true rfl) (Nat.le_of_ble_eq_true rfl)
      · rw [if_pos h3] at hf
        refine j_ldc2 (pc := 23) C d_Mo_word_23 tw1122 ?_
        refine j_goto (pc := 26) C d_Mo_word_26 (tgt := 35) rfl ?_
        refine j_lstore_n (pc := 35) C d_Mo_word_35 rfl [1, 2, 0] (by decide) (lc' := [(0, .ref (ar 0)), (1, .int a1), (2, .long 468013)]) rfl ?_
        refine j_lload_n (pc := 36) C d_Mo_word_36 rfl 2 rfl ?_
        obtain ⟨q11, eq11, hf⟩ := ob hf
        refine j_callSi (pc := 37) C (rest := []) d_Mo_word_37 (c_Mo_letters (g := g)  eq11) cv_Mo_letters tw1123 cut_none rfl rfl (Nat.le_of_ble_eq_true rfl) (kc2 := 0) (ks2 := 0) (by decide) ?_
        refine j_istore (pc := 40) C d_Mo_word_40 [1, 2, 3, 0] (by decide) (lc' := [(0, .ref (ar 0)), (1, .int a1), (2, .long 468013), (4, .int q11)]) rfl ?_
        refine j_aload_n (pc := 42) C d_Mo_word_42 rfl 0 rfl ?_
        refine j_get (pc := 43) C d_Mo_word_43 0 3 wR_o0 rfl (v := .int (r.2.1 1)) rfl (by decide) tw945 ?_
        refine j_iload (pc := 46) C d_Mo_word_46 3 rfl ?_
        refine j_iadd (pc := 48) C d_Mo_word_48 ?_
        refine j_iconst (pc := 49) C d_Mo_word_49 ck_1 ?_
        refine j_iadd (pc := 50) C d_Mo_word_50 ?_
        refine j_sipush (pc := 51) C d_Mo_word_51 cs_240 ?_
        refine j_icmp_le (pc := 54) C d_Mo_word_54 (tgt := 59) rfl (fun h12 => ?_) (fun h12 => ?_)
        · rw [if_pos h12] at hf
          refine j_iconst (pc := 59) C d_Mo_word_59 ck_0 ?_
          refine j_istore (pc := 60) C d_Mo_word_60 [1, 2, 3, 4, 0] (by decide) (lc' := [(0, .ref (ar 0)), (1, .int a1), (2, .long 468013), (4, .int q11), (5, .int 0)]) rfl ?_
          exact L62 100000 (a1, 468013, q11, 0, (r.1, (va_up r.2.1 0 0), r.2.2)) hf
        · rw [if_neg h12] at hf
          refine j_iconst (pc := 57) C d_Mo_word_57 ck_0 ?_
          cases hf
          exact j_zret (pc := 58) C d_Mo_word_58 rfl ⟨rfl, rfl⟩ (Nat.le_of_ble_eq_true rfl) (Nat.le_of_ble_eq_true rfl)
    · rw [if_neg h2] at hf
      refine j_iconst (pc := 15) C d_Mo_word_15 ck_0 ?_
      cases hf
      exact j_zret (pc := 16) C d_Mo_word_16 rfl ⟨rfl, rfl⟩ (Nat.le_of_ble_eq_true rfl) (Nat.le_of_ble_eq_true rfl)
abbrev rm_Mo_insert : Room := { frames := 1, cells := 0, slots := 0, locals := 20 }
theorem cv_Mo_insert : CV y_Mo_insert b_Mo_insert 4 none 2 := ⟨⟨tw1130, tw10, by decide +kernel⟩, tw1128, tw1129⟩
set_option maxHeartbeats 4000000 in
set_option maxRecDepth 100000 in
theorem c_Mo_insert {g : GT} {ar : Nat → Nat} {a1 : Int32} {a2 : Int32} {r : RS} {q : RS} (hf : f_Mo_insert a1 a2 r = some q) : MV g y_Mo_insert b_Mo_insert 4 none rm_Mo_insert [.ref (ar 0), .int a1, .int a2] (wR g ar r.1 r.2.1 r.2.2) (wR g ar q.1 q.2.1 q.2.2) := by
  refine MV.of (by decide) (Nat.le_of_ble_eq_true rfl) (fun 𝒥 C => ?_)
  have L59 : ∀ (n : Nat) (x : Int32 × Int32 × Int32 × RS), lpN (BMo_insert_59) n x = some q → 𝒥 0 0 (wR g ar x.2.2.2.1 x.2.2.2.2.1 x.2.2.2.2.2) [(0, .ref (ar 0)), (1, .int x.1), (2, .int x.2.1), (3, .int x.2.2.1)] [] 59 := by
    refine lp_ind (fun k59 k59_ih x hf => ?_)
    unfold BMo_insert_59 at hf
    refine j_iload_n (pc := 59) C d_Mo_insert_59 rfl 3 rfl ?_
    refine j_iload_n (pc := 60) C d_Mo_insert_60 rfl 1 rfl ?_
    refine j_icmp_le (pc := 61) C d_Mo_insert_61 (tgt := 84) rfl (fun h6 => ?_) (fun h6 => ?_)
    · rw [if_pos h6] at hf
      refine j_aload_n (pc := 84) C d_Mo_insert_84 rfl 0 rfl ?_
      refine j_get (pc := 85) C d_Mo_insert_85 0 2 wR_o0 rfl (v := .ref (ar 2)) rfl (by decide) tw944 ?_
      refine j_iload_n (pc := 88) C d_Mo_insert_88 rfl 1 rfl ?_
      refine j_iload_n (pc := 89) C d_Mo_insert_89 rfl 2 rfl ?_
      obtain ⟨b7, hf⟩ := og hf
      refine j_iast (pc := 90) C d_Mo_insert_90 2 (inb_in b7) wR_a2 (ws' := wR g ar (va_up x.2.2.2.1 2 (upd (x.2.2.2.1 2) x.1.toNatClampNeg x.2.1)) x.2.2.2.2.1 x.2.2.2.2.2) wR_s2 ?_
      refine j_aload_n (pc := 91) C d_Mo_insert_91 rfl 0 rfl ?_
      refine j_dup (pc := 92) C d_Mo_insert_92 rfl ?_
      refine j_get (pc := 93) C d_Mo_insert_93 0 3 wR_o0 rfl (v := .int (x.2.2.2.2.1 1)) rfl (by decide) tw945 ?_
      refine j_iconst (pc := 96) C d_Mo_insert_96 ck_1 ?_
      refine j_iadd (pc := 97) C d_Mo_insert_97 ?_
      refine j_put (pc := 98) C d_Mo_insert_98 0 3 wR_o0 rfl (by decide) tw945 pd_I rfl rfl rfl (Nat.le_of_ble_eq_true rfl) (ws' := wR g ar (va_up x.2.2.2.1 2 (upd (x.2.2.2.1 2) x.1.toNatClampNeg x.2.1)) (va_up x.2.2.2.2.1 1 ((x.2.2.2.2.1 1) + 1)) x.2.2.2.2.2) wR_p0_3 ?_
      cases hf
      exact j_vret (pc := 101) C d_Mo_insert_101 ⟨rfl, rfl⟩ (Nat.le_of_ble_eq_true rfl) (Nat.le_of_ble_eq_true rfl)
    · rw [if_neg h6] at hf
      refine j_aload_n (pc := 64) C d_Mo_insert_64 rfl 0 rfl ?_
      refine j_get (pc := 65) C d_Mo_insert_65 0 2 wR_o0 rfl (v := .ref (ar 2)) rfl (by decide) tw944 ?_
      refine j_iload_n (pc := 68) C d_Mo_insert_68 rfl 3 rfl ?_
      refine j_aload_n (pc := 69) C d_Mo_insert_69 rfl 0 rfl ?_
      refine j_get (pc := 70) C d_Mo_insert_70 0 2 wR_o0 rfl (v := .ref (ar 2)) rfl (by decide) tw944 ?_
      refine j_iload_n (pc := 73) C d_Mo_insert_73 rfl 3 rfl ?_
      refine j_iconst (pc := 74) C d_Mo_insert_74 ck_1 ?_
      refine j_isub (pc := 75) C d_Mo_insert_75 ?_
      obtain ⟨b8, hf⟩ := og hf
      refine j_iald (pc := 76) C d_Mo_insert_76 2 (inb_in b8) (x := x.2.2.2.1 2 (x.2.2.1 - 1).toNatClampNeg) wR_a2 rfl ?_
      obtain ⟨b9, hf⟩ := og hf
      refine j_iast (pc := 77) C d_Mo_insert_77 2 (inb_in b9) wR_a2 (ws' := wR g ar (va_up x.2.2.2.1 2 (upd (x.2.2.2.1 2) x.2.2.1.toNatClampNeg (x.2.2.2.1 2 (x.2.2.1 - 1).toNatClampNeg))) x.2.2.2.2.1 x.2.2.2.2.2) wR_s2 ?_
      refine j_iinc (pc := 78) C d_Mo_insert_78 3 rfl (v := x.2.2.1 - 1) id_m1 [1, 2, 3, 0] (by decide) (lc' := [(0, .ref (ar 0)), (1, .int x.1), (2, .int x.2.1), (3, .int (x.2.2.1 - 1))]) rfl ?_
      refine j_goto (pc := 81) C d_Mo_insert_81 (tgt := 59) rfl ?_
      exact k59_ih (x.1, x.2.1, x.2.2.1 - 1, ((va_up x.2.2.2.1 2 (upd (x.2.2.2.1 2) x.2.2.1.toNatClampNeg (x.2.2.2.1 2 (x.2.2.1 - 1).toNatClampNeg))), x.2.2.2.2.1, x.2.2.2.2.2)) hf
  unfold f_Mo_insert at hf
  change 𝒥 0 0 (wR g ar r.1 r.2.1 r.2.2) [(0, .ref (ar 0)), (1, .int a1), (2, .int a2)] [] 0
  refine j_aload_n (pc := 0) C d_Mo_insert_0 rfl 0 rfl ?_
  refine j_iload_n (pc := 1) C d_Mo_insert_1 rfl 2 rfl ?_
  obtain ⟨q1, eq1, hf⟩ := ob hf
  refine j_callSi (pc := 2) C (rest := [.ref (ar 0)]) d_Mo_insert_2 (c_Mo_isChar (g := g)  eq1) cv_Mo_isChar tw1115 cut_none rfl rfl (Nat.le_of_ble_eq_true rfl) (kc2 := 0) (ks2 := 0) (by decide) ?_
  refine j_if_ne (pc := 5) C d_Mo_insert_5 (tgt := 12) rfl (fun h2 => ?_) (fun h2 => ?_)
  · rw [if_neg h2] at hf
    refine j_iload_n (pc := 12) C d_Mo_insert_12 rfl 1 rfl ?_
    refine j_if_lt (pc := 13) C d_Mo_insert_13 (tgt := 24) rfl (fun h3 => ?_) (fun h3 => ?_)
    · rw [if_pos h3] at hf
      refine j_iconst (pc := 24) C d_Mo_insert_24 ck_2 ?_
      refine j_goto (pc := 25) C d_Mo_insert_25 (tgt := 43) rfl ?_
      refine j_put (pc := 43) C d_Mo_insert_43 0 1 wR_o0 rfl (by decide) tw943 pd_I rfl rfl rfl (Nat.le_of_ble_eq_true rfl) (ws' := wR g ar r.1 (va_up r.2.1 0 2) r.2.2) wR_p0_1 ?_
      refine j_aload_n (pc := 46) C d_Mo_insert_46 rfl 0 rfl ?_
      refine j_get (pc := 47) C d_Mo_insert_47 0 1 wR_o0 rfl (v := .int 2) rfl (by decide) tw943 ?_
      refine j_if_eq (pc := 50) C d_Mo_insert_50 (tgt := 54) rfl (fun h => absurd h (by decide)) (fun _ => ?_)
      cases hf
      exact j_vret (pc := 53) C d_Mo_insert_53 ⟨rfl, rfl⟩ (Nat.le_of_ble_eq_true rfl) (Nat.le_of_ble_eq_true rfl)
    · rw [if_neg h3] at hf
      refine j_iload_n (pc := 16) C d_Mo_insert_16 rfl 1 rfl ?_
      refine j_aload_n (pc := 17) C d_Mo_insert_17 rfl 0 rfl ?_
      refine j_get (pc := 18) C d_Mo_insert_18 0 3 wR_o0 rfl (v := .int (r.2.1 1)) rfl (by decide) tw945 ?_
      refine j_icmp_le (pc := 21) C d_Mo_insert_21 (tgt := 28) rfl (fun h4 => ?_) (fun h4 => ?_)
      · rw [if_pos h4] at hf
        refine j_aload_n (pc := 28) C d_Mo_insert_28 rfl 0 rfl ?_
        refine j_get (pc := 29) C d_Mo_insert_29 0 3 wR_o0 rfl (v := .int (r.2.1 1)) rfl (by decide) tw945 ?_
        refine j_sipush (pc := 32) C d_Mo_insert_32 cs_240 ?_
        refine j_icmp_ne (pc := 35) C d_Mo_insert_35 (tgt := 42) rfl (fun h5 => ?_) (fun h5 => ?_)
        · rw [if_neg h5] at hf
          refine j_iconst (pc := 42) C d_Mo_insert_42 ck_0 ?_
          refine j_put (pc := 43) C d_Mo_insert_43 0 1 wR_o0 rfl (by decide) tw943 pd_I rfl rfl rfl (Nat.le_of_ble_eq_true rfl) (ws' := wR g ar r.1 (va_up r.2.1 0 0) r.2.2) wR_p0_1 ?_
          refine j_aload_n (pc := 46) C d_Mo_insert_46 rfl 0 rfl ?_
          refine j_get (pc := 47) C d_Mo_insert_47 0 1 wR_o0 rfl (v := .int 0) rfl (by decide) tw943 ?_
          refine j_if_eq (pc := 50) C d_Mo_insert_50 (tgt := 54) rfl (fun _ => ?_) (fun h => absurd h (by decide))
          refine j_aload_n (pc := 54) C d_Mo_insert_54 rfl 0 rfl ?_
          refine j_get (pc := 55) C d_Mo_insert_55 0 3 wR_o0 rfl (v := .int (r.2.1 1)) rfl (by decide) tw945 ?_
          refine j_istore_n (pc := 58) C d_Mo_insert_58 rfl [1, 2, 3, 0] (by decide) (lc' := [(0, .ref (ar 0)), (1, .int a1), (2, .int a2), (3, .int (r.2.1 1))]) rfl ?_
          exact L59 100000 (a1, a2, r.2.1 1, (r.1, (va_up r.2.1 0 0), r.2.2)) hf
        · rw [if_pos h5] at hf
          refine j_iconst (pc := 38) C d_Mo_insert_38 ck_3 ?_
          refine j_goto (pc := 39) C d_Mo_insert_39 (tgt := 43) rfl ?_
          refine j_put (pc := 43) C d_Mo_insert_43 0 1 wR_o0 rfl (by decide) tw943 pd_I rfl rfl rfl (Nat.le_of_ble_eq_true rfl) (ws' := wR g ar r.1 (va_up r.2.1 0 3) r.2.2) wR_p0_1 ?_
          refine j_aload_n (pc := 46) C d_Mo_insert_46 rfl 0 rfl ?_
          refine j_get (pc := 47) C d_Mo_insert_47 0 1 wR_o0 rfl (v := .int 3) rfl (by decide) tw943 ?_
          refine j_if_eq (pc := 50) C d_Mo_insert_50 (tgt := 54) rfl (fun h => absurd h (by decide)) (fun _ => ?_)
          cases hf
          exact j_vret (pc := 53) C d_Mo_insert_53 ⟨rfl, rfl⟩ (Nat.le_of_ble_eq_true rfl) (Nat.le_of_ble_eq_true rfl)
      · rw [if_neg h4] at hf
        refine j_iconst (pc := 24) C d_Mo_insert_24 ck_2 ?_
        refine j_goto (pc := 25) C d_Mo_insert_25 (tgt := 43) rfl ?_
        refine j_put (pc := 43) C d_Mo_insert_43 0 1 wR_o0 rfl (by decide) tw943 pd_I rfl rfl rfl (Nat.le_of_ble_eq_true rfl) (ws' := wR g ar r.1 (va_up r.2.1 0 2) r.2.2) wR_p0_1 ?_
        refine j_aload_n (pc := 46) C d_Mo_insert_46 rfl 0 rfl ?_
        refine j_get (pc := 47) C d_Mo_insert_47 0 1 wR_o0 rfl (v := .int 2) rfl (by decide) tw943 ?_
        refine j_if_eq (pc := 50) C d_Mo_insert_50 (tgt := 54) rfl (fun h => absurd h (by decide)) (fun _ => ?_)
        cases hf
        exact j_vret (pc := 53) C d_Mo_insert_53 ⟨rfl, rfl⟩ (Nat.le_of_ble_eq_true rfl) (Nat.le_of_ble_eq_true rfl)
  · rw [if_pos h2] at hf
    refine j_iconst (pc := 8) C d_Mo_insert_8 ck_1 ?_
    refine j_goto (pc := 9) C d_Mo_insert_9 (tgt := 43) rfl ?_
    refine j_put (pc := 43) C d_Mo_insert_43 0 1 wR_o0 rfl (by decide) tw943 pd_I rfl rfl rfl (Nat.le_of_ble_eq_true rfl) (ws' := wR g ar r.1 (va_up r.2.1 0 1) r.2.2) wR_p0_1 ?_
    refine j_aload_n (pc := 46) C d_Mo_insert_46 rfl 0 rfl ?_
    refine j_get (pc := 47) C d_Mo_insert_47 0 1 wR_o0 rfl (v := .int 1) rfl (by decide) tw943 ?_
    refine j_if_eq (pc := 50) C d_Mo_insert_50 (tgt := 54) rfl (fun h => absurd h (by decide)) (fun _ => ?_)
    cases hf
    exact j_vret (pc := 53) C d_Mo_insert_53 ⟨rfl, rfl⟩ (Nat.le_of_ble_eq_true rfl) (Nat.le_of_ble_eq_true rfl)
abbrev rm_Mo_remove : Room := { frames := 0, cells := 0, slots := 0, locals := 0 }
theorem cv_Mo_remove : CV y_Mo_remove b_Mo_remove 4 none 2 := ⟨⟨tw1134, tw10, by decide +kernel⟩, tw1132, tw1133⟩
set_option maxHeartbeats 4000000 in
set_option maxRecDepth 100000 in
theorem c_Mo_remove {g : GT} {ar : Nat → Nat} {a1 : Int32} {a2 : Int32} {r : RS} {q : RS} (hf : f_Mo_remove a1 a2 r = some q) : MV g y_Mo_remove b_Mo_remove 4 none rm_Mo_remove [.ref (ar 0), .int a1, .int a2] (wR g ar r.1 r.2.1 r.2.2) (wR g ar q.1 q.2.1 q.2.2) := by
  refine MV.of (by decide) (Nat.le_of_ble_eq_true rfl) (fun 𝒥 C => ?_)
  have L45 : ∀ (n : Nat) (x : Int32 × Int32 × Int32 × RS), lpN (BMo_remove_45) n x = some q → 𝒥 0 0 (wR g ar x.2.2.2.1 x.2.2.2.2.1 x.2.2.2.2.2) [(0, .ref (ar 0)), (1, .int x.1), (2, .int x.2.1), (3, .int x.2.2.1)] [] 45 := by
    refine lp_ind (fun k45 k45_ih x hf => ?_)
    unfold BMo_remove_45 at hf
    refine j_iload_n (pc := 45) C d_Mo_remove_45 rfl 3 rfl ?_
    refine j_iload_n (pc := 46) C d_Mo_remove_46 rfl 2 rfl ?_
    refine j_iadd (pc := 47) C d_Mo_remove_47 ?_
    refine j_aload_n (pc := 48) C d_Mo_remove_48 rfl 0 rfl ?_
    refine j_get (pc := 49) C d_Mo_remove_49 0 3 wR_o0 rfl (v := .int (x.2.2.2.2.1 1)) rfl (by decide) tw945 ?_
    refine j_icmp_ge (pc := 52) C d_Mo_remove_52 (tgt := 75) rfl (fun h5 => ?_) (fun h5 => ?_)
    · rw [if_pos h5] at hf
      refine j_aload_n (pc := 75) C d_Mo_remove_75 rfl 0 rfl ?_
      refine j_dup (pc := 76) C d_Mo_remove_76 rfl ?_
      refine j_get (pc := 77) C d_Mo_remove_77 0 3 wR_o0 rfl (v := .int (x.2.2.2.2.1 1)) rfl (by decide) tw945 ?_
      refine j_iload_n (pc := 80) C d_Mo_remove_80 rfl 2 rfl ?_
      refine j_isub (pc := 81) C d_Mo_remove_81 ?_
      refine j_put (pc := 82) C d_Mo_remove_82 0 3 wR_o0 rfl (by decide) tw945 pd_I rfl rfl rfl (Nat.le_of_ble_eq_true rfl) (ws' := wR g ar x.2.2.2.1 (va_up x.2.2.2.2.1 1 ((x.2.2.2.2.1 1) - x.2.1)) x.2.2.2.2.2) wR_p0_3 ?_
      cases hf
      exact j_vret (pc := 85) C d_Mo_remove_85 ⟨rfl, rfl⟩ (Nat.le_of_ble_eq_true rfl) (Nat.le_of_ble_eq_true rfl)
    · rw [if_neg h5] at hf
      refine j_aload_n (pc := 55) C d_Mo_remove_55 rfl 0 rfl ?_
      refine j_get (pc := 56) C d_Mo_remove_56 0 2 wR_o0 rfl (v := .ref (ar 2)) rfl (by decide) tw944 ?_
      refine j_iload_n (pc := 59) C d_Mo_remove_59 rfl 3 rfl ?_
      refine j_aload_n (pc := 60) C d_Mo_remove_60 rfl 0 rfl ?_
      refine j_get (pc := 61) C d_Mo_remove_61 0 2 wR_o0 rfl (v := .ref (ar 2)) rfl (by decide) tw944 ?_
      refine j_iload_n (pc := 64) C d_Mo_remove_64 rfl 3 rfl ?_
      refine j_iload_n (pc := 65) C d_Mo_remove_65 rfl 2 rfl ?_
      refine j_iadd (pc := 66) C d_Mo_remove_66 ?_
      obtain ⟨b6, hf⟩ := og hf
      refine j_iald (pc := 67) C d_Mo_remove_67 2 (inb_in b6) (x := x.2.2.2.1 2 (x.2.2.1 + x.2.1).toNatClampNeg) wR_a2 rfl ?_
      refine j_topi C (fun v7 ev7 => ?_)
      replace hf := ov ev7 hf
      obtain ⟨b8, hf⟩ := og hf
      refine j_iast (pc := 68) C d_Mo_remove_68 2 (inb_in b8) wR_a2 (ws' := wR g ar (va_up x.2.2.2.1 2 (upd (x.2.2.2.1 2) x.2.2.1.toNatClampNeg v7)) x.2.2.2.2.1 x.2.2.2.2.2) wR_s2 ?_
      refine j_iinc (pc := 69) C d_Mo_remove_69 3 rfl (v := x.2.2.1 + 1) (iv ci_1) [1, 2, 3, 0] (by decide) (lc' := [(0, .ref (ar 0)), (1, .int x.1), (2, .int x.2.1), (3, .int (x.2.2.1 + 1))]) rfl ?_
      refine j_goto (pc := 72) C d_Mo_remove_72 (tgt := 45) rfl ?_
      exact k45_ih (x.1, x.2.1, x.2.2.1 + 1, ((va_up x.2.2.2.1 2 (upd (x.2.2.2.1 2) x.2.2.1.toNatClampNeg v7)), x.2.2.2.2.1, x.2.2.2.2.2)) hf
  unfold f_Mo_remove at hf
  change 𝒥 0 0 (wR g ar r.1 r.2.1 r.2.2) [(0, .ref (ar 0)), (1, .int a1), (2, .int a2)] [] 0
  refine j_aload_n (pc := 0) C d_Mo_remove_0 rfl 0 rfl ?_
  refine j_iload_n (pc := 1) C d_Mo_remove_1 rfl 2 rfl ?_
  refine j_if_ge (pc := 2) C d_Mo_remove_2 (tgt := 9) rfl (fun h1 => ?_) (fun h1 => ?_)
  · rw [if_pos h1] at hf
    refine j_iload_n (pc := 9) C d_Mo_remove_9 rfl 1 rfl ?_
    refine j_if_lt (pc := 10) C d_Mo_remove_10 (tgt := 27) rfl (fun h2 => ?_) (fun h2 => ?_)
    · rw [if_pos h2] at hf
      refine j_iconst (pc := 27) C d_Mo_remove_27 ck_2 ?_
      refine j_goto (pc := 28) C d_Mo_remove_28 (tgt := 32) rfl ?_
      refine j_put (pc := 32) C d_Mo_remove_32 0 1 wR_o0 rfl (by decide) tw943 pd_I rfl rfl rfl (Nat.le_of_ble_eq_true rfl) (ws' := wR g ar r.1 (va_up r.2.1 0 2) r.2.2) wR_p0_1 ?_
      refine j_aload_n (pc := 35) C d_Mo_remove_35 rfl 0 rfl ?_
      refine j_get (pc := 36) C d_Mo_remove_36 0 1 wR_o0 rfl (v := .int 2) rfl (by decide) tw943 ?_
      refine j_if_eq (pc := 39) C d_Mo_remove_39 (tgt := 43) rfl (fun h => absurd h (by decide)) (fun _ => ?_)
      cases hf
      exact j_vret (pc := 42) C d_Mo_remove_42 ⟨rfl, rfl⟩ (Nat.le_of_ble_eq_true rfl) (Nat.le_of_ble_eq_true rfl)
    · rw [if_neg h2] at hf
      refine j_iload_n (pc := 13) C d_Mo_remove_13 rfl 1 rfl ?_
      refine j_i2l (pc := 14) C d_Mo_remove_14 rfl ?_
      refine j_iload_n (pc := 15) C d_Mo_remove_15 rfl 2 rfl ?_
      refine j_i2l (pc := 16) C d_Mo_remove_16 rfl ?_
      refine j_ladd (pc := 17) C d_Mo_remove_17 ?_
      refine j_aload_n (pc := 18) C d_Mo_remove_18 rfl 0 rfl ?_
      refine j_get (pc := 19) C d_Mo_remove_19 0 3 wR_o0 rfl (v := .int (r.2.1 1)) rfl (by decide) tw945 ?_
      refine j_i2l (pc := 22) C d_Mo_remove_22 rfl ?_
      refine j_lcmp (pc := 23) C d_Mo_remove_23 ?_
      refine j_topi C (fun v3 ev3 => ?_)
      replace hf := ov ev3 hf
      refine j_if_le (pc := 24) C d_Mo_remove_24 (tgt := 31) rfl (fun h4 => ?_) (fun h4 => ?_)
      · rw [if_pos h4] at hf
        refine j_iconst (pc := 31) C d_Mo_remove_31 ck_0 ?_
        refine j_put (pc := 32) C d_Mo_remove_32 0 1 wR_o0 rfl (by decide) tw943 pd_I rfl rfl rfl (Nat.le_of_ble_eq_true rfl) (ws' := wR g ar r.1 (va_up r.2.1 0 0) r.2.2) wR_p0_1 ?_
        refine j_aload_n (pc := 35) C d_Mo_remove_35 rfl 0 rfl ?_
        refine j_get (pc := 36) C d_Mo_remove_36 0 1 wR_o0 rfl (v := .int 0) rfl (by decide) tw943 ?_
        refine j_if_eq (pc := 39) C d_Mo_remove_39 (tgt := 43) rfl (fun _ => ?_) (fun h => absurd h (by decide))
        refine j_iload_n (pc := 43) C d_Mo_remove_43 rfl 1 rfl ?_
        refine j_istore_n (pc := 44) C d_Mo_remove_44 rfl [1, 2, 3, 0] (by decide) (lc' := [(0, .ref (ar 0)), (1, .int a1), (2, .int a2), (3, .int a1)]) rfl ?_
        exact L45 100000 (a1, a2, a1, (r.1, (va_up r.2.1 0 0), r.2.2)) hf
      · rw [if_neg h4] at hf
        refine j_iconst (pc := 27) C d_Mo_remove_27 ck_2 ?_
        refine j_goto (pc := 28) C d_Mo_remove_28 (tgt := 32) rfl ?_
        refine j_put (pc := 32) C d_Mo_remove_32 0 1 wR_o0 rfl (by decide) tw943 pd_I rfl rfl rfl (Nat.le_of_ble_eq_true rfl) (ws' := wR g ar r.1 (va_up r.2.1 0 2) r.2.2) wR_p0_1 ?_
        refine j_aload_n (pc := 35) C d_Mo_remove_35 rfl 0 rfl ?_
        refine j_get (pc := 36) C d_Mo_remove_36 0 1 wR_o0 rfl (v := .int 2) rfl (by decide) tw943 ?_
        refine j_if_eq (pc := 39) C d_Mo_remove_39 (tgt := 43) rfl (fun h => absurd h (by decide)) (fun _ => ?_)
        cases hf
        exact j_vret (pc := 42) C d_Mo_remove_42 ⟨rfl, rfl⟩ (Nat.le_of_ble_eq_true rfl) (Nat.le_of_ble_eq_true rfl)
  · rw [if_neg h1] at hf
    refine j_iconst (pc := 5) C d_Mo_remove_5 ck_1 ?_
    refine j_goto (pc := 6) C d_Mo_remove_6 (tgt := 32) rfl ?_
    refine j_put (pc := 32) C d_Mo_remove_32 0 1 wR_o0 rfl (by decide) tw943 pd_I rfl rfl rfl (Nat.le_of_ble_eq_true rfl) (ws' := wR g ar r.1 (va_up r.2.1 0 1) r.2.2) wR_p0_1 ?_
    refine j_aload_n (pc := 35) C d_Mo_remove_35 rfl 0 rfl ?_
    refine j_get (pc := 36) C d_Mo_remove_36 0 1 wR_o0 rfl (v := .int 1) rfl (by decide) tw943 ?_
    refine j_if_eq (pc := 39) C d_Mo_remove_39 (tgt := 43) rfl (fun h => absurd h (by decide)) (fun _ => ?_)
    cases hf
    exact j_vret (pc := 42) C d_Mo_remove_42 ⟨rfl, rfl⟩ (Nat.le_of_ble_eq_true rfl) (Nat.le_of_ble_eq_true rfl)
abbrev rm_Mo_length : Room := { frames := 0, cells := 0, slots := 0, locals := 0 }
theorem cv_Mo_length : CV y_Mo_length b_Mo_length 1 (some .int) 0 := ⟨⟨tw1138, tw10, by decide +kernel⟩, tw1136, tw1137⟩
set_option maxHeartbeats 4000000 in
set_option maxRecDepth 100000 in
theorem c_Mo_length {g : GT} {ar : Nat → Nat} {r : RS} {q : Int32 × RS} (hf : f_Mo_length r = some q) : MI g y_Mo_length b_Mo_length 1 (some .int) rm_Mo_length [.ref (ar 0)] (wR g ar r.1 r.2.1 r.2.2) q.1 (wR g ar q.2.1 q.2.2.1 q.2.2.2) := by
  refine MI.of (by decide) (Nat.le_of_ble_eq_true rfl) (fun 𝒥 C => ?_)
  unfold f_Mo_length at hf
  change 𝒥 0 0 (wR g ar r.1 r.2.1 r.2.2) [(0, .ref (ar 0))] [] 0
  refine j_aload_n (pc := 0) C d_Mo_length_0 rfl 0 rfl ?_
  refine j_iconst (pc := 1) C d_Mo_length_1 ck_0 ?_
  refine j_put (pc := 2) C d_Mo_length_2 0 1 wR_o0 rfl (by decide) tw943 pd_I rfl rfl rfl (Nat.le_of_ble_eq_true rfl) (ws' := wR g ar r.1 (va_up r.2.1 0 0) r.2.2) wR_p0_1 ?_
  refine j_aload_n (pc := 5) C d_Mo_length_5 rfl 0 rfl ?_
  refine j_get (pc := 6) C d_Mo_length_6 0 3 wR_o0 rfl (v := .int (r.2.1 1)) rfl (by decide) tw945 ?_
  cases hf
  exact j_iret (pc := 9) C d_Mo_length_9 ⟨rfl, rfl⟩ (Nat.le_of_ble_eq_true rfl) (Nat.le_of_ble_eq_true rfl)
abbrev rm_Mo_letter : Room := { frames := 0, cells := 0, slots := 0, locals := 0 }
theorem cv_Mo_letter : CV y_Mo_letter b_Mo_letter 2 (some .char) 1 := ⟨⟨tw1142, tw10, by decide +kernel⟩, tw1140, tw1141⟩
set_option maxHeartbeats 4000000 in
set_option maxRecDepth 100000 in
theorem c_Mo_letter {g : GT} {ar : Nat → Nat} {a1 : Int32} {r : RS} {q : Int32 × RS} (hf : f_Mo_letter a1 r = some q) : MI g y_Mo_letter b_Mo_letter 2 (some .char) rm_Mo_letter [.ref (ar 0), .int a1] (wR g ar r.1 r.2.1 r.2.2) q.1 (wR g ar q.2.1 q.2.2.1 q.2.2.2) := by
  refine MI.of (by decide) (Nat.le_of_ble_eq_true rfl) (fun 𝒥 C => ?_)
  unfold f_Mo_letter at hf
  change 𝒥 0 0 (wR g ar r.1 r.2.1 r.2.2) [(0, .ref (ar 0)), (1, .int a1)] [] 0
  refine j_aload_n (pc := 0) C d_Mo_letter_0 rfl 0 rfl ?_
  refine j_iload_n (pc := 1) C d_Mo_letter_1 rfl 1 rfl ?_
  refine j_if_lt (pc := 2) C d_Mo_letter_2 (tgt := 13) rfl (fun h1 => ?_) (fun h1 => ?_)
  · rw [if_pos h1] at hf
    refine j_iconst (pc := 13) C d_Mo_letter_13 ck_1 ?_
    refine j_goto (pc := 14) C d_Mo_letter_14 (tgt := 18) rfl ?_
    refine j_put (pc := 18) C d_Mo_letter_18 0 1 wR_o0 rfl (by decide) tw943 pd_I rfl rfl rfl (Nat.le_of_ble_eq_true rfl) (ws' := wR g ar r.1 (va_up r.2.1 0 1) r.2.2) wR_p0_1 ?_
    refine j_aload_n (pc := 21) C d_Mo_letter_21 rfl 0 rfl ?_
    refine j_get (pc := 22) C d_Mo_letter_22 0 1 wR_o0 rfl (v := .int 1) rfl (by decide) tw943 ?_
    refine j_if_ne (pc := 25) C d_Mo_letter_25 (tgt := 38) rfl (fun _ => ?_) (fun h => absurd h (by decide))
    refine j_bipush (pc := 38) C d_Mo_letter_38 cb_32 ?_
    cases hf
    exact j_cret (pc := 40) C d_Mo_letter_40 rfl ⟨rfl, rfl⟩ (Nat.le_of_ble_eq_true rfl) (Nat.le_of_ble_eq_true rfl)
  · rw [if_neg h1] at hf
    refine j_iload_n (pc := 5) C d_Mo_letter_5 rfl 1 rfl ?_
    refine j_aload_n (pc := 6) C d_Mo_letter_6 rfl 0 rfl ?_
    refine j_get (pc := 7) C d_Mo_letter_7 0 3 wR_o0 rfl (v := .int (r.2.1 1)) rfl (by decide) tw945 ?_
    refine j_icmp_lt (pc := 10) C d_Mo_letter_10 (tgt := 17) rfl (fun h2 => ?_) (fun h2 => ?_)
    · rw [if_pos h2] at hf
      refine j_iconst (pc := 17) C d_Mo_letter_17 ck_0 ?_
      refine j_put (pc := 18) C d_Mo_letter_18 0 1 wR_o0 rfl (by decide) tw943 pd_I rfl rfl rfl (Nat.le_of_ble_eq_true rfl) (ws' := wR g ar r.1 (va_up r.2.1 0 0) r.2.2) wR_p0_1 ?_
      refine j_aload_n (pc := 21) C d_Mo_letter_21 rfl 0 rfl ?_
      refine j_get (pc := 22) C d_Mo_letter_22 0 1 wR_o0 rfl (v := .int 0) rfl (by decide) tw943 ?_
      refine j_if_ne (pc := 25) C d_Mo_letter_25 (tgt := 38) rfl (fun h => absurd h (by decide)) (fun _ => ?_)
      refine j_aload_n (pc := 28) C d_Mo_letter_28 rfl 0 rfl ?_
      refine j_get (pc := 29) C d_Mo_letter_29 0 2 wR_o0 rfl (v := .ref (ar 2)) rfl (by decide) tw944 ?_
      refine j_iload_n (pc := 32) C d_Mo_letter_32 rfl 1 rfl ?_
      obtain ⟨b3, hf⟩ := og hf
      refine j_iald (pc := 33) C d_Mo_letter_33 2 (inb_in b3) (x := r.1 2 a1.toNatClampNeg) wR_a2 rfl ?_
      refine j_i2c (pc := 34) C d_Mo_letter_34 rfl ?_
      refine j_topi C (fun v4 ev4 => ?_)
      replace hf := ov ev4 hf
      refine j_goto (pc := 35) C d_Mo_letter_35 (tgt := 40) rfl ?_
      obtain ⟨b5, hf⟩ := og hf
      cases hf
      exact j_cret (pc := 40) C d_Mo_letter_40 (isc_n b5) ⟨rfl, rfl⟩ (Nat.le_of_ble_eq_true rfl) (Nat.le_of_ble_eq_true rfl)
    · rw [if_neg h2] at hf
      refine j_iconst (pc := 13) C d_Mo_letter_13 ck_1 ?_
      refine j_goto (pc := 14) C d_Mo_letter_14 (tgt := 18) rfl ?_
      refine j_put (pc := 18) C d_Mo_letter_18 0 1 wR_o0 rfl (by decide) tw943 pd_I rfl rfl rfl (Nat.le_of_ble_eq_true rfl) (ws' := wR g ar r.1 (va_up r.2.1 0 1) r.2.2) wR_p0_1 ?_
      refine j_aload_n (pc := 21) C d_Mo_letter_21 rfl 0 rfl ?_
      refine j_get (pc := 22) C d_Mo_letter_22 0 1 wR_o0 rfl (v := .int 1) rfl (by decide) tw943 ?_
      refine j_if_ne (pc := 25) C d_Mo_letter_25 (tgt := 38) rfl (fun _ => ?_) (fun h => absurd h (by decide))
      refine j_bipush (pc := 38) C d_Mo_letter_38 cb_32 ?_
      cases hf
      exact j_cret (pc := 40) C d_Mo_letter_40 rfl ⟨rfl, rfl⟩ (Nat.le_of_ble_eq_true rfl) (Nat.le_of_ble_eq_true rfl)
abbrev rm_Mo_isSign : Room := { frames := 0, cells := 0, slots := 0, locals := 0 }
theorem cv_Mo_isSign : CS y_Mo_isSign b_Mo_isSign 1 (some .boolean) 1 := ⟨⟨tw1177, tw10, by decide +kernel⟩, tw1176⟩
set_option maxHeartbeats 4000000 in
set_option maxRecDepth 100000 in
theorem c_Mo_isSign {g : GT} {a0 : Int32} {q : Int32} (hf : f_Mo_isSign a0 = some q) : MI g y_Mo_isSign b_Mo_isSign 1 (some .boolean) rm_Mo_isSign [.int a0] ([]) q ([]) := by
  refine MI.of (by decide) (Nat.le_of_ble_eq_true rfl) (fun 𝒥 C => ?_)
  unfold f_Mo_isSign at hf
  change 𝒥 0 0 ([]) [(0, .int a0)] [] 0
  refine j_iload_n (pc := 0) C d_Mo_isSign_0 rfl 0 rfl ?_
  refine j_bipush (pc := 1) C d_Mo_isSign_1 cb_43 ?_
  refine j_icmp_eq (pc := 3) C d_Mo_isSign_3 (tgt := 66) rfl (fun h1 => ?_) (fun h1 => ?_)
  · rw [if_pos h1] at hf
    refine j_iconst (pc := 66) C d_Mo_isSign_66 ck_1 ?_
    refine j_goto (pc := 67) C d_Mo_isSign_67 (tgt := 71) rfl ?_
    cases hf
    exact j_zret (pc := 71) C d_Mo_isSign_71 rfl ⟨rfl, rfl⟩ (Nat.le_of_ble_eq_true rfl) (Nat.le_of_ble_eq_true rfl)
  · rw [if_neg h1] at hf
    refine j_iload_n (pc := 6) C d_Mo_isSign_6 rfl 0 rfl ?_
    refine j_bipush (pc := 7) C d_Mo_isSign_7 cb_45 ?_
    refine j_icmp_eq (pc := 9) C d_Mo_isSign_9 (tgt := 66) rfl (fun h2 => ?_) (fun h2 => ?_)
    · rw [if_pos h2] at hf
      refine j_iconst (pc := 66) C d_Mo_isSign_66 ck_1 ?_
      refine j_goto (pc := 67) C d_Mo_isSign_67 (tgt := 71) rfl ?_
      cases hf
      exact j_zret (pc := 71) C d_Mo_isSign_71 rfl ⟨rfl, rfl⟩ (Nat.le_of_ble_eq_true rfl) (Nat.le_of_ble_eq_true rfl)
    · rw [if_neg h2] at hf
      refine j_iload_n (pc := 12) C d_Mo_isSign_12 rfl 0 rfl ?_
      refine j_bipush (pc := 13) C d_Mo_isSign_13 cb_42 ?_
      refine j_icmp_eq (pc := 15) C d_Mo_isSign_15 (tgt := 66) rfl (fun h3 => ?_) (fun h3 => ?_)
      · rw [if_pos h3] at hf
        refine j_iconst (pc := 66) C d_Mo_isSign_66 ck_1 ?_
        refine j_goto (pc := 67) C d_Mo_isSign_67 (tgt := 71) rfl ?_
        cases hf
        exact j_zret (pc := 71) C d_Mo_isSign_71 rfl ⟨rfl, rfl⟩ (Nat.le_of_ble_eq_true rfl) (Nat.le_of_ble_eq_true rfl)
      · rw [if_neg h3] at hf
        refine j_iload_n (pc := 18) C d_Mo_isSign_18 rfl 0 rfl ?_
        refine j_bipush (pc := 19) C d_Mo_isSign_19 cb_60 ?_
        refine j_icmp_eq (pc := 21) C d_Mo_isSign_21 (tgt := 66) rfl (fun h4 => ?_) (fun h4 => ?_)
        · rw [if_pos h4] at hf
          refine j_iconst (pc := 66) C d_Mo_isSign_66 ck_1 ?_
          refine j_goto (pc := 67) C d_Mo_isSign_67 (tgt := 71) rfl ?_
          cases hf
          exact j_zret (pc := 71) C d_Mo_isSign_71 rfl ⟨rfl, rfl⟩ (Nat.le_of_ble_eq_true rfl) (Nat.le_of_ble_eq_true rfl)
        · rw [if_neg h4] at hf
          refine j_iload_n (pc := 24) C d_Mo_isSign_24 rfl 0 rfl ?_
          refine j_bipush (pc := 25) C d_Mo_isSign_25 cb_61 ?_
          refine j_icmp_eq (pc := 27) C d_Mo_isSign_27 (tgt := 66) rfl (fun h5 => ?_) (fun h5 => ?_)
          · rw [if_pos h5] at hf
            refine j_iconst (pc := 66) C d_Mo_isSign_66 ck_1 ?_
            refine j_goto (pc := 67) C d_Mo_isSign_67 (tgt := 71) rfl ?_
            cases hf
            exact j_zret (pc := 71) C d_Mo_isSign_71 rfl ⟨rfl, rfl⟩ (Nat.le_of_ble_eq_true rfl) (Nat.le_of_ble_eq_true rfl)
          · rw [if_neg h5] at hf
            refine j_iload_n (pc := 30) C d_Mo_isSign_30 rfl 0 rfl ?_
            refine j_bipush (pc := 31) C d_Mo_isSign_31 cb_40 ?_
            refine j_icmp_eq (pc := 33) C d_Mo_isSign_33 (tgt := 66) rfl (fun h6 => ?_) (fun h6 => ?_)
            · rw [if_pos h6] at hf
              refine j_iconst (pc := 66) C d_Mo_isSign_66 ck_1 ?_
              refine j_goto (pc := 67) C d_Mo_isSign_67 (tgt := 71) rfl ?_
              cases hf
              exact j_zret (pc := 71) C d_Mo_isSign_71 rfl ⟨rfl, rfl⟩ (Nat.le_of_ble_eq_true rfl) (Nat.le_of_ble_eq_true rfl)
            · rw [if_neg h6] at hf
              refine j_iload_n (pc := 36) C d_Mo_isSign_36 rfl 0 rfl ?_
              refine j_bipush (pc := 37) C d_Mo_isSign_37 cb_41 ?_
              refine j_icmp_eq (pc := 39) C d_Mo_isSign_39 (tgt := 66) rfl (fun h7 => ?_) (fun h7 => ?_)
              · rw [if_pos h7] at hf
                refine j_iconst (pc := 66) C d_Mo_isSign_66 ck_1 ?_
                refine j_goto (pc := 67) C d_Mo_isSign_67 (tgt := 71) rfl ?_
                cases hf
                exact j_zret (pc := 71) C d_Mo_isSign_71 rfl ⟨rfl, rfl⟩ (Nat.le_of_ble_eq_true rfl) (Nat.le_of_ble_eq_true rfl)
              · rw [if_neg h7] at hf
                refine j_iload_n (pc := 42) C d_Mo_isSign_42 rfl 0 rfl ?_
                refine j_bipush (pc := 43) C d_Mo_isSign_43 cb_123 ?_
                refine j_icmp_eq (pc := 45) C d_Mo_isSign_45 (tgt := 66) rfl (fun h8 => ?_) (fun h8 => ?_)
                · rw [if_pos h8] at hf
                  refine j_iconst (pc := 66) C d_Mo_isSign_66 ck_1 ?_
                  refine j_goto (pc := 67) C d_Mo_isSign_67 (tgt := 71) rfl ?_
                  cases hf
                  exact j_zret (pc := 71) C d_Mo_isSign_71 rfl ⟨rfl, rfl⟩ (Nat.le_of_ble_eq_true rfl) (Nat.le_of_ble_eq_true rfl)
                · rw [if_neg h8] at hf
                  refine j_iload_n (pc := 48) C d_Mo_isSign_48 rfl 0 rfl ?_
                  refine j_bipush (pc := 49) C d_Mo_isSign_49 cb_125 ?_
                  refine j_icmp_eq (pc := 51) C d_Mo_isSign_51 (tgt := 66) rfl (fun h9 => ?_) (fun h9 => ?_)
                  · rw [if_pos h9] at hf
                    refine j_iconst (pc := 66) C d_Mo_isSign_66 ck_1 ?_
                    refine j_goto (pc := 67) C d_Mo_isSign_67 (tgt := 71) rfl ?_
                    cases hf
                    exact j_zret (pc := 71) C d_Mo_isSign_71 rfl ⟨rfl, rfl⟩ (Nat.le_of_ble_eq_true rfl) (Nat.le_of_ble_eq_true rfl)
                  · rw [if_neg h9] at hf
                    refine j_iload_n (pc := 54) C d_Mo_isSign_54 rfl 0 rfl ?_
                    refine j_bipush (pc := 55) C d_Mo_isSign_55 cb_44 ?_
                    refine j_icmp_eq (pc := 57) C d_Mo_isSign_57 (tgt := 66) rfl (fun h10 => ?_) (fun h10 => ?_)
                    · rw [if_pos h10] at hf
                      refine j_iconst (pc := 66) C d_Mo_isSign_66 ck_1 ?_
                      refine j_goto (pc := 67) C d_Mo_isSign_67 (tgt := 71) rfl ?_
                      cases hf
                      exact j_zret (pc := 71) C d_Mo_isSign_71 rfl ⟨rfl, rfl⟩ (Nat.le_of_ble_eq_true rfl) (Nat.le_of_ble_eq_true rfl)
                    · rw [if_neg h10] at hf
                      refine j_iload_n (pc := 60) C d_Mo_isSign_60 rfl 0 rfl ?_
                      refine j_bipush (pc := 61) C d_Mo_isSign_61 cb_59 ?_
                      refine j_icmp_ne (pc := 63) C d_Mo_isSign_63 (tgt := 70) rfl (fun h11 => ?_) (fun h11 => ?_)
                      · rw [if_neg h11] at hf
                        refine j_iconst (pc := 70) C d_Mo_isSign_70 ck_0 ?_
                        cases hf
                        exact j_zret (pc := 71) C d_Mo_isSign_71 rfl ⟨rfl, rfl⟩ (Nat.le_of_ble_eq_true rfl) (Nat.le_of_ble_eq_true rfl)
                      · rw [if_pos h11] at hf
                        refine j_iconst (pc := 66) C d_Mo_isSign_66 ck_1 ?_
                        refine j_goto (pc := 67) C d_Mo_isSign_67 (tgt := 71) rfl ?_
                        cases hf
                        exact j_zret (pc := 71) C d_Mo_isSign_71 rfl ⟨rfl, rfl⟩ (Nat.le_of_ble_eq_true rfl) (Nat.le_of_ble_eq_true rfl)
abbrev rm_Mo_behindRun : Room := { frames := 1, cells := 0, slots := 0, locals := 20 }
theorem cv_Mo_behindRun : CV y_Mo_behindRun b_Mo_behindRun 4 (some .int) 2 := ⟨⟨tw1161, tw10, by decide +kernel⟩, tw1160, (sw_ (q := (y_Mo_behindRun, 54)) (by decide +kernel) (by decide +kernel))⟩
set_option maxHeartbeats 4000000 in
set_option maxRecDepth 100000 in
theorem c_Mo_behindRun {g : GT} {ar : Nat → Nat} {a1 : Int32} {a2 : Int32} {r : RS} {q : Int32 × RS} (hf : f_Mo_behindRun a1 a2 r = some q) : MI g y_Mo_behindRun b_Mo_behindRun 4 (some .int) rm_Mo_behindRun [.ref (ar 0), .int a1, .int a2] (wR g ar r.1 r.2.1 r.2.2) q.1 (wR g ar q.2.1 q.2.2.1 q.2.2.2) := by
  refine MI.of (by decide) (Nat.le_of_ble_eq_true rfl) (fun 𝒥 C => ?_)
  have L2 : ∀ (n : Nat) (x : Int32 × Int32 × Int32 × RS), lpN (BMo_behindRun_2) n x = some q → 𝒥 0 0 (wR g ar x.2.2.2.1 x.2.2.2.2.1 x.2.2.2.2.2) [(0, .ref (ar 0)), (1, .int x.1), (2, .int x.2.1), (3, .int x.2.2.1)] [] 2 := by
    refine lp_ind (fun k2 k2_ih x hf => ?_)
    unfold BMo_behindRun_2 at hf
    refine j_iload_n (pc := 2) C d_Mo_behindRun_2 rfl 3 rfl ?_
    refine j_aload_n (pc := 3) C d_Mo_behindRun_3 rfl 0 rfl ?_
    refine j_get (pc := 4) C d_Mo_behindRun_4 0 3 wR_o0 rfl (v := .int (x.2.2.2.2.1 1)) rfl (by decide) tw945 ?_
    refine j_icmp_ge (pc := 7) C d_Mo_behindRun_7 (tgt := 47) rfl (fun h1 => ?_) (fun h1 => ?_)
    · rw [if_pos h1] at hf
      refine j_iload_n (pc := 47) C d_Mo_behindRun_47 rfl 3 rfl ?_
      cases hf
      exact j_iret (pc := 48) C d_Mo_behindRun_48 ⟨rfl, rfl⟩ (Nat.le_of_ble_eq_true rfl) (Nat.le_of_ble_eq_true rfl)
    · rw [if_neg h1] at hf
      refine j_iload_n (pc := 10) C d_Mo_behindRun_10 rfl 2 rfl ?_
      refine j_if_eq (pc := 11) C d_Mo_behindRun_11 (tgt := 29) rfl (fun h2 => ?_) (fun h2 => ?_)
      · rw [if_pos h2] at hf
        refine j_aload_n (pc := 29) C d_Mo_behindRun_29 rfl 0 rfl ?_
        refine j_get (pc := 30) C d_Mo_behindRun_30 0 2 wR_o0 rfl (v := .ref (ar 2)) rfl (by decide) tw944 ?_
        refine j_iload_n (pc := 33) C d_Mo_behindRun_33 rfl 3 rfl ?_
        obtain ⟨b3, hf⟩ := og hf
        refine j_iald (pc := 34) C d_Mo_behindRun_34 2 (inb_in b3) (x := x.2.2.2.1 2 x.2.2.1.toNatClampNeg) wR_a2 rfl ?_
        obtain ⟨q4, eq4, hf⟩ := ob hf
        refine j_callSi (pc := 35) C (rest := []) d_Mo_behindRun_35 (c_Mo_isDigit (g := g)  eq4) cv_Mo_isDigit tw1162 cut_none rfl rfl (Nat.le_of_ble_eq_true rfl) (kc2 := 0) (ks2 := 0) (by decide) ?_
        refine j_if_eq (pc := 38) C d_Mo_behindRun_38 (tgt := 47) rfl (fun h5 => ?_) (fun h5 => ?_)
        · rw [if_pos h5] at hf
          refine j_iload_n (pc := 47) C d_Mo_behindRun_47 rfl 3 rfl ?_
          cases hf
          exact j_iret (pc := 48) C d_Mo_behindRun_48 ⟨rfl, rfl⟩ (Nat.le_of_ble_eq_true rfl) (Nat.le_of_ble_eq_true rfl)
        · rw [if_neg h5] at hf
          refine j_iinc (pc := 41) C d_Mo_behindRun_41 3 rfl (v := x.2.2.1 + 1) (iv ci_1) [1, 2, 3, 0] (by decide) (lc' := [(0, .ref (ar 0)), (1, .int x.1), (2, .int x.2.1), (3, .int (x.2.2.1 + 1))]) rfl ?_
          refine j_goto (pc := 44) C d_Mo_behindRun_44 (tgt := 2) rfl ?_
          exact k2_ih (x.1, x.2.1, x.2.2.1 + 1, x.2.2.2) hf
      · rw [if_neg h2] at hf
        refine j_aload_n (pc := 14) C d_Mo_behindRun_14 rfl 0 rfl ?_
        refine j_get (pc := 15) C d_Mo_behindRun_15 0 2 wR_o0 rfl (v := .ref (ar 2)) rfl (by decide) tw944 ?_
        refine j_iload_n (pc := 18) C d_Mo_behindRun_18 rfl 3 rfl ?_
        obtain ⟨b6, hf⟩ := og hf
        refine j_iald (pc := 19) C d_Mo_behindRun_19 2 (inb_in b6) (x := x.2.2.2.1 2 x.2.2.1.toNatClampNeg) wR_a2 rfl ?_
        obtain ⟨q7, eq7, hf⟩ := ob hf
        refine j_callSi (pc := 20) C (rest := []) d_Mo_behindRun_20 (c_Mo_isLetter (g := g)  eq7) cv_Mo_isLetter tw1155 cut_none rfl rfl (Nat.le_of_ble_eq_true rfl) (kc2 := 0) (ks2 := 0) (by decide) ?_
        refine j_if_eq (pc := 23) C d_Mo_behindRun_23 (tgt := 47) rfl (fun h8 => ?_) (fun h8 => ?_)
        · rw [if_pos h8] at hf
          refine j_iload_n (pc := 47) C d_Mo_behindRun_47 rfl 3 rfl ?_
          cases hf
          exact j_iret (pc := 48) C d_Mo_behindRun_48 ⟨rfl, rfl⟩ (Nat.le_of_ble_eq_true rfl) (Nat.le_of_ble_eq_true rfl)
        · rw [if_neg h8] at hf
          refine j_goto (pc := 26) C d_Mo_behindRun_26 (tgt := 41) rfl ?_
          refine j_iinc (pc := 41) C d_Mo_behindRun_41 3 rfl (v := x.2.2.1 + 1) (iv ci_1) [1, 2, 3, 0] (by decide) (lc' := [(0, .ref (ar 0)), (1, .int x.1), (2, .int x.2.1), (3, .int (x.2.2.1 + 1))]) rfl ?_
          refine j_goto (pc := 44) C d_Mo_behindRun_44 (tgt := 2) rfl ?_
          exact k2_ih (x.1, x.2.1, x.2.2.1 + 1, x.2.2.2) hf
  unfold f_Mo_behindRun at hf
  change 𝒥 0 0 (wR g ar r.1 r.2.1 r.2.2) [(0, .ref (ar 0)), (1, .int a1), (2, .int a2)] [] 0
  refine j_iload_n (pc := 0) C d_Mo_behindRun_0 rfl 1 rfl ?_
  refine j_istore_n (pc := 1) C d_Mo_behindRun_1 rfl [1, 2, 3, 0] (by decide) (lc' := [(0, .ref (ar 0)), (1, .int a1), (2, .int a2), (3, .int a1)]) rfl ?_
  exact L2 100000 (a1, a2, a1, r) hf
abbrev rm_Mo_keyword : Room := { frames := 0, cells := 0, slots := 0, locals := 0 }
theorem cv_Mo_keyword : CV y_Mo_keyword b_Mo_keyword 4 (some .int) 1 := ⟨⟨tw1172, tw10, by decide +kernel⟩, tw1171, (sw_ (q := (y_Mo_keyword, 54)) (by decide +kernel) (by decide +kernel))⟩
set_option maxHeartbeats 4000000 in
set_option maxRecDepth 100000 in
theorem c_Mo_keyword {g : GT} {ar : Nat → Nat} {a1 : Int64} {r : RS} {q : Int32 × RS} (hf : f_Mo_keyword a1 r = some q) : MI g y_Mo_keyword b_Mo_keyword 4 (some .int) rm_Mo_keyword [.ref (ar 0), .long a1] (wR g ar r.1 r.2.1 r.2.2) q.1 (wR g ar q.2.1 q.2.2.1 q.2.2.2) := by
  refine MI.of (by decide) (Nat.le_of_ble_eq_true rfl) (fun 𝒥 C => ?_)
  have L2 : ∀ (n : Nat) (x : Int64 × Int32 × RS), lpN (BMo_keyword_2) n x = some q → 𝒥 0 0 (wR g ar x.2.2.1 x.2.2.2.1 x.2.2.2.2) [(0, .ref (ar 0)), (1, .long x.1), (3, .int x.2.1)] [] 2 := by
    refine lp_ind (fun k2 k2_ih x hf => ?_)
    unfold BMo_keyword_2 at hf
    refine j_iload_n (pc := 2) C d_Mo_keyword_2 rfl 2 rfl ?_
    refine j_bipush (pc := 3) C d_Mo_keyword_3 cb_6 ?_
    refine j_icmp_ge (pc := 5) C d_Mo_keyword_5 (tgt := 27) rfl (fun h1 => ?_) (fun h1 => ?_)
    · rw [if_pos h1] at hf
      refine j_iconst (pc := 27) C d_Mo_keyword_27 ck_m1 ?_
      cases hf
      exact j_iret (pc := 28) C d_Mo_keyword_28 ⟨rfl, rfl⟩ (Nat.le_of_ble_eq_true rfl) (Nat.le_of_ble_eq_true rfl)
    · rw [if_neg h1] at hf
      refine j_aload_n (pc := 8) C d_Mo_keyword_8 rfl 0 rfl ?_
      refine j_get (pc := 9) C d_Mo_keyword_9 0 0 wR_o0 rfl (v := .ref (ar 1)) rfl (by decide) tw942 ?_
      refine j_iload_n (pc := 12) C d_Mo_keyword_12 rfl 2 rfl ?_
      obtain ⟨b2, hf⟩ := og hf
      refine j_lald (pc := 13) C d_Mo_keyword_13 1 (inb_in b2) (x := x.2.2.2.2 1 x.2.1.toNatClampNeg) wR_a1 rfl ?_
      refine j_lload_n (pc := 14) C d_Mo_keyword_14 rfl 1 rfl ?_
      refine j_lcmp (pc := 15) C d_Mo_keyword_15 ?_
      refine j_topi C (fun v3 ev3 => ?_)
      replace hf := ov ev3 hf
      refine j_if_ne (pc := 16) C d_Mo_keyword_16 (tgt := 21) rfl (fun h4 => ?_) (fun h4 => ?_)
      · rw [if_neg h4] at hf
        refine j_iinc (pc := 21) C d_Mo_keyword_21 2 rfl (v := x.2.1 + 1) (iv ci_1) [1, 2, 0] (by decide) (lc' := [(0, .ref (ar 0)), (1, .long x.1), (3, .int (x.2.1 + 1))]) rfl ?_
        refine j_goto (pc := 24) C d_Mo_keyword_24 (tgt := 2) rfl ?_
        exact k2_ih (x.1, x.2.1 + 1, x.2.2) hf
      · rw [if_pos h4] at hf
        refine j_iload_n (pc := 19) C d_Mo_keyword_19 rfl 2 rfl ?_
        cases hf
        exact j_iret (pc := 20) C d_Mo_keyword_20 ⟨rfl, rfl⟩ (Nat.le_of_ble_eq_true rfl) (Nat.le_of_ble_eq_true rfl)
  unfold f_Mo_keyword at hf
  change 𝒥 0 0 (wR g ar r.1 r.2.1 r.2.2) [(0, .ref (ar 0)), (1, .long a1)] [] 0
  refine j_iconst (pc := 0) C d_Mo_keyword_0 ck_0 ?_
  refine j_istore_n (pc := 1) C d_Mo_keyword_1 rfl [1, 2, 0] (by decide) (lc' := [(0, .ref (ar 0)), (1, .long a1), (3, .int 0)]) rfl ?_
  exact L2 100000 (a1, 0, r) hf
abbrev rm_Mo_makeToken : Room := { frames := 1, cells := 0, slots := 0, locals := 23 }
theorem cv_Mo_makeToken : CV y_Mo_makeToken b_Mo_makeToken 7 none 2 := ⟨⟨tw1168, tw10, by decide +kernel⟩, tw1167, (sw_ (q := (y_Mo_makeToken, 54)) (by decide +kernel) (by decide +kernel))⟩
set_option maxHeartbeats 4000000 in
set_option maxRecDepth 100000 in
theorem c_Mo_makeToken {g : GT} {ar : Nat → Nat} {a1 : Int32} {a2 : Int32} {r : RS} {q : RS} (hf : f_Mo_makeToken a1 a2 r = some q) : MV g y_Mo_makeToken b_Mo_makeToken 7 none rm_Mo_makeToken [.ref (ar 0), .int a1, .int a2] (wR g ar r.1 r.2.1 r.2.2) (wR g ar q.1 q.2.1 q.2.2) := by
  refine MV.of (by decide) (Nat.le_of_ble_eq_true rfl) (fun 𝒥 C => ?_)
  have L218 : ∀ (n : Nat) (x : Int32 × Int32 × Int32 × Int32 × Int32 × RS), lpN (BMo_makeToken_218) n x = some q → 𝒥 0 0 (wR g ar x.2.2.2.2.2.1 x.2.2.2.2.2.2.1 x.2.2.2.2.2.2.2) [(0, .ref (ar 0)), (1, .int x.1), (2, .int x.2.1), (3, .int x.2.2.1), (4, .int x.2.2.2.1), (5, .int x.2.2.2.2.1)] [] 218 := by
    refine lp_ind (fun k218 k218_ih x hf => ?_)
    unfold BMo_makeToken_218 at hf
    refine j_iload (pc := 218) C d_Mo_makeToken_218 5 rfl ?_
    refine j_iload_n (pc := 220) C d_Mo_makeToken_220 rfl 2 rfl ?_
    refine j_icmp_ge (pc := 221) C d_Mo_makeToken_221 (tgt := 266) rfl (fun h20 => ?_) (fun h20 => ?_)
    · rw [if_pos h20] at hf
      refine j_goto (pc := 266) C d_Mo_makeToken_266 (tgt := 288) rfl ?_
      cases hf
      exact j_vret (pc := 288) C d_Mo_makeToken_288 ⟨rfl, rfl⟩ (Nat.le_of_ble_eq_true rfl) (Nat.le_of_ble_eq_true rfl)
    · rw [if_neg h20] at hf
      refine j_iload_n (pc := 224) C d_Mo_makeToken_224 rfl 2 rfl ?_
      refine j_iload_n (pc := 225) C d_Mo_makeToken_225 rfl 1 rfl ?_
      refine j_isub (pc := 226) C d_Mo_makeToken_226 ?_
      refine j_iconst (pc := 227) C d_Mo_makeToken_227 ck_4 ?_
      refine j_icmp_gt (pc := 228) C d_Mo_makeToken_228 (tgt := 266) rfl (fun h21 => ?_) (fun h21 => ?_)
      · rw [if_pos h21] at hf
        refine j_goto (pc := 266) C d_Mo_makeToken_266 (tgt := 288) rfl ?_
        cases hf
        exact j_vret (pc := 288) C d_Mo_makeToken_288 ⟨rfl, rfl⟩ (Nat.le_of_ble_eq_true rfl) (Nat.le_of_ble_eq_true rfl)
      · rw [if_neg h21] at hf
        refine j_aload_n (pc := 231) C d_Mo_makeToken_231 rfl 0 rfl ?_
        refine j_get (pc := 232) C d_Mo_makeToken_232 0 11 wR_o0 rfl (v := .ref (ar 8)) rfl (by decide) tw953 ?_
        refine j_iload_n (pc := 235) C d_Mo_makeToken_235 rfl 3 rfl ?_
        refine j_ldc2 (pc := 236) C d_Mo_makeToken_236 tw1173 ?_
        refine j_aload_n (pc := 239) C d_Mo_makeToken_239 rfl 0 rfl ?_
        refine j_get (pc := 240) C d_Mo_makeToken_240 0 11 wR_o0 rfl (v := .ref (ar 8)) rfl (by decide) tw953 ?_
        refine j_iload_n (pc := 243) C d_Mo_makeToken_243 rfl 3 rfl ?_
        obtain ⟨b22, hf⟩ := og hf
        refine j_lald (pc := 244) C d_Mo_makeToken_244 8 (inb_in b22) (x := x.2.2.2.2.2.2.2 8 x.2.2.1.toNatClampNeg) wR_a8 rfl ?_
        refine j_lmul (pc := 245) C d_Mo_makeToken_245 ?_
        refine j_topl C (fun v23 ev23 => ?_)
        replace hf := ov ev23 hf
        refine j_aload_n (pc := 246) C d_Mo_makeToken_246 rfl 0 rfl ?_
        refine j_get (pc := 247) C d_Mo_makeToken_247 0 2 wR_o0 rfl (v := .ref (ar 2)) rfl (by decide) tw944 ?_
        refine j_iload (pc := 250) C d_Mo_makeToken_250 5 rfl ?_
        obtain ⟨b24, hf⟩ := og hf
        refine j_iald (pc := 252) C d_Mo_makeToken_252 2 (inb_in b24) (x := x.2.2.2.2.2.1 2 x.2.2.2.2.1.toNatClampNeg) wR_a2 rfl ?_
        refine j_topi C (fun v25 ev25 => ?_)
        replace hf := ov ev25 hf
        refine j_i2l (pc := 253) C d_Mo_makeToken_253 rfl ?_
        refine j_ladd (pc := 254) C d_Mo_makeToken_254 ?_
        refine j_ldc2 (pc := 255) C d_Mo_makeToken_255 tw1174 ?_
        refine j_lsub (pc := 258) C d_Mo_makeToken_258 ?_
        obtain ⟨b26, hf⟩ := og hf
        refine j_last (pc := 259) C d_Mo_makeToken_259 8 (inb_in b26) wR_a8 (ws' := wR g ar x.2.2.2.2.2.1 x.2.2.2.2.2.2.1 (va_up x.2.2.2.2.2.2.2 8 (vp_updL (x.2.2.2.2.2.2.2 8) x.2.2.1.toNatClampNeg ((v23 + v25.toInt64) - 48)))) wR_s8 ?_
        refine j_iinc (pc := 260) C d_Mo_makeToken_260 5 rfl (v := x.2.2.2.2.1 + 1) (iv ci_1) [1, 2, 3, 4, 5, 0] (by decide) (lc' := [(0, .ref (ar 0)), (1, .int x.1), (2, .int x.2.1), (3, .int x.2.2.1), (4, .int x.2.2.2.1), (5, .int (x.2.2.2.2.1 + 1))]) rfl ?_
        refine j_goto (pc := 263) C d_Mo_makeToken_263 (tgt := 218) rfl ?_
        exact k218_ih (x.1, x.2.1, x.2.2.1, x.2.2.2.1, x.2.2.2.2.1 + 1, (x.2.2.2.2.2.1, x.2.2.2.2.2.2.1, (va_up x.2.2.2.2.2.2.2 8 (vp_updL (x.2.2.2.2.2.2.2 8) x.2.2.1.toNatClampNeg ((v23 + v25.toInt64) - 48))))) hf
  have L105 : ∀ (n : Nat) (x : Int32 × Int32 × Int32 × Int32 × Int32 × Int32 × RS), lpN (BMo_makeToken_105) n x = some q → 𝒥 0 0 (wR g ar x.2.2.2.2.2.2.1 x.2.2.2.2.2.2.2.1 x.2.2.2.2.2.2.2.2) [(0, .ref (ar 0)), (1, .int x.1), (2, .int x.2.1), (3, .int x.2.2.1), (4, .int x.2.2.2.1), (5, .int x.2.2.2.2.1), (6, .int x.2.2.2.2.2.1)] [] 105 := by
    refine lp_ind (fun k105 k105_ih x hf => ?_)
    unfold BMo_makeToken_105 at hf
    refine j_iload (pc := 105) C d_Mo_makeToken_105 6 rfl ?_
    refine j_iload_n (pc := 107) C d_Mo_makeToken_107 rfl 2 rfl ?_
    refine j_icmp_ge (pc := 108) C d_Mo_makeToken_108 (tgt := 153) rfl (fun h29 => ?_) (fun h29 => ?_)
    · rw [if_pos h29] at hf
      refine j_aload_n (pc := 153) C d_Mo_makeToken_153 rfl 0 rfl ?_
      refine j_get (pc := 154) C d_Mo_makeToken_154 0 8 wR_o0 rfl (v := .ref (ar 5)) rfl (by decide) tw950 ?_
      refine j_iload_n (pc := 157) C d_Mo_makeToken_157 rfl 3 rfl ?_
      refine j_iload (pc := 158) C d_Mo_makeToken_158 5 rfl ?_
      refine j_if_ne (pc := 160) C d_Mo_makeToken_160 (tgt := 167) rfl (fun h30 => ?_) (fun h30 => ?_)
      · rw [if_neg h30] at hf
        refine j_aload_n (pc := 167) C d_Mo_makeToken_167 rfl 0 rfl ?_
        refine j_aload_n (pc := 168) C d_Mo_makeToken_168 rfl 0 rfl ?_
        refine j_get (pc := 169) C d_Mo_makeToken_169 0 11 wR_o0 rfl (v := .ref (ar 8)) rfl (by decide) tw953 ?_
        refine j_iload_n (pc := 172) C d_Mo_makeToken_172 rfl 3 rfl ?_
        obtain ⟨b31, hf⟩ := og hf
        refine j_lald (pc := 173) C d_Mo_makeToken_173 8 (inb_in b31) (x := x.2.2.2.2.2.2.2.2 8 x.2.2.1.toNatClampNeg) wR_a8 rfl ?_
        refine j_topl C (fun v32 ev32 => ?_)
        replace hf := ov ev32 hf
        obtain ⟨q33, eq33, hf⟩ := ob hf
        refine j_callVi (pc := 174) C (rest := [.int x.2.2.1, .ref (ar 5)]) d_Mo_makeToken_174 (c_Mo_keyword (g := g) (ar := ar) eq33) cv_Mo_keyword tw1169 0 rfl rfl cut_same rfl rfl (Nat.le_of_ble_eq_true rfl) (kc2 := 0) (ks2 := 0) (by decide) ?_
        refine j_if_lt (pc := 177) C d_Mo_makeToken_177 (tgt := 184) rfl (fun h34 => ?_) (fun h34 => ?_)
        · rw [if_pos h34] at hf
          refine j_iconst (pc := 184) C d_Mo_makeToken_184 ck_2 ?_
          obtain ⟨b35, hf⟩ := og hf
          refine j_iast (pc := 185) C d_Mo_makeToken_185 5 (inb_in b35) wR_a5 (ws' := wR g ar (va_up q33.2.1 5 (upd (q33.2.1 5) x.2.2.1.toNatClampNeg 2)) q33.2.2.1 q33.2.2.2) wR_s5 ?_
          refine j_goto (pc := 186) C d_Mo_makeToken_186 (tgt := 288) rfl ?_
          cases hf
          exact j_vret (pc := 288) C d_Mo_makeToken_288 ⟨rfl, rfl⟩ (Nat.le_of_ble_eq_true rfl) (Nat.le_of_ble_eq_true rfl)
        · rw [if_neg h34] at hf
          refine j_iconst (pc := 180) C d_Mo_makeToken_180 ck_1 ?_
          refine j_goto (pc := 181) C d_Mo_makeToken_181 (tgt := 185) rfl ?_
          obtain ⟨b36, hf⟩ := og hf
          refine j_iast (pc := 185) C d_Mo_makeToken_185 5 (inb_in b36) wR_a5 (ws' := wR g ar (va_up q33.2.1 5 (upd (q33.2.1 5) x.2.2.1.toNatClampNeg 1)) q33.2.2.1 q33.2.2.2) wR_s5 ?_
          refine j_goto (pc := 186) C d_Mo_makeToken_186 (tgt := 288) rfl ?_
          cases hf
          exact j_vret (pc := 288) C d_Mo_makeToken_288 ⟨rfl, rfl⟩ (Nat.le_of_ble_eq_true rfl) (Nat.le_of_ble_eq_true rfl)
      · rw [if_pos h30] at hf
        refine j_iconst (pc := 163) C d_Mo_makeToken_163 ck_5 ?_
        refine j_goto (pc := 164) C d_Mo_makeToken_164 (tgt := 185) rfl ?_
        obtain ⟨b37, hf⟩ := og hf
        refine j_iast (pc := 185) C d_Mo_makeToken_185 5 (inb_in b37) wR_a5 (ws' := wR g ar (va_up x.2.2.2.2.2.2.1 5 (upd (x.2.2.2.2.2.2.1 5) x.2.2.1.toNatClampNeg 5)) x.2.2.2.2.2.2.2.1 x.2.2.2.2.2.2.2.2) wR_s5 ?_
        refine j_goto (pc := 186) C d_Mo_makeToken_186 (tgt := 288) rfl ?_
        cases hf
        exact j_vret (pc := 288) C d_Mo_makeToken_288 ⟨rfl, rfl⟩ (Nat.le_of_ble_eq_true rfl) (Nat.le_of_ble_eq_true rfl)
    · rw [if_neg h29] at hf
      refine j_iload (pc := 111) C d_Mo_makeToken_111 5 rfl ?_
      refine j_if_eq (pc := 113) C d_Mo_makeToken_113 (tgt := 153) rfl (fun h38 => ?_) (fun h38 => ?_)
      · rw [if_pos h38] at hf
        refine j_aload_n (pc := 153) C d_Mo_makeToken_153 rfl 0 rfl ?_
        refine j_get (pc := 154) C d_Mo_makeToken_154 0 8 wR_o0 rfl (v := .ref (ar 5)) rfl (by decide) tw950 ?_
        refine j_iload_n (pc := 157) C d_Mo_makeToken_157 rfl 3 rfl ?_
        refine j_iload (pc := 158) C d_Mo_makeToken_158 5 rfl ?_
        refine j_if_ne (pc := 160) C d_Mo_makeToken_160 (tgt := 167) rfl (fun h39 => ?_) (fun h39 => ?_)
        · rw [if_neg h39] at hf
          refine j_aload_n (pc := 167) C d_Mo_makeToken_167 rfl 0 rfl ?_
          refine j_aload_n (pc := 168) C d_Mo_makeToken_168 rfl 0 rfl ?_
          refine j_get (pc := 169) C d_Mo_makeToken_169 0 11 wR_o0 rfl (v := .ref (ar 8)) rfl (by decide) tw953 ?_
          refine j_iload_n (pc := 172) C d_Mo_makeToken_172 rfl 3 rfl ?_
          obtain ⟨b40, hf⟩ := og hf
          refine j_lald (pc := 173) C d_Mo_makeToken_173 8 (inb_in b40) (x := x.2.2.2.2.2.2.2.2 8 x.2.2.1.toNatClampNeg) wR_a8 rfl ?_
          refine j_topl C (fun v41 ev41 => ?_)
          replace hf := ov ev41 hf
          obtain ⟨q42, eq42, hf⟩ := ob hf
          refine j_callVi (pc := 174) C (rest := [.int x.2.2.1, .ref (ar 5)]) d_Mo_makeToken_174 (c_Mo_keyword (g := g) (ar := ar) eq42) cv_Mo_keyword tw1169 0 rfl rfl cut_same rfl rfl (Nat.le_of_ble_eq_true rfl) (kc2 := 0) (ks2 := 0) (by decide) ?_
          refine j_if_lt (pc := 177) C d_Mo_makeToken_177 (tgt := 184) rfl (fun h43 => ?_) (fun h43 => ?_)
          · rw [if_pos h43] at hf
            refine j_iconst (pc := 184) C d_Mo_makeToken_184 ck_2 ?_
            obtain ⟨b44, hf⟩ := og hf
            refine j_iast (pc := 185) C d_Mo_makeToken_185 5 (inb_in b44) wR_a5 (ws' := wR g ar (va_up q42.2.1 5 (upd (q42.2.1 5) x.2.2.1.toNatClampNeg 2)) q42.2.2.1 q42.2.2.2) wR_s5 ?_
            refine j_goto (pc := 186) C d_Mo_makeToken_186 (tgt := 288) rfl ?_
            cases hf
            exact j_vret (pc := 288) C d_Mo_makeToken_288 ⟨rfl, rfl⟩ (Nat.le_of_ble_eq_true rfl) (Nat.le_of_ble_eq_true rfl)
          · rw [if_neg h43] at hf
            refine j_iconst (pc := 180) C d_Mo_makeToken_180 ck_1 ?_
            refine j_goto (pc := 181) C d_Mo_makeToken_181 (tgt := 185) rfl ?_
            obtain ⟨b45, hf⟩ := og hf
            refine j_iast (pc := 185) C d_Mo_makeToken_185 5 (inb_in b45) wR_a5 (ws' := wR g ar (va_up q42.2.1 5 (upd (q42.2.1 5) x.2.2.1.toNatClampNeg 1)) q42.2.2.1 q42.2.2.2) wR_s5 ?_
            refine j_goto (pc := 186) C d_Mo_makeToken_186 (tgt := 288) rfl ?_
            cases hf
            exact j_vret (pc := 288) C d_Mo_makeToken_288 ⟨rfl, rfl⟩ (Nat.le_of_ble_eq_true rfl) (Nat.le_of_ble_eq_true rfl)
        · rw [if_pos h39] at hf
          refine j_iconst (pc := 163) C d_Mo_makeToken_163 ck_5 ?_
          refine j_goto (pc := 164) C d_Mo_makeToken_164 (tgt := 185) rfl ?_
          obtain ⟨b46, hf⟩ := og hf
          refine j_iast (pc := 185) C d_Mo_makeToken_185 5 (inb_in b46) wR_a5 (ws' := wR g ar (va_up x.2.2.2.2.2.2.1 5 (upd (x.2.2.2.2.2.2.1 5) x.2.2.1.toNatClampNeg 5)) x.2.2.2.2.2.2.2.1 x.2.2.2.2.2.2.2.2) wR_s5 ?_
          refine j_goto (pc := 186) C d_Mo_makeToken_186 (tgt := 288) rfl ?_
          cases hf
          exact j_vret (pc := 288) C d_Mo_makeToken_288 ⟨rfl, rfl⟩ (Nat.le_of_ble_eq_true rfl) (Nat.le_of_ble_eq_true rfl)
      · rw [if_neg h38] at hf
        refine j_aload_n (pc := 116) C d_Mo_makeToken_116 rfl 0 rfl ?_
        refine j_get (pc := 117) C d_Mo_makeToken_117 0 11 wR_o0 rfl (v := .ref (ar 8)) rfl (by decide) tw953 ?_
        refine j_iload_n (pc := 120) C d_Mo_makeToken_120 rfl 3 rfl ?_
        refine j_aload_n (pc := 121) C d_Mo_makeToken_121 rfl 0 rfl ?_
        refine j_get (pc := 122) C d_Mo_makeToken_122 0 11 wR_o0 rfl (v := .ref (ar 8)) rfl (by decide) tw953 ?_
        refine j_iload_n (pc := 125) C d_Mo_makeToken_125 rfl 3 rfl ?_
        obtain ⟨b47, hf⟩ := og hf
        refine j_lald (pc := 126) C d_Mo_makeToken_126 8 (inb_in b47) (x := x.2.2.2.2.2.2.2.2 8 x.2.2.1.toNatClampNeg) wR_a8 rfl ?_
        refine j_topl C (fun v48 ev48 => ?_)
        replace hf := ov ev48 hf
        refine j_aload_n (pc := 127) C d_Mo_makeToken_127 rfl 0 rfl ?_
        refine j_get (pc := 128) C d_Mo_makeToken_128 0 2 wR_o0 rfl (v := .ref (ar 2)) rfl (by decide) tw944 ?_
        refine j_iload (pc := 131) C d_Mo_makeToken_131 6 rfl ?_
        obtain ⟨b49, hf⟩ := og hf
        refine j_iald (pc := 133) C d_Mo_makeToken_133 2 (inb_in b49) (x := x.2.2.2.2.2.2.1 2 x.2.2.2.2.2.1.toNatClampNeg) wR_a2 rfl ?_
        refine j_topi C (fun v50 ev50 => ?_)
        replace hf := ov ev50 hf
        refine j_bipush (pc := 134) C d_Mo_makeToken_134 cb_96 ?_
        refine j_isub (pc := 136) C d_Mo_makeToken_136 ?_
        refine j_i2l (pc := 137) C d_Mo_makeToken_137 rfl ?_
        refine j_iconst (pc := 138) C d_Mo_makeToken_138 ck_5 ?_
        refine j_iload (pc := 139) C d_Mo_makeToken_139 6 rfl ?_
        refine j_iload_n (pc := 141) C d_Mo_makeToken_141 rfl 1 rfl ?_
        refine j_isub (pc := 142) C d_Mo_makeToken_142 ?_
        refine j_imul (pc := 143) C d_Mo_makeToken_143 ?_
        refine j_lshl (pc := 144) C d_Mo_makeToken_144 ?_
        refine j_topl C (fun v51 ev51 => ?_)
        replace hf := ov ev51 hf
        refine j_lor (pc := 145) C d_Mo_makeToken_145 ?_
        obtain ⟨b52, hf⟩ := og hf
        refine j_last (pc := 146) C d_Mo_makeToken_146 8 (inb_in b52) wR_a8 (ws' := wR g ar x.2.2.2.2.2.2.1 x.2.2.2.2.2.2.2.1 (va_up x.2.2.2.2.2.2.2.2 8 (vp_updL (x.2.2.2.2.2.2.2.2 8) x.2.2.1.toNatClampNeg (v48 ||| v51)))) wR_s8 ?_
        refine j_iinc (pc := 147) C d_Mo_makeToken_147 6 rfl (v := x.2.2.2.2.2.1 + 1) (iv ci_1) [1, 2, 3, 4, 5, 6, 0] (by decide) (lc' := [(0, .ref (ar 0)), (1, .int x.1), (2, .int x.2.1), (3, .int x.2.2.1), (4, .int x.2.2.2.1), (5, .int x.2.2.2.2.1), (6, .int (x.2.2.2.2.2.1 + 1))]) rfl ?_
        refine j_goto (pc := 150) C d_Mo_makeToken_150 (tgt := 105) rfl ?_
        exact k105_ih (x.1, x.2.1, x.2.2.1, x.2.2.2.1, x.2.2.2.2.1, x.2.2.2.2.2.1 + 1, (x.2.2.2.2.2.2.1, x.2.2.2.2.2.2.2.1, (va_up x.2.2.2.2.2.2.2.2 8 (vp_updL (x.2.2.2.2.2.2.2.2 8) x.2.2.1.toNatClampNeg (v48 ||| v51))))) hf
  unfold f_Mo_makeToken at hf
  change 𝒥 0 0 (wR g ar r.1 r.2.1 r.2.2) [(0, .ref (ar 0)), (1, .int a1), (2, .int a2)] [] 0
  refine j_aload_n (pc := 0) C d_Mo_makeToken_0 rfl 0 rfl ?_
  refine j_get (pc := 1) C d_Mo_makeToken_1 0 7 wR_o0 rfl (v := .int (r.2.1 3)) rfl (by decide) tw949 ?_
  refine j_istore_n (pc := 4) C d_Mo_makeToken_4 rfl [1, 2, 3, 0] (by decide) (lc' := [(0, .ref (ar 0)), (1, .int a1), (2, .int a2), (3, .int (r.2.1 3))]) rfl ?_
  refine j_aload_n (pc := 5) C d_Mo_makeToken_5 rfl 0 rfl ?_
  refine j_dup (pc := 6) C d_Mo_makeToken_6 rfl ?_
  refine j_get (pc := 7) C d_Mo_makeToken_7 0 7 wR_o0 rfl (v := .int (r.2.1 3)) rfl (by decide) tw949 ?_
  refine j_iconst (pc := 10) C d_Mo_makeToken_10 ck_1 ?_
  refine j_iadd (pc := 11) C d_Mo_makeToken_11 ?_
  refine j_put (pc := 12) C d_Mo_makeToken_12 0 7 wR_o0 rfl (by decide) tw949 pd_I rfl rfl rfl (Nat.le_of_ble_eq_true rfl) (ws' := wR g ar r.1 (va_up r.2.1 3 ((r.2.1 3) + 1)) r.2.2) wR_p0_7 ?_
  refine j_aload_n (pc := 15) C d_Mo_makeToken_15 rfl 0 rfl ?_
  refine j_get (pc := 16) C d_Mo_makeToken_16 0 9 wR_o0 rfl (v := .ref (ar 6)) rfl (by decide) tw951 ?_
  refine j_iload_n (pc := 19) C d_Mo_makeToken_19 rfl 3 rfl ?_
  refine j_iload_n (pc := 20) C d_Mo_makeToken_20 rfl 1 rfl ?_
  obtain ⟨b1, hf⟩ := og hf
  refine j_iast (pc := 21) C d_Mo_makeToken_21 6 (inb_in b1) wR_a6 (ws' := wR g ar (va_up r.1 6 (upd (r.1 6) (r.2.1 3).toNatClampNeg a1)) (va_up r.2.1 3 ((r.2.1 3) + 1)) r.2.2) wR_s6 ?_
  refine j_aload_n (pc := 22) C d_Mo_makeToken_22 rfl 0 rfl ?_
  refine j_get (pc := 23) C d_Mo_makeToken_23 0 10 wR_o0 rfl (v := .ref (ar 7)) rfl (by decide) tw952 ?_
  refine j_iload_n (pc := 26) C d_Mo_makeToken_26 rfl 3 rfl ?_
  refine j_iload_n (pc := 27) C d_Mo_makeToken_27 rfl 2 rfl ?_
  obtain ⟨b2, hf⟩ := og hf
  refine j_iast (pc := 28) C d_Mo_makeToken_28 7 (inb_in b2) wR_a7 (ws' := wR g ar (va_up (va_up r.1 6 (upd (r.1 6) (r.2.1 3).toNatClampNeg a1)) 7 (upd (r.1 7) (r.2.1 3).toNatClampNeg a2)) (va_up r.2.1 3 ((r.2.1 3) + 1)) r.2.2) wR_s7 ?_
  refine j_aload_n (pc := 29) C d_Mo_makeToken_29 rfl 0 rfl ?_
  refine j_get (pc := 30) C d_Mo_makeToken_30 0 11 wR_o0 rfl (v := .ref (ar 8)) rfl (by decide) tw953 ?_
  refine j_iload_n (pc := 33) C d_Mo_makeToken_33 rfl 3 rfl ?_
  refine j_lconst (pc := 34) C d_Mo_makeToken_34 cl_0 ?_
  obtain ⟨b3, hf⟩ := og hf
  refine j_last (pc := 35) C d_Mo_makeToken_35 8 (inb_in b3) wR_a8 (ws' := wR g ar (va_up (va_up r.1 6 (upd (r.1 6) (r.2.1 3).toNatClampNeg a1)) 7 (upd (r.1 7) (r.2.1 3).toNatClampNeg a2)) (va_up r.2.1 3 ((r.2.1 3) + 1)) (va_up r.2.2 8 (vp_updL (r.2.2 8) (r.2.1 3).toNatClampNeg 0))) wR_s8 ?_
  refine j_aload_n (pc := 36) C d_Mo_makeToken_36 rfl 0 rfl ?_
  refine j_get (pc := 37) C d_Mo_makeToken_37 0 12 wR_o0 rfl (v := .ref (ar 9)) rfl (by decide) tw954 ?_
  refine j_iload_n (pc := 40) C d_Mo_makeToken_40 rfl 3 rfl ?_
  refine j_iconst (pc := 41) C d_Mo_makeToken_41 ck_0 ?_
  obtain ⟨b4, hf⟩ := og hf
  refine j_iast (pc := 42) C d_Mo_makeToken_42 9 (inb_in b4) wR_a9 (ws' := wR g ar (va_up (va_up (va_up r.1 6 (upd (r.1 6) (r.2.1 3).toNatClampNeg a1)) 7 (upd (r.1 7) (r.2.1 3).toNatClampNeg a2)) 9 (upd (r.1 9) (r.2.1 3).toNatClampNeg 0)) (va_up r.2.1 3 ((r.2.1 3) + 1)) (va_up r.2.2 8 (vp_updL (r.2.2 8) (r.2.1 3).toNatClampNeg 0))) wR_s9 ?_
  refine j_aload_n (pc := 43) C d_Mo_makeToken_43 rfl 0 rfl ?_
  refine j_get (pc := 44) C d_Mo_makeToken_44 0 13 wR_o0 rfl (v := .ref (ar 10)) rfl (by decide) tw955 ?_
  refine j_iload_n (pc := 47) C d_Mo_makeToken_47 rfl 3 rfl ?_
  refine j_iconst (pc := 48) C d_Mo_makeToken_48 ck_m1 ?_
  obtain ⟨b5, hf⟩ := og hf
  refine j_iast (pc := 49) C d_Mo_makeToken_49 10 (inb_in b5) wR_a10 (ws' := wR g ar (va_up (va_up (va_up (va_up r.1 6 (upd (r.1 6) (r.2.1 3).toNatClampNeg a1)) 7 (upd (r.1 7) (r.2.1 3).toNatClampNeg a2)) 9 (upd (r.1 9) (r.2.1 3).toNatClampNeg 0)) 10 (upd (r.1 10) (r.2.1 3).toNatClampNeg (-1))) (va_up r.2.1 3 ((r.2.1 3) + 1)) (va_up r.2.2 8 (vp_updL (r.2.2 8) (r.2.1 3).toNatClampNeg 0))) wR_s10 ?_
  refine j_aload_n (pc := 50) C d_Mo_makeToken_50 rfl 0 rfl ?_
  refine j_get (pc := 51) C d_Mo_makeToken_51 0 15 wR_o0 rfl (v := .ref (ar 12)) rfl (by decide) tw957 ?_
  refine j_iload_n (pc := 54) C d_Mo_makeToken_54 rfl 3 rfl ?_
  refine j_iconst (pc := 55) C d_Mo_makeToken_55 ck_0 ?_
  obtain ⟨b6, hf⟩ := og hf
  refine j_iast (pc := 56) C d_Mo_makeToken_56 12 (inb_in b6) wR_a12 (ws' := wR g ar (va_up (va_up (va_up (va_up (va_up r.1 6 (upd (r.1 6) (r.2.1 3).toNatClampNeg a1)) 7 (upd (r.1 7) (r.2.1 3).toNatClampNeg a2)) 9 (upd (r.1 9) (r.2.1 3).toNatClampNeg 0)) 10 (upd (r.1 10) (r.2.1 3).toNatClampNeg (-1))) 12 (upd (r.1 12) (r.2.1 3).toNatClampNeg 0)) (va_up r.2.1 3 ((r.2.1 3) + 1)) (va_up r.2.2 8 (vp_updL (r.2.2 8) (r.2.1 3).toNatClampNeg 0))) wR_s12 ?_
  refine j_aload_n (pc := 57) C d_Mo_makeToken_57 rfl 0 rfl ?_
  refine j_get (pc := 58) C d_Mo_makeToken_58 0 17 wR_o0 rfl (v := .ref (ar 14)) rfl (by decide) tw959 ?_
  refine j_iload_n (pc := 61) C d_Mo_makeToken_61 rfl 3 rfl ?_
  refine j_iconst (pc := 62) C d_Mo_makeToken_62 ck_0 ?_
  obtain ⟨b7, hf⟩ := og hf
  refine j_iast (pc := 63) C d_Mo_makeToken_63 14 (inb_in b7) wR_a14 (ws' := wR g ar (va_up (va_up (va_up (va_up (va_up (va_up r.1 6 (upd (r.1 6) (r.2.1 3).toNatClampNeg a1)) 7 (upd (r.1 7) (r.2.1 3).toNatClampNeg a2)) 9 (upd (r.1 9) (r.2.1 3).toNatClampNeg 0)) 10 (upd (r.1 10) (r.2.1 3).toNatClampNeg (-1))) 12 (upd (r.1 12) (r.2.1 3).toNatClampNeg 0)) 14 (upd (r.1 14) (r.2.1 3).toNatClampNeg 0)) (va_up r.2.1 3 ((r.2.1 3) + 1)) (va_up r.2.2 8 (vp_updL (r.2.2 8) (r.2.1 3).toNatClampNeg 0))) wR_s14 ?_
  refine j_aload_n (pc := 64) C d_Mo_makeToken_64 rfl 0 rfl ?_
  refine j_get (pc := 65) C d_Mo_makeToken_65 0 18 wR_o0 rfl (v := .ref (ar 15)) rfl (by decide) tw960 ?_
  refine j_iload_n (pc := 68) C d_Mo_makeToken_68 rfl 3 rfl ?_
  refine j_iconst (pc := 69) C d_Mo_makeToken_69 ck_0 ?_
  obtain ⟨b8, hf⟩ := og hf
  refine j_iast (pc := 70) C d_Mo_makeToken_70 15 (inb_in b8) wR_a15 (ws' := wR g ar (va_up (va_up (va_up (va_up (va_up (va_up (va_up r.1 6 (upd (r.1 6) (r.2.1 3).toNatClampNeg a1)) 7 (upd (r.1 7) (r.2.1 3).toNatClampNeg a2)) 9 (upd (r.1 9) (r.2.1 3).toNatClampNeg 0)) 10 (upd (r.1 10) (r.2.1 3).toNatClampNeg (-1))) 12 (upd (r.1 12) (r.2.1 3).toNatClampNeg 0)) 14 (upd (r.1 14) (r.2.1 3).toNatClampNeg 0)) 15 (upd (r.1 15) (r.2.1 3).toNatClampNeg 0)) (va_up r.2.1 3 ((r.2.1 3) + 1)) (va_up r.2.2 8 (vp_updL (r.2.2 8) (r.2.1 3).toNatClampNeg 0))) wR_s15 ?_
  refine j_aload_n (pc := 71) C d_Mo_makeToken_71 rfl 0 rfl ?_
  refine j_get (pc := 72) C d_Mo_makeToken_72 0 2 wR_o0 rfl (v := .ref (ar 2)) rfl (by decide) tw944 ?_
  refine j_iload_n (pc := 75) C d_Mo_makeToken_75 rfl 1 rfl ?_
  obtain ⟨b9, hf⟩ := og hf
  refine j_iald (pc := 76) C d_Mo_makeToken_76 2 (inb_in b9) (x := r.1 2 a1.toNatClampNeg) wR_a2 rfl ?_
  refine j_istore (pc := 77) C d_Mo_makeToken_77 [1, 2, 3, 4, 0] (by decide) (lc' := [(0, .ref (ar 0)), (1, .int a1), (2, .int a2), (3, .int (r.2.1 3)), (4, .int (r.1 2 a1.toNatClampNeg))]) rfl ?_
  refine j_iload (pc := 79) C d_Mo_makeToken_79 4 rfl ?_
  obtain ⟨q10, eq10, hf⟩ := ob hf
  refine j_callSi (pc := 81) C (rest := []) d_Mo_makeToken_81 (c_Mo_isLetter (g := g)  eq10) cv_Mo_isLetter tw1155 cut_none rfl rfl (Nat.le_of_ble_eq_true rfl) (kc2 := 0) (ks2 := 0) (by decide) ?_
  refine j_if_eq (pc := 84) C d_Mo_makeToken_84 (tgt := 189) rfl (fun h11 => ?_) (fun h11 => ?_)
  · rw [if_pos h11] at hf
    refine j_iload (pc := 189) C d_Mo_makeToken_189 4 rfl ?_
    obtain ⟨q12, eq12, hf⟩ := ob hf
    refine j_callSi (pc := 191) C (rest := []) d_Mo_makeToken_191 (c_Mo_isDigit (g := g)  eq12) cv_Mo_isDigit tw1162 cut_none rfl rfl (Nat.le_of_ble_eq_true rfl) (kc2 := 0) (ks2 := 0) (by decide) ?_
    refine j_if_eq (pc := 194) C d_Mo_makeToken_194 (tgt := 269) rfl (fun h13 => ?_) (fun h13 => ?_)
    · rw [if_pos h13] at hf
      refine j_aload_n (pc := 269) C d_Mo_makeToken_269 rfl 0 rfl ?_
      refine j_get (pc := 270) C d_Mo_makeToken_270 0 8 wR_o0 rfl (v := .ref (ar 5)) rfl (by decide) tw950 ?_
      refine j_iload_n (pc := 273) C d_Mo_makeToken_273 rfl 3 rfl ?_
      refine j_iload (pc := 274) C d_Mo_makeToken_274 4 rfl ?_
      obtain ⟨q14, eq14, hf⟩ := ob hf
      refine j_callSi (pc := 276) C (rest := [.int (r.2.1 3), .ref (ar 5)]) d_Mo_makeToken_276 (c_Mo_isSign (g := g)  eq14) cv_Mo_isSign tw1175 cut_none rfl rfl (Nat.le_of_ble_eq_true rfl) (kc2 := 0) (ks2 := 0) (by decide) ?_
      refine j_if_eq (pc := 279) C d_Mo_makeToken_279 (tgt := 286) rfl (fun h15 => ?_) (fun h15 => ?_)
      · rw [if_pos h15] at hf
        refine j_iconst (pc := 286) C d_Mo_makeToken_286 ck_5 ?_
        obtain ⟨b16, hf⟩ := og hf
        refine j_iast (pc := 287) C d_Mo_makeToken_287 5 (inb_in b16) wR_a5 (ws' := wR g ar (va_up (va_up (va_up (va_up (va_up (va_up (va_up (va_up r.1 6 (upd (r.1 6) (r.2.1 3).toNatClampNeg a1)) 7 (upd (r.1 7) (r.2.1 3).toNatClampNeg a2)) 9 (upd (r.1 9) (r.2.1 3).toNatClampNeg 0)) 10 (upd (r.1 10) (r.2.1 3).toNatClampNeg (-1))) 12 (upd (r.1 12) (r.2.1 3).toNatClampNeg 0)) 14 (upd (r.1 14) (r.2.1 3).toNatClampNeg 0)) 15 (upd (r.1 15) (r.2.1 3).toNatClampNeg 0)) 5 (upd (r.1 5) (r.2.1 3).toNatClampNeg 5)) (va_up r.2.1 3 ((r.2.1 3) + 1)) (va_up r.2.2 8 (vp_updL (r.2.2 8) (r.2.1 3).toNatClampNeg 0))) wR_s5 ?_
        cases hf
        exact j_vret (pc := 288) C d_Mo_makeToken_288 ⟨rfl, rfl⟩ (Nat.le_of_ble_eq_true rfl) (Nat.le_of_ble_eq_true rfl)
      · rw [if_neg h15] at hf
        refine j_iconst (pc := 282) C d_Mo_makeToken_282 ck_4 ?_
        refine j_goto (pc := 283) C d_Mo_makeToken_283 (tgt := 287) rfl ?_
        obtain ⟨b17, hf⟩ := og hf
        refine j_iast (pc := 287) C d_Mo_makeToken_287 5 (inb_in b17) wR_a5 (ws' := wR g ar (va_up (va_up (va_up (va_up (va_up (va_up (va_up (va_up r.1 6 (upd (r.1 6) (r.2.1 3).toNatClampNeg a1)) 7 (upd (r.1 7) (r.2.1 3).toNatClampNeg a2)) 9 (upd (r.1 9) (r.2.1 3).toNatClampNeg 0)) 10 (upd (r.1 10) (r.2.1 3).toNatClampNeg (-1))) 12 (upd (r.1 12) (r.2.1 3).toNatClampNeg 0)) 14 (upd (r.1 14) (r.2.1 3).toNatClampNeg 0)) 15 (upd (r.1 15) (r.2.1 3).toNatClampNeg 0)) 5 (upd (r.1 5) (r.2.1 3).toNatClampNeg 4)) (va_up r.2.1 3 ((r.2.1 3) + 1)) (va_up r.2.2 8 (vp_updL (r.2.2 8) (r.2.1 3).toNatClampNeg 0))) wR_s5 ?_
        cases hf
        exact j_vret (pc := 288) C d_Mo_makeToken_288 ⟨rfl, rfl⟩ (Nat.le_of_ble_eq_true rfl) (Nat.le_of_ble_eq_true rfl)
    · rw [if_neg h13] at hf
      refine j_aload_n (pc := 197) C d_Mo_makeToken_197 rfl 0 rfl ?_
      refine j_get (pc := 198) C d_Mo_makeToken_198 0 8 wR_o0 rfl (v := .ref (ar 5)) rfl (by decide) tw950 ?_
      refine j_iload_n (pc := 201) C d_Mo_makeToken_201 rfl 3 rfl ?_
      refine j_iload_n (pc := 202) C d_Mo_makeToken_202 rfl 2 rfl ?_
      refine j_iload_n (pc := 203) C d_Mo_makeToken_203 rfl 1 rfl ?_
      refine j_isub (pc := 204) C d_Mo_makeToken_204 ?_
      refine j_iconst (pc := 205) C d_Mo_makeToken_205 ck_4 ?_
      refine j_icmp_gt (pc := 206) C d_Mo_makeToken_206 (tgt := 213) rfl (fun h18 => ?_) (fun h18 => ?_)
      · rw [if_pos h18] at hf
        refine j_iconst (pc := 213) C d_Mo_makeToken_213 ck_5 ?_
        obtain ⟨b19, hf⟩ := og hf
        refine j_iast (pc := 214) C d_Mo_makeToken_214 5 (inb_in b19) wR_a5 (ws' := wR g ar (va_up (va_up (va_up (va_up (va_up (va_up (va_up (va_up r.1 6 (upd (r.1 6) (r.2.1 3).toNatClampNeg a1)) 7 (upd (r.1 7) (r.2.1 3).toNatClampNeg a2)) 9 (upd (r.1 9) (r.2.1 3).toNatClampNeg 0)) 10 (upd (r.1 10) (r.2.1 3).toNatClampNeg (-1))) 12 (upd (r.1 12) (r.2.1 3).toNatClampNeg 0)) 14 (upd (r.1 14) (r.2.1 3).toNatClampNeg 0)) 15 (upd (r.1 15) (r.2.1 3).toNatClampNeg 0)) 5 (upd (r.1 5) (r.2.1 3).toNatClampNeg 5)) (va_up r.2.1 3 ((r.2.1 3) + 1)) (va_up r.2.2 8 (vp_updL (r.2.2 8) (r.2.1 3).toNatClampNeg 0))) wR_s5 ?_
        refine j_iload_n (pc := 215) C d_Mo_makeToken_215 rfl 1 rfl ?_
        refine j_istore (pc := 216) C d_Mo_makeToken_216 [1, 2, 3, 4, 5, 0] (by decide) (lc' := [(0, .ref (ar 0)), (1, .int a1), (2, .int a2), (3, .int (r.2.1 3)), (4, .int (r.1 2 a1.toNatClampNeg)), (5, .int a1)]) rfl ?_
        exact L218 100000 (a1, a2, r.2.1 3, r.1 2 a1.toNatClampNeg, a1, ((va_up (va_up (va_up (va_up (va_up (va_up (va_up (va_up r.1 6 (upd (r.1 6) (r.2.1 3).toNatClampNeg a1)) 7 (upd (r.1 7) (r.2.1 3).toNatClampNeg a2)) 9 (upd (r.1 9) (r.2.1 3).toNatClampNeg 0)) 10 (upd (r.1 10) (r.2.1 3).toNatClampNeg (-1))) 12 (upd (r.1 12) (r.2.1 3).toNatClampNeg 0)) 14 (upd (r.1 14) (r.2.1 3).toNatClampNeg 0)) 15 (upd (r.1 15) (r.2.1 3).toNatClampNeg 0)) 5 (upd (r.1 5) (r.2.1 3).toNatClampNeg 5)), (va_up r.2.1 3 ((r.2.1 3) + 1)), (va_up r.2.2 8 (vp_updL (r.2.2 8) (r.2.1 3).toNatClampNeg 0)))) hf
      · rw [if_neg h18] at hf
        refine j_iconst (pc := 209) C d_Mo_makeToken_209 ck_3 ?_
        refine j_goto (pc := 210) C d_Mo_makeToken_210 (tgt := 214) rfl ?_
        obtain ⟨b27, hf⟩ := og hf
        refine j_iast (pc := 214) C d_Mo_makeToken_214 5 (inb_in b27) wR_a5 (ws' := wR g ar (va_up (va_up (va_up (va_up (va_up (va_up (va_up (va_up r.1 6 (upd (r.1 6) (r.2.1 3).toNatClampNeg a1)) 7 (upd (r.1 7) (r.2.1 3).toNatClampNeg a2)) 9 (upd (r.1 9) (r.2.1 3).toNatClampNeg 0)) 10 (upd (r.1 10) (r.2.1 3).toNatClampNeg (-1))) 12 (upd (r.1 12) (r.2.1 3).toNatClampNeg 0)) 14 (upd (r.1 14) (r.2.1 3).toNatClampNeg 0)) 15 (upd (r.1 15) (r.2.1 3).toNatClampNeg 0)) 5 (upd (r.1 5) (r.2.1 3).toNatClampNeg 3)) (va_up r.2.1 3 ((r.2.1 3) + 1)) (va_up r.2.2 8 (vp_updL (r.2.2 8) (r.2.1 3).toNatClampNeg 0))) wR_s5 ?_
        refine j_iload_n (pc := 215) C d_Mo_makeToken_215 rfl 1 rfl ?_
        refine j_istore (pc := 216) C d_Mo_makeToken_216 [1, 2, 3, 4, 5, 0] (by decide) (lc' := [(0, .ref (ar 0)), (1, .int a1), (2, .int a2), (3, .int (r.2.1 3)), (4, .int (r.1 2 a1.toNatClampNeg)), (5, .int a1)]) rfl ?_
        exact L218 100000 (a1, a2, r.2.1 3, r.1 2 a1.toNatClampNeg, a1, ((va_up (va_up (va_up (va_up (va_up (va_up (va_up (va_up r.1 6 (upd (r.1 6) (r.2.1 3).toNatClampNeg a1)) 7 (upd (r.1 7) (r.2.1 3).toNatClampNeg a2)) 9 (upd (r.1 9) (r.2.1 3).toNatClampNeg 0)) 10 (upd (r.1 10) (r.2.1 3).toNatClampNeg (-1))) 12 (upd (r.1 12) (r.2.1 3).toNatClampNeg 0)) 14 (upd (r.1 14) (r.2.1 3).toNatClampNeg 0)) 15 (upd (r.1 15) (r.2.1 3).toNatClampNeg 0)) 5 (upd (r.1 5) (r.2.1 3).toNatClampNeg 3)), (va_up r.2.1 3 ((r.2.1 3) + 1)), (va_up r.2.2 8 (vp_updL (r.2.2 8) (r.2.1 3).toNatClampNeg 0)))) hf
  · rw [if_neg h11] at hf
    refine j_iload_n (pc := 87) C d_Mo_makeToken_87 rfl 2 rfl ?_
    refine j_iload_n (pc := 88) C d_Mo_makeToken_88 rfl 1 rfl ?_
    refine j_isub (pc := 89) C d_Mo_makeToken_89 ?_
    refine j_bipush (pc := 90) C d_Mo_makeToken_90 cb_6 ?_
    refine j_icmp_gt (pc := 92) C d_Mo_makeToken_92 (tgt := 99) rfl (fun h28 => ?_) (fun h28 => ?_)
    · rw [if_pos h28] at hf
      refine j_iconst (pc := 99) C d_Mo_makeToken_99 ck_0 ?_
      refine j_istore (pc := 100) C d_Mo_makeToken_100 [1, 2, 3, 4, 5, 0] (by decide) (lc' := [(0, .ref (ar 0)), (1, .int a1), (2, .int a2), (3, .int (r.2.1 3)), (4, .int (r.1 2 a1.toNatClampNeg)), (5, .int 0)]) rfl ?_
      refine j_iload_n (pc := 102) C d_Mo_makeToken_102 rfl 1 rfl ?_
      refine j_istore (pc := 103) C d_Mo_makeToken_103 [1, 2, 3, 4, 5, 6, 0] (by decide) (lc' := [(0, .ref (ar 0)), (1, .int a1), (2, .int a2), (3, .int (r.2.1 3)), (4, .int (r.1 2 a1.toNatClampNeg)), (5, .int 0), (6, .int a1)]) rfl ?_
      exact L105 100000 (a1, a2, r.2.1 3, r.1 2 a1.toNatClampNeg, 0, a1, ((va_up (va_up (va_up (va_up (va_up (va_up (va_up r.1 6 (upd (r.1 6) (r.2.1 3).toNatClampNeg a1)) 7 (upd (r.1 7) (r.2.1 3).toNatClampNeg a2)) 9 (upd (r.1 9) (r.2.1 3).toNatClampNeg 0)) 10 (upd (r.1 10) (r.2.1 3).toNatClampNeg (-1))) 12 (upd (r.1 12) (r.2.1 3).toNatClampNeg 0)) 14 (upd (r.1 14) (r.2.1 3).toNatClampNeg 0)) 15 (upd (r.1 15) (r.2.1 3).toNatClampNeg 0)), (va_up r.2.1 3 ((r.2.1 3) + 1)), (va_up r.2.2 8 (vp_updL (r.2.2 8) (r.2.1 3).toNatClampNeg 0)))) hf
    · rw [if_neg h28] at hf
      refine j_iconst (pc := 95) C d_Mo_makeToken_95 ck_1 ?_
      refine j_goto (pc := 96) C d_Mo_makeToken_96 (tgt := 100) rfl ?_
      refine j_istore (pc := 100) C d_Mo_makeToken_100 [1, 2, 3, 4, 5, 0] (by decide) (lc' := [(0, .ref (ar 0)), (1, .int a1), (2, .int a2), (3, .int (r.2.1 3)), (4, .int (r.1 2 a1.toNatClampNeg)), (5, .int 1)]) rfl ?_
      refine j_iload_n (pc := 102) C d_Mo_makeToken_102 rfl 1 rfl ?_
      refine j_istore (pc := 103) C d_Mo_makeToken_103 [1, 2, 3, 4, 5, 6, 0] (by decide) (lc' := [(0, .ref (ar 0)), (1, .int a1), (2, .int a2), (3, .int (r.2.1 3)), (4, .int (r.1 2 a1.toNatClampNeg)), (5, .int 1), (6, .int a1)]) rfl ?_
      exact L105 100000 (a1, a2, r.2.1 3, r.1 2 a1.toNatClampNeg, 1, a1, ((va_up (va_up (va_up (va_up (va_up (va_up (va_up r.1 6 (upd (r.1 6) (r.2.1 3).toNatClampNeg a1)) 7 (upd (r.1 7) (r.2.1 3).toNatClampNeg a2)) 9 (upd (r.1 9) (r.2.1 3).toNatClampNeg 0)) 10 (upd (r.1 10) (r.2.1 3).toNatClampNeg (-1))) 12 (upd (r.1 12) (r.2.1 3).toNatClampNeg 0)) 14 (upd (r.1 14) (r.2.1 3).toNatClampNeg 0)) 15 (upd (r.1 15) (r.2.1 3).toNatClampNeg 0)), (va_up r.2.1 3 ((r.2.1 3) + 1)), (va_up r.2.2 8 (vp_updL (r.2.2 8) (r.2.1 3).toNatClampNeg 0)))) hf
abbrev rm_Mo_scan : Room := { frames := 2, cells := 0, slots := 0, locals := 49 }
theorem cv_Mo_scan : CV y_Mo_scan b_Mo_scan 4 none 0 := ⟨⟨tw1154, tw10, by decide +kernel⟩, tw1153, (sw_ (q := (y_Mo_scan, 54)) (by decide +kernel) (by decide +kernel))⟩
set_option maxHeartbeats 4000000 in
set_option maxRecDepth 100000 in
theorem c_Mo_scan {g : GT} {ar : Nat → Nat} {r : RS} {q : RS} (hf : f_Mo_scan r = some q) : MV g y_Mo_scan b_Mo_scan 4 none rm_Mo_scan [.ref (ar 0)] (wR g ar r.1 r.2.1 r.2.2) (wR g ar q.1 q.2.1 q.2.2) := by
  refine MV.of (by decide) (Nat.le_of_ble_eq_true rfl) (fun 𝒥 C => ?_)
  have L7 : ∀ (n : Nat) (x : Int32 × RS), lpN (BMo_scan_7) n x = some q → 𝒥 0 0 (wR g ar x.2.1 x.2.2.1 x.2.2.2) [(0, .ref (ar 0)), (1, .int x.1)] [] 7 := by
    refine lp_ind (fun k7 k7_ih x hf => ?_)
    unfold BMo_scan_7 at hf
    refine j_iload_n (pc := 7) C d_Mo_scan_7 rfl 1 rfl ?_
    refine j_aload_n (pc := 8) C d_Mo_scan_8 rfl 0 rfl ?_
    refine j_get (pc := 9) C d_Mo_scan_9 0 3 wR_o0 rfl (v := .int (x.2.2.1 1)) rfl (by decide) tw945 ?_
    refine j_icmp_ge (pc := 12) C d_Mo_scan_12 (tgt := 81) rfl (fun h1 => ?_) (fun h1 => ?_)
    · rw [if_pos h1] at hf
      cases hf
      exact j_vret (pc := 81) C d_Mo_scan_81 ⟨rfl, rfl⟩ (Nat.le_of_ble_eq_true rfl) (Nat.le_of_ble_eq_true rfl)
    · rw [if_neg h1] at hf
      refine j_aload_n (pc := 15) C d_Mo_scan_15 rfl 0 rfl ?_
      refine j_get (pc := 16) C d_Mo_scan_16 0 2 wR_o0 rfl (v := .ref (ar 2)) rfl (by decide) tw944 ?_
      refine j_iload_n (pc := 19) C d_Mo_scan_19 rfl 1 rfl ?_
      obtain ⟨b2, hf⟩ := og hf
      refine j_iald (pc := 20) C d_Mo_scan_20 2 (inb_in b2) (x := x.2.1 2 x.1.toNatClampNeg) wR_a2 rfl ?_
      refine j_istore_n (pc := 21) C d_Mo_scan_21 rfl [1, 2, 0] (by decide) (lc' := [(0, .ref (ar 0)), (1, .int x.1), (2, .int (x.2.1 2 x.1.toNatClampNeg))]) rfl ?_
      refine j_iload_n (pc := 22) C d_Mo_scan_22 rfl 2 rfl ?_
      refine j_bipush (pc := 23) C d_Mo_scan_23 cb_32 ?_
      refine j_icmp_ne (pc := 25) C d_Mo_scan_25 (tgt := 34) rfl (fun h3 => ?_) (fun h3 => ?_)
      · rw [if_neg h3] at hf
        refine j_iload_n (pc := 34) C d_Mo_scan_34 rfl 2 rfl ?_
        obtain ⟨q4, eq4, hf⟩ := ob hf
        refine j_callSi (pc := 35) C (rest := []) d_Mo_scan_35 (c_Mo_isLetter (g := g)  eq4) cv_Mo_isLetter tw1155 cut_none rfl rfl (Nat.le_of_ble_eq_true rfl) (kc2 := 0) (ks2 := 0) (by decide) ?_
        refine j_if_eq (pc := 38) C d_Mo_scan_38 (tgt := 50) rfl (fun h5 => ?_) (fun h5 => ?_)
        · rw [if_pos h5] at hf
          refine j_iload_n (pc := 50) C d_Mo_scan_50 rfl 2 rfl ?_
          obtain ⟨q6, eq6, hf⟩ := ob hf
          refine j_callSi (pc := 51) C (rest := []) d_Mo_scan_51 (c_Mo_isDigit (g := g)  eq6) cv_Mo_isDigit tw1162 cut_none rfl rfl (Nat.le_of_ble_eq_true rfl) (kc2 := 0) (ks2 := 0) (by decide) ?_
          refine j_if_eq (pc := 54) C d_Mo_scan_54 (tgt := 66) rfl (fun h7 => ?_) (fun h7 => ?_)
          · rw [if_pos h7] at hf
            refine j_iload_n (pc := 66) C d_Mo_scan_66 rfl 1 rfl ?_
            refine j_iconst (pc := 67) C d_Mo_scan_67 ck_1 ?_
            refine j_iadd (pc := 68) C d_Mo_scan_68 ?_
            refine j_istore_n (pc := 69) C d_Mo_scan_69 rfl [1, 2, 3, 0] (by decide) (lc' := [(0, .ref (ar 0)), (1, .int x.1), (2, .int (x.2.1 2 x.1.toNatClampNeg)), (3, .int (x.1 + 1))]) rfl ?_
            refine j_aload_n (pc := 70) C d_Mo_scan_70 rfl 0 rfl ?_
            refine j_iload_n (pc := 71) C d_Mo_scan_71 rfl 1 rfl ?_
            refine j_iload_n (pc := 72) C d_Mo_scan_72 rfl 3 rfl ?_
            obtain ⟨q8, eq8, hf⟩ := ob hf
            refine j_callVv (pc := 73) C (rest := []) d_Mo_scan_73 (c_Mo_makeToken (g := g) (ar := ar) eq8) cv_Mo_makeToken tw1165 0 rfl rfl cut_same rfl rfl (Nat.le_of_ble_eq_true rfl) (kc2 := 0) (ks2 := 0) (by decide) ?_
            refine j_iload_n (pc := 76) C d_Mo_scan_76 rfl 3 rfl ?_
            refine j_istore_n (pc := 77) C d_Mo_scan_77 rfl [1, 0, 2, 3] (by decide) (lc' := [(0, .ref (ar 0)), (1, .int (x.1 + 1)), (2, .int (x.2.1 2 x.1.toNatClampNeg)), (3, .int (x.1 + 1))]) rfl ?_
            refine j_goto (pc := 78) C d_Mo_scan_78 (tgt := 7) rfl ?_
            refine j_lc C (lc' := [(0, .ref (ar 0)), (1, .int (x.1 + 1))]) [0, 1] rfl ?_
            exact k7_ih (x.1 + 1, q8) hf
          · rw [if_neg h7] at hf
            refine j_aload_n (pc := 57) C d_Mo_scan_57 rfl 0 rfl ?_
            refine j_iload_n (pc := 58) C d_Mo_scan_58 rfl 1 rfl ?_
            refine j_iconst (pc := 59) C d_Mo_scan_59 ck_0 ?_
            obtain ⟨q9, eq9, hf⟩ := ob hf
            refine j_callVi (pc := 60) C (rest := []) d_Mo_scan_60 (c_Mo_behindRun (g := g) (ar := ar) eq9) cv_Mo_behindRun tw1158 0 rfl rfl cut_same rfl rfl (Nat.le_of_ble_eq_true rfl) (kc2 := 0) (ks2 := 0) (by decide) ?_
            refine j_goto (pc := 63) C d_Mo_scan_63 (tgt := 69) rfl ?_
            refine j_istore_n (pc := 69) C d_Mo_scan_69 rfl [1, 2, 3, 0] (by decide) (lc' := [(0, .ref (ar 0)), (1, .int x.1), (2, .int (x.2.1 2 x.1.toNatClampNeg)), (3, .int q9.1)]) rfl ?_
            refine j_aload_n (pc := 70) C d_Mo_scan_70 rfl 0 rfl ?_
            refine j_iload_n (pc := 71) C d_Mo_scan_71 rfl 1 rfl ?_
            refine j_iload_n (pc := 72) C d_Mo_scan_72 rfl 3 rfl ?_
            obtain ⟨q10, eq10, hf⟩ := ob hf
            refine j_callVv (pc := 73) C (rest := []) d_Mo_scan_73 (c_Mo_makeToken (g := g) (ar := ar) eq10) cv_Mo_makeToken tw1165 0 rfl rfl cut_same rfl rfl (Nat.le_of_ble_eq_true rfl) (kc2 := 0) (ks2 := 0) (by decide) ?_
            refine j_iload_n (pc := 76) C d_Mo_scan_76 rfl 3 rfl ?_
            refine j_istore_n (pc := 77) C d_Mo_scan_77 rfl [1, 0, 2, 3] (by decide) (lc' := [(0, .ref (ar 0)), (1, .int q9.1), (2, .int (x.2.1 2 x.1.toNatClampNeg)), (3, .int q9.1)]) rfl ?_
            refine j_goto (pc := 78) C d_Mo_scan_78 (tgt := 7) rfl ?_
            refine j_lc C (lc' := [(0, .ref (ar 0)), (1, .int q9.1)]) [0, 1] rfl ?_
            exact k7_ih (q9.1, q10) hf
        · rw [if_neg h5] at hf
          refine j_aload_n (pc := 41) C d_Mo_scan_41 rfl 0 rfl ?_
          refine j_iload_n (pc := 42) C d_Mo_scan_42 rfl 1 rfl ?_
          refine j_iconst (pc := 43) C d_Mo_scan_43 ck_1 ?_
          obtain ⟨q11, eq11, hf⟩ := ob hf
          refine j_callVi (pc := 44) C (rest := []) d_Mo_scan_44 (c_Mo_behindRun (g := g) (ar := ar) eq11) cv_Mo_behindRun tw1158 0 rfl rfl cut_same rfl rfl (Nat.le_of_ble_eq_true rfl) (kc2 := 0) (ks2 := 0) (by decide) ?_
          refine j_goto (pc := 47) C d_Mo_scan_47 (tgt := 69) rfl ?_
          refine j_istore_n (pc := 69) C d_Mo_scan_69 rfl [1, 2, 3, 0] (by decide) (lc' := [(0, .ref (ar 0)), (1, .int x.1), (2, .int (x.2.1 2 x.1.toNatClampNeg)), (3, .int q11.1)]) rfl ?_
          refine j_aload_n (pc := 70) C d_Mo_scan_70 rfl 0 rfl ?_
          refine j_iload_n (pc := 71) C d_Mo_scan_71 rfl 1 rfl ?_
          refine j_iload_n (pc := 72) C d_Mo_scan_72 rfl 3 rfl ?_
          obtain ⟨q12, eq12, hf⟩ := ob hf
          refine j_callVv (pc := 73) C (rest := []) d_Mo_scan_73 (c_Mo_makeToken (g := g) (ar := ar) eq12) cv_Mo_makeToken tw1165 0 rfl rfl cut_same rfl rfl (Nat.le_of_ble_eq_true rfl) (kc2 := 0) (ks2 := 0) (by decide) ?_
          refine j_iload_n (pc := 76) C d_Mo_scan_76 rfl 3 rfl ?_
          refine j_istore_n (pc := 77) C d_Mo_scan_77 rfl [1, 0, 2, 3] (by decide) (lc' := [(0, .ref (ar 0)), (1, .int q11.1), (2, .int (x.2.1 2 x.1.toNatClampNeg)), (3, .int q11.1)]) rfl ?_
          refine j_goto (pc := 78) C d_Mo_scan_78 (tgt := 7) rfl ?_
          refine j_lc C (lc' := [(0, .ref (ar 0)), (1, .int q11.1)]) [0, 1] rfl ?_
          exact k7_ih (q11.1, q12) hf
      · rw [if_pos h3] at hf
        refine j_iinc (pc := 28) C d_Mo_scan_28 1 rfl (v := x.1 + 1) (iv ci_1) [1, 0, 2] (by decide) (lc' := [(0, .ref (ar 0)), (1, .int (x.1 + 1)), (2, .int (x.2.1 2 x.1.toNatClampNeg))]) rfl ?_
        refine j_goto (pc := 31) C d_Mo_scan_31 (tgt := 78) rfl ?_
        refine j_goto (pc := 78) C d_Mo_scan_78 (tgt := 7) rfl ?_
        refine j_lc C (lc' := [(0, .ref (ar 0)), (1, .int (x.1 + 1))]) [0, 1] rfl ?_
        exact k7_ih (x.1 + 1, x.2) hf
  unfold f_Mo_scan at hf
  change 𝒥 0 0 (wR g ar r.1 r.2.1 r.2.2) [(0, .ref (ar 0))] [] 0
  refine j_aload_n (pc := 0) C d_Mo_scan_0 rfl 0 rfl ?_
  refine j_iconst (pc := 1) C d_Mo_scan_1 ck_0 ?_
  refine j_put (pc := 2) C d_Mo_scan_2 0 7 wR_o0 rfl (by decide) tw949 pd_I rfl rfl rfl (Nat.le_of_ble_eq_true rfl) (ws' := wR g ar r.1 (va_up r.2.1 3 0) r.2.2) wR_p0_7 ?_
  refine j_iconst (pc := 5) C d_Mo_scan_5 ck_0 ?_
  refine j_istore_n (pc := 6) C d_Mo_scan_6 rfl [1, 0] (by decide) (lc' := [(0, .ref (ar 0)), (1, .int 0)]) rfl ?_
  exact L7 100000 (0, (r.1, (va_up r.2.1 3 0), r.2.2)) hf
abbrev rm_Mo_is : Room := { frames := 0, cells := 0, slots := 0, locals := 0 }
theorem cv_Mo_is : CV y_Mo_is b_Mo_is 3 (some .boolean) 2 := ⟨⟨tw1201, tw10, by decide +kernel⟩, tw1200, (sw_ (q := (y_Mo_is, 54)) (by decide +kernel) (by decide +kernel))⟩
set_option maxHeartbeats 4000000 in
set_option maxRecDepth 100000 in
theorem c_Mo_is {g : GT} {ar : Nat → Nat} {a1 : Int32} {a2 : Int32} {r : RS} {q : Int32 × RS} (hf : f_Mo_is a1 a2 r = some q) : MI g y_Mo_is b_Mo_is 3 (some .boolean) rm_Mo_is [.ref (ar 0), .int a1, .int a2] (wR g ar r.1 r.2.1 r.2.2) q.1 (wR g ar q.2.1 q.2.2.1 q.2.2.2) := by
  refine MI.of (by decide) (Nat.le_of_ble_eq_true rfl) (fun 𝒥 C => ?_)
  unfold f_Mo_is at hf
  change 𝒥 0 0 (wR g ar r.1 r.2.1 r.2.2) [(0, .ref (ar 0)), (1, .int a1), (2, .int a2)] [] 0
  refine j_aload_n (pc := 0) C d_Mo_is_0 rfl 0 rfl ?_
  refine j_get (pc := 1) C d_Mo_is_1 0 8 wR_o0 rfl (v := .ref (ar 5)) rfl (by decide) tw950 ?_
  refine j_iload_n (pc := 4) C d_Mo_is_4 rfl 1 rfl ?_
  obtain ⟨b1, hf⟩ := og hf
  refine j_iald (pc := 5) C d_Mo_is_5 5 (inb_in b1) (x := r.1 5 a1.toNatClampNeg) wR_a5 rfl ?_
  refine j_iconst (pc := 6) C d_Mo_is_6 ck_4 ?_
  refine j_icmp_ne (pc := 7) C d_Mo_is_7 (tgt := 29) rfl (fun h2 => ?_) (fun h2 => ?_)
  · rw [if_neg h2] at hf
    refine j_iconst (pc := 29) C d_Mo_is_29 ck_0 ?_
    cases hf
    exact j_zret (pc := 30) C d_Mo_is_30 rfl ⟨rfl, rfl⟩ (Nat.le_of_ble_eq_true rfl) (Nat.le_of_ble_eq_true rfl)
  · rw [if_pos h2] at hf
    refine j_aload_n (pc := 10) C d_Mo_is_10 rfl 0 rfl ?_
    refine j_get (pc := 11) C d_Mo_is_11 0 2 wR_o0 rfl (v := .ref (ar 2)) rfl (by decide) tw944 ?_
    refine j_aload_n (pc := 14) C d_Mo_is_14 rfl 0 rfl ?_
    refine j_get (pc := 15) C d_Mo_is_15 0 9 wR_o0 rfl (v := .ref (ar 6)) rfl (by decide) tw951 ?_
    refine j_iload_n (pc := 18) C d_Mo_is_18 rfl 1 rfl ?_
    obtain ⟨b3, hf⟩ := og hf
    refine j_iald (pc := 19) C d_Mo_is_19 6 (inb_in b3) (x := r.1 6 a1.toNatClampNeg) wR_a6 rfl ?_
    obtain ⟨b4, hf⟩ := og hf
    refine j_iald (pc := 20) C d_Mo_is_20 2 (inb_in b4) (x := r.1 2 (r.1 6 a1.toNatClampNeg).toNatClampNeg) wR_a2 rfl ?_
    refine j_topi C (fun v5 ev5 => ?_)
    replace hf := ov ev5 hf
    refine j_iload_n (pc := 21) C d_Mo_is_21 rfl 2 rfl ?_
    refine j_icmp_ne (pc := 22) C d_Mo_is_22 (tgt := 29) rfl (fun h6 => ?_) (fun h6 => ?_)
    · rw [if_neg h6] at hf
      refine j_iconst (pc := 29) C d_Mo_is_29 ck_0 ?_
      cases hf
      exact j_zret (pc := 30) C d_Mo_is_30 rfl ⟨rfl, rfl⟩ (Nat.le_of_ble_eq_true rfl) (Nat.le_of_ble_eq_true rfl)
    · rw [if_pos h6] at hf
      refine j_iconst (pc := 25) C d_Mo_is_25 ck_1 ?_
      refine j_goto (pc := 26) C d_Mo_is_26 (tgt := 30) rfl ?_
      cases hf
      exact j_zret (pc := 30) C d_Mo_is_30 rfl ⟨rfl, rfl⟩ (Nat.le_of_ble_eq_true rfl) (Nat.le_of_ble_eq_true rfl)
abbrev rm_Mo_isFn : Room := { frames := 1, cells := 0, slots := 0, locals := 23 }
theorem cv_Mo_isFn : CV y_Mo_isFn b_Mo_isFn 2 (some .boolean) 1 := ⟨⟨tw1181, tw10, by decide +kernel⟩, tw1180, (sw_ (q := (y_Mo_isFn, 54)) (by decide +kernel) (by decide +kernel))⟩
set_option maxHeartbeats 4000000 in
set_option maxRecDepth 100000 in
theorem c_Mo_isFn {g : GT} {ar : Nat → Nat} {a1 : Int32} {r : RS} {q : Int32 × RS} (hf : f_Mo_isFn a1 r = some q) : MI g y_Mo_isFn b_Mo_isFn 2 (some .boolean) rm_Mo_isFn [.ref (ar 0), .int a1] (wR g ar r.1 r.2.1 r.2.2) q.1 (wR g ar q.2.1 q.2.2.1 q.2.2.2) := by
  refine MI.of (by decide) (Nat.le_of_ble_eq_true rfl) (fun 𝒥 C => ?_)
  unfold f_Mo_isFn at hf
  change 𝒥 0 0 (wR g ar r.1 r.2.1 r.2.2) [(0, .ref (ar 0)), (1, .int a1)] [] 0
  refine j_aload_n (pc := 0) C d_Mo_isFn_0 rfl 0 rfl ?_
  refine j_get (pc := 1) C d_Mo_isFn_1 0 8 wR_o0 rfl (v := .ref (ar 5)) rfl (by decide) tw950 ?_
  refine j_iload_n (pc := 4) C d_Mo_isFn_4 rfl 1 rfl ?_
  obtain ⟨b1, hf⟩ := og hf
  refine j_iald (pc := 5) C d_Mo_isFn_5 5 (inb_in b1) (x := r.1 5 a1.toNatClampNeg) wR_a5 rfl ?_
  refine j_iconst (pc := 6) C d_Mo_isFn_6 ck_1 ?_
  refine j_icmp_ne (pc := 7) C d_Mo_isFn_7 (tgt := 27) rfl (fun h2 => ?_) (fun h2 => ?_)
  · rw [if_neg h2] at hf
    refine j_iconst (pc := 27) C d_Mo_isFn_27 ck_0 ?_
    cases hf
    exact j_zret (pc := 28) C d_Mo_isFn_28 rfl ⟨rfl, rfl⟩ (Nat.le_of_ble_eq_true rfl) (Nat.le_of_ble_eq_true rfl)
  · rw [if_pos h2] at hf
    refine j_aload_n (pc := 10) C d_Mo_isFn_10 rfl 0 rfl ?_
    refine j_aload_n (pc := 11) C d_Mo_isFn_11 rfl 0 rfl ?_
    refine j_get (pc := 12) C d_Mo_isFn_12 0 11 wR_o0 rfl (v := .ref (ar 8)) rfl (by decide) tw953 ?_
    refine j_iload_n (pc := 15) C d_Mo_isFn_15 rfl 1 rfl ?_
    obtain ⟨b3, hf⟩ := og hf
    refine j_lald (pc := 16) C d_Mo_isFn_16 8 (inb_in b3) (x := r.2.2 8 a1.toNatClampNeg) wR_a8 rfl ?_
    obtain ⟨q4, eq4, hf⟩ := ob hf
    refine j_callVi (pc := 17) C (rest := []) d_Mo_isFn_17 (c_Mo_keyword (g := g) (ar := ar) eq4) cv_Mo_keyword tw1169 0 rfl rfl cut_same rfl rfl (Nat.le_of_ble_eq_true rfl) (kc2 := 0) (ks2 := 0) (by decide) ?_
    refine j_if_ne (pc := 20) C d_Mo_isFn_20 (tgt := 27) rfl (fun h5 => ?_) (fun h5 => ?_)
    · rw [if_neg h5] at hf
      refine j_iconst (pc := 27) C d_Mo_isFn_27 ck_0 ?_
      cases hf
      exact j_zret (pc := 28) C d_Mo_isFn_28 rfl ⟨rfl, rfl⟩ (Nat.le_of_ble_eq_true rfl) (Nat.le_of_ble_eq_true rfl)
    · rw [if_pos h5] at hf
      refine j_iconst (pc := 23) C d_Mo_isFn_23 ck_1 ?_
      refine j_goto (pc := 24) C d_Mo_isFn_24 (tgt := 28) rfl ?_
      cases hf
      exact j_zret (pc := 28) C d_Mo_isFn_28 rfl ⟨rfl, rfl⟩ (Nat.le_of_ble_eq_true rfl) (Nat.le_of_ble_eq_true rfl)
abbrev rm_Mo_goesTo : Room := { frames := 0, cells := 0, slots := 0, locals := 0 }
theorem cv_Mo_goesTo : CV y_Mo_goesTo b_Mo_goesTo 2 (some .boolean) 1 := ⟨⟨tw1197, tw10, by decide +kernel⟩, tw1196, (sw_ (q := (y_Mo_goesTo, 54)) (by decide +kernel) (by decide +kernel))⟩
set_option maxHeartbeats 4000000 in
set_option maxRecDepth 100000 in
theorem c_Mo_goesTo {g : GT} {ar : Nat → Nat} {a1 : Int32} {r : RS} {q : Int32 × RS} (hf : f_Mo_goesTo a1 r = some q) : MI g y_Mo_goesTo b_Mo_goesTo 2 (some .boolean) rm_Mo_goesTo [.ref (ar 0), .int a1] (wR g ar r.1 r.2.1 r.2.2) q.1 (wR g ar q.2.1 q.2.2.1 q.2.2.2) := by
  refine MI.of (by decide) (Nat.le_of_ble_eq_true rfl) (fun 𝒥 C => ?_)
  unfold f_Mo_goesTo at hf
  change 𝒥 0 0 (wR g ar r.1 r.2.1 r.2.2) [(0, .ref (ar 0)), (1, .int a1)] [] 0
  refine j_aload_n (pc := 0) C d_Mo_goesTo_0 rfl 0 rfl ?_
  refine j_iload_n (pc := 1) C d_Mo_goesTo_1 rfl 1 rfl ?_
  refine j_put (pc := 2) C d_Mo_goesTo_2 0 26 wR_o0 rfl (by decide) tw968 pd_I rfl rfl rfl (Nat.le_of_ble_eq_true rfl) (ws' := wR g ar r.1 (va_up r.2.1 6 a1) r.2.2) wR_p0_26 ?_
  refine j_iconst (pc := 5) C d_Mo_goesTo_5 ck_1 ?_
  cases hf
  exact j_zret (pc := 6) C d_Mo_goesTo_6 rfl ⟨rfl, rfl⟩ (Nat.le_of_ble_eq_true rfl) (Nat.le_of_ble_eq_true rfl)
abbrev rm_Mo_openBlock : Room := { frames := 1, cells := 0, slots := 0, locals := 21 }
theorem cv_Mo_openBlock : CV y_Mo_openBlock b_Mo_openBlock 2 (some .boolean) 1 := ⟨⟨tw1205, tw10, by decide +kernel⟩, tw1204, (sw_ (q := (y_Mo_openBlock, 54)) (by decide +kernel) (by decide +kernel))⟩
set_option maxHeartbeats 4000000 in
set_option maxRecDepth 100000 in
theorem c_Mo_openBlock {g : GT} {ar : Nat → Nat} {a1 : Int32} {r : RS} {q : Int32 × RS} (hf : f_Mo_openBlock a1 r = some q) : MI g y_Mo_openBlock b_Mo_openBlock 2 (some .boolean) rm_Mo_openBlock [.ref (ar 0), .int a1] (wR g ar r.1 r.2.1 r.2.2) q.1 (wR g ar q.2.1 q.2.2.1 q.2.2.2) := by
  refine MI.of (by decide) (Nat.le_of_ble_eq_true rfl) (fun 𝒥 C => ?_)
  unfold f_Mo_openBlock at hf
  change 𝒥 0 0 (wR g ar r.1 r.2.1 r.2.2) [(0, .ref (ar 0)), (1, .int a1)] [] 0
  refine j_aload_n (pc := 0) C d_Mo_openBlock_0 rfl 0 rfl ?_
  refine j_get (pc := 1) C d_Mo_openBlock_1 0 27 wR_o0 rfl (v := .int (r.2.1 7)) rfl (by decide) tw969 ?_
  refine j_iconst (pc := 4) C d_Mo_openBlock_4 ck_4 ?_
  refine j_icmp_ne (pc := 5) C d_Mo_openBlock_5 (tgt := 10) rfl (fun h1 => ?_) (fun h1 => ?_)
  · rw [if_neg h1] at hf
    refine j_aload_n (pc := 10) C d_Mo_openBlock_10 rfl 0 rfl ?_
    refine j_get (pc := 11) C d_Mo_openBlock_11 0 28 wR_o0 rfl (v := .ref (ar 21)) rfl (by decide) tw970 ?_
    refine j_aload_n (pc := 14) C d_Mo_openBlock_14 rfl 0 rfl ?_
    refine j_get (pc := 15) C d_Mo_openBlock_15 0 27 wR_o0 rfl (v := .int (r.2.1 7)) rfl (by decide) tw969 ?_
    refine j_iload_n (pc := 18) C d_Mo_openBlock_18 rfl 1 rfl ?_
    obtain ⟨b2, hf⟩ := og hf
    refine j_iast (pc := 19) C d_Mo_openBlock_19 21 (inb_in b2) wR_a21 (ws' := wR g ar (va_up r.1 21 (upd (r.1 21) (r.2.1 7).toNatClampNeg a1)) r.2.1 r.2.2) wR_s21 ?_
    refine j_aload_n (pc := 20) C d_Mo_openBlock_20 rfl 0 rfl ?_
    refine j_dup (pc := 21) C d_Mo_openBlock_21 rfl ?_
    refine j_get (pc := 22) C d_Mo_openBlock_22 0 27 wR_o0 rfl (v := .int (r.2.1 7)) rfl (by decide) tw969 ?_
    refine j_iconst (pc := 25) C d_Mo_openBlock_25 ck_1 ?_
    refine j_iadd (pc := 26) C d_Mo_openBlock_26 ?_
    refine j_put (pc := 27) C d_Mo_openBlock_27 0 27 wR_o0 rfl (by decide) tw969 pd_I rfl rfl rfl (Nat.le_of_ble_eq_true rfl) (ws' := wR g ar (va_up r.1 21 (upd (r.1 21) (r.2.1 7).toNatClampNeg a1)) (va_up r.2.1 7 ((r.2.1 7) + 1)) r.2.2) wR_p0_27 ?_
    refine j_aload_n (pc := 30) C d_Mo_openBlock_30 rfl 0 rfl ?_
    refine j_bipush (pc := 31) C d_Mo_openBlock_31 cb_6 ?_
    obtain ⟨q3, eq3, hf⟩ := ob hf
    refine j_callVi (pc := 33) C (rest := []) d_Mo_openBlock_33 (c_Mo_goesTo (g := g) (ar := ar) eq3) cv_Mo_goesTo tw1194 0 rfl rfl cut_same rfl rfl (Nat.le_of_ble_eq_true rfl) (kc2 := 0) (ks2 := 0) (by decide) ?_
    obtain ⟨b4, hf⟩ := og hf
    cases hf
    exact j_zret (pc := 36) C d_Mo_openBlock_36 (isb_n b4) ⟨rfl, rfl⟩ (Nat.le_of_ble_eq_true rfl) (Nat.le_of_ble_eq_true rfl)
  · rw [if_pos h1] at hf
    refine j_iconst (pc := 8) C d_Mo_openBlock_8 ck_0 ?_
    cases hf
    exact j_zret (pc := 9) C d_Mo_openBlock_9 rfl ⟨rfl, rfl⟩ (Nat.le_of_ble_eq_true rfl) (Nat.le_of_ble_eq_true rfl)
abbrev rm_Mo_closeBlock : Room := { frames := 1, cells := 0, slots := 0, locals := 21 }
theorem cv_Mo_closeBlock : CV y_Mo_closeBlock b_Mo_closeBlock 4 (some .boolean) 1 := ⟨⟨tw1213, tw10, by decide +kernel⟩, tw1212, (sw_ (q := (y_Mo_closeBlock, 54)) (by decide +kernel) (by decide +kernel))⟩
set_option maxHeartbeats 4000000 in
set_option maxRecDepth 100000 in
theorem c_Mo_closeBlock {g : GT} {ar : Nat → Nat} {a1 : Int32} {r : RS} {q : Int32 × RS} (hf : f_Mo_closeBlock a1 r = some q) : MI g y_Mo_closeBlock b_Mo_closeBlock 4 (some .boolean) rm_Mo_closeBlock [.ref (ar 0), .int a1] (wR g ar r.1 r.2.1 r.2.2) q.1 (wR g ar q.2.1 q.2.2.1 q.2.2.2) := by
  refine MI.of (by decide) (Nat.le_of_ble_eq_true rfl) (fun 𝒥 C => ?_)
  have L22 : ∀ (n : Nat) (x : Int32 × Int32 × Int32 × RS), lpN (BMo_closeBlock_22) n x = some q → 𝒥 0 0 (wR g ar x.2.2.2.1 x.2.2.2.2.1 x.2.2.2.2.2) [(0, .ref (ar 0)), (1, .int x.1), (2, .int x.2.1), (3, .int x.2.2.1)] [] 22 := by
    refine lp_ind (fun k22 k22_ih x hf => ?_)
    unfold BMo_closeBlock_22 at hf
    refine j_iload_n (pc := 22) C d_Mo_closeBlock_22 rfl 3 rfl ?_
    refine j_iload_n (pc := 23) C d_Mo_closeBlock_23 rfl 1 rfl ?_
    refine j_icmp_ge (pc := 24) C d_Mo_closeBlock_24 (tgt := 60) rfl (fun h2 => ?_) (fun h2 => ?_)
    · rw [if_pos h2] at hf
      refine j_aload_n (pc := 60) C d_Mo_closeBlock_60 rfl 0 rfl ?_
      refine j_aload_n (pc := 61) C d_Mo_closeBlock_61 rfl 0 rfl ?_
      refine j_get (pc := 62) C d_Mo_closeBlock_62 0 27 wR_o0 rfl (v := .int (x.2.2.2.2.1 7)) rfl (by decide) tw969 ?_
      refine j_if_ne (pc := 65) C d_Mo_closeBlock_65 (tgt := 73) rfl (fun h3 => ?_) (fun h3 => ?_)
      · rw [if_neg h3] at hf
        refine j_bipush (pc := 73) C d_Mo_closeBlock_73 cb_6 ?_
        obtain ⟨q4, eq4, hf⟩ := ob hf
        refine j_callVi (pc := 75) C (rest := []) d_Mo_closeBlock_75 (c_Mo_goesTo (g := g) (ar := ar) eq4) cv_Mo_goesTo tw1194 0 rfl rfl cut_same rfl rfl (Nat.le_of_ble_eq_true rfl) (kc2 := 0) (ks2 := 0) (by decide) ?_
        obtain ⟨b5, hf⟩ := og hf
        cases hf
        exact j_zret (pc := 78) C d_Mo_closeBlock_78 (isb_n b5) ⟨rfl, rfl⟩ (Nat.le_of_ble_eq_true rfl) (Nat.le_of_ble_eq_true rfl)
      · rw [if_pos h3] at hf
        refine j_bipush (pc := 68) C d_Mo_closeBlock_68 cb_13 ?_
        refine j_goto (pc := 70) C d_Mo_closeBlock_70 (tgt := 75) rfl ?_
        obtain ⟨q6, eq6, hf⟩ := ob hf
        refine j_callVi (pc := 75) C (rest := []) d_Mo_closeBlock_75 (c_Mo_goesTo (g := g) (ar := ar) eq6) cv_Mo_goesTo tw1194 0 rfl rfl cut_same rfl rfl (Nat.le_of_ble_eq_true rfl) (kc2 := 0) (ks2 := 0) (by decide) ?_
        obtain ⟨b7, hf⟩ := og hf
        cases hf
        exact j_zret (pc := 78) C d_Mo_closeBlock_78 (isb_n b7) ⟨rfl, rfl⟩ (Nat.le_of_ble_eq_true rfl) (Nat.le_of_ble_eq_true rfl)
    · rw [if_neg h2] at hf
      refine j_aload_n (pc := 27) C d_Mo_closeBlock_27 rfl 0 rfl ?_
      refine j_get (pc := 28) C d_Mo_closeBlock_28 0 12 wR_o0 rfl (v := .ref (ar 9)) rfl (by decide) tw954 ?_
      refine j_iload_n (pc := 31) C d_Mo_closeBlock_31 rfl 3 rfl ?_
      obtain ⟨b8, hf⟩ := og hf
      refine j_iald (pc := 32) C d_Mo_closeBlock_32 9 (inb_in b8) (x := x.2.2.2.1 9 x.2.2.1.toNatClampNeg) wR_a9 rfl ?_
      refine j_iconst (pc := 33) C d_Mo_closeBlock_33 ck_3 ?_
      refine j_icmp_ne (pc := 34) C d_Mo_closeBlock_34 (tgt := 54) rfl (fun h9 => ?_) (fun h9 => ?_)
      · rw [if_neg h9] at hf
        refine j_iinc (pc := 54) C d_Mo_closeBlock_54 3 rfl (v := x.2.2.1 + 1) (iv ci_1) [1, 2, 3, 0] (by decide) (lc' := [(0, .ref (ar 0)), (1, .int x.1), (2, .int x.2.1), (3, .int (x.2.2.1 + 1))]) rfl ?_
        refine j_goto (pc := 57) C d_Mo_closeBlock_57 (tgt := 22) rfl ?_
        exact k22_ih (x.1, x.2.1, x.2.2.1 + 1, x.2.2.2) hf
      · rw [if_pos h9] at hf
        refine j_aload_n (pc := 37) C d_Mo_closeBlock_37 rfl 0 rfl ?_
        refine j_get (pc := 38) C d_Mo_closeBlock_38 0 16 wR_o0 rfl (v := .ref (ar 13)) rfl (by decide) tw958 ?_
        refine j_iload_n (pc := 41) C d_Mo_closeBlock_41 rfl 3 rfl ?_
        obtain ⟨b10, hf⟩ := og hf
        refine j_iald (pc := 42) C d_Mo_closeBlock_42 13 (inb_in b10) (x := x.2.2.2.1 13 x.2.2.1.toNatClampNeg) wR_a13 rfl ?_
        refine j_iload_n (pc := 43) C d_Mo_closeBlock_43 rfl 2 rfl ?_
        refine j_icmp_ne (pc := 44) C d_Mo_closeBlock_44 (tgt := 54) rfl (fun h11 => ?_) (fun h11 => ?_)
        · rw [if_neg h11] at hf
          refine j_iinc (pc := 54) C d_Mo_closeBlock_54 3 rfl (v := x.2.2.1 + 1) (iv ci_1) [1, 2, 3, 0] (by decide) (lc' := [(0, .ref (ar 0)), (1, .int x.1), (2, .int x.2.1), (3, .int (x.2.2.1 + 1))]) rfl ?_
          refine j_goto (pc := 57) C d_Mo_closeBlock_57 (tgt := 22) rfl ?_
          exact k22_ih (x.1, x.2.1, x.2.2.1 + 1, x.2.2.2) hf
        · rw [if_pos h11] at hf
          refine j_aload_n (pc := 47) C d_Mo_closeBlock_47 rfl 0 rfl ?_
          refine j_get (pc := 48) C d_Mo_closeBlock_48 0 18 wR_o0 rfl (v := .ref (ar 15)) rfl (by decide) tw960 ?_
          refine j_iload_n (pc := 51) C d_Mo_closeBlock_51 rfl 3 rfl ?_
          refine j_iload_n (pc := 52) C d_Mo_closeBlock_52 rfl 1 rfl ?_
          obtain ⟨b12, hf⟩ := og hf
          refine j_iast (pc := 53) C d_Mo_closeBlock_53 15 (inb_in b12) wR_a15 (ws' := wR g ar (va_up x.2.2.2.1 15 (upd (x.2.2.2.1 15) x.2.2.1.toNatClampNeg x.1)) x.2.2.2.2.1 x.2.2.2.2.2) wR_s15 ?_
          refine j_iinc (pc := 54) C d_Mo_closeBlock_54 3 rfl (v := x.2.2.1 + 1) (iv ci_1) [1, 2, 3, 0] (by decide) (lc' := [(0, .ref (ar 0)), (1, .int x.1), (2, .int x.2.1), (3, .int (x.2.2.1 + 1))]) rfl ?_
          refine j_goto (pc := 57) C d_Mo_closeBlock_57 (tgt := 22) rfl ?_
          exact k22_ih (x.1, x.2.1, x.2.2.1 + 1, ((va_up x.2.2.2.1 15 (upd (x.2.2.2.1 15) x.2.2.1.toNatClampNeg x.1)), x.2.2.2.2.1, x.2.2.2.2.2)) hf
  unfold f_Mo_closeBlock at hf
  change 𝒥 0 0 (wR g ar r.1 r.2.1 r.2.2) [(0, .ref (ar 0)), (1, .int a1)] [] 0
  refine j_aload_n (pc := 0) C d_Mo_closeBlock_0 rfl 0 rfl ?_
  refine j_dup (pc := 1) C d_Mo_closeBlock_1 rfl ?_
  refine j_get (pc := 2) C d_Mo_closeBlock_2 0 27 wR_o0 rfl (v := .int (r.2.1 7)) rfl (by decide) tw969 ?_
  refine j_iconst (pc := 5) C d_Mo_closeBlock_5 ck_1 ?_
  refine j_isub (pc := 6) C d_Mo_closeBlock_6 ?_
  refine j_put (pc := 7) C d_Mo_closeBlock_7 0 27 wR_o0 rfl (by decide) tw969 pd_I rfl rfl rfl (Nat.le_of_ble_eq_true rfl) (ws' := wR g ar r.1 (va_up r.2.1 7 ((r.2.1 7) - 1)) r.2.2) wR_p0_27 ?_
  refine j_aload_n (pc := 10) C d_Mo_closeBlock_10 rfl 0 rfl ?_
  refine j_get (pc := 11) C d_Mo_closeBlock_11 0 28 wR_o0 rfl (v := .ref (ar 21)) rfl (by decide) tw970 ?_
  refine j_aload_n (pc := 14) C d_Mo_closeBlock_14 rfl 0 rfl ?_
  refine j_get (pc := 15) C d_Mo_closeBlock_15 0 27 wR_o0 rfl (v := .int ((r.2.1 7) - 1)) rfl (by decide) tw969 ?_
  obtain ⟨b1, hf⟩ := og hf
  refine j_iald (pc := 18) C d_Mo_closeBlock_18 21 (inb_in b1) (x := r.1 21 ((r.2.1 7) - 1).toNatClampNeg) wR_a21 rfl ?_
  refine j_istore_n (pc := 19) C d_Mo_closeBlock_19 rfl [1, 2, 0] (by decide) (lc' := [(0, .ref (ar 0)), (1, .int a1), (2, .int (r.1 21 ((r.2.1 7) - 1).toNatClampNeg))]) rfl ?_
  refine j_iload_n (pc := 20) C d_Mo_closeBlock_20 rfl 2 rfl ?_
  refine j_istore_n (pc := 21) C d_Mo_closeBlock_21 rfl [1, 2, 3, 0] (by decide) (lc' := [(0, .ref (ar 0)), (1, .int a1), (2, .int (r.1 21 ((r.2.1 7) - 1).toNatClampNeg)), (3, .int (r.1 21 ((r.2.1 7) - 1).toNatClampNeg))]) rfl ?_
  exact L22 100000 (a1, r.1 21 ((r.2.1 7) - 1).toNatClampNeg, r.1 21 ((r.2.1 7) - 1).toNatClampNeg, (r.1, (va_up r.2.1 7 ((r.2.1 7) - 1)), r.2.2)) hf
abbrev rm_Mo_expression : Room := { frames := 1, cells := 0, slots := 0, locals := 21 }
theorem cv_Mo_expression : CV y_Mo_expression b_Mo_expression 2 (some .boolean) 1 := ⟨⟨tw1217, tw10, by decide +kernel⟩, tw1216, (sw_ (q := (y_Mo_expression, 54)) (by decide +kernel) (by decide +kernel))⟩
set_option maxHeartbeats 4000000 in
set_option maxRecDepth 100000 in
theorem c_Mo_expression {g : GT} {ar : Nat → Nat} {a1 : Int32} {r : RS} {q : Int32 × RS} (hf : f_Mo_expression a1 r = some q) : MI g y_Mo_expression b_Mo_expression 2 (some .boolean) rm_Mo_expression [.ref (ar 0), .int a1] (wR g ar r.1 r.2.1 r.2.2) q.1 (wR g ar q.2.1 q.2.2.1 q.2.2.2) := by
  refine MI.of (by decide) (Nat.le_of_ble_eq_true rfl) (fun 𝒥 C => ?_)
  unfold f_Mo_expression at hf
  change 𝒥 0 0 (wR g ar r.1 r.2.1 r.2.2) [(0, .ref (ar 0)), (1, .int a1)] [] 0
  refine j_aload_n (pc := 0) C d_Mo_expression_0 rfl 0 rfl ?_
  refine j_iload_n (pc := 1) C d_Mo_expression_1 rfl 1 rfl ?_
  refine j_put (pc := 2) C d_Mo_expression_2 0 32 wR_o0 rfl (by decide) tw974 pd_I rfl rfl rfl (Nat.le_of_ble_eq_true rfl) (ws' := wR g ar r.1 (va_up r.2.1 9 a1) r.2.2) wR_p0_32 ?_
  refine j_aload_n (pc := 5) C d_Mo_expression_5 rfl 0 rfl ?_
  refine j_iconst (pc := 6) C d_Mo_expression_6 ck_0 ?_
  refine j_put (pc := 7) C d_Mo_expression_7 0 29 wR_o0 rfl (by decide) tw971 pd_I rfl rfl rfl (Nat.le_of_ble_eq_true rfl) (ws' := wR g ar r.1 (va_up (va_up r.2.1 9 a1) 8 0) r.2.2) wR_p0_29 ?_
  refine j_aload_n (pc := 10) C d_Mo_expression_10 rfl 0 rfl ?_
  refine j_get (pc := 11) C d_Mo_expression_11 0 31 wR_o0 rfl (v := .ref (ar 23)) rfl (by decide) tw973 ?_
  refine j_iconst (pc := 14) C d_Mo_expression_14 ck_0 ?_
  refine j_iconst (pc := 15) C d_Mo_expression_15 ck_0 ?_
  refine j_zast (pc := 16) C d_Mo_expression_16 23 (inb_in (by decide)) wR_a23 (ws' := wR g ar (va_up r.1 23 (upd (r.1 23) 0 (vp_nar .boolean 0))) (va_up (va_up r.2.1 9 a1) 8 0) r.2.2) wR_s23 ?_
  refine j_aload_n (pc := 17) C d_Mo_expression_17 rfl 0 rfl ?_
  refine j_bipush (pc := 18) C d_Mo_expression_18 cb_9 ?_
  obtain ⟨q2, eq2, hf⟩ := ob hf
  refine j_callVi (pc := 20) C (rest := []) d_Mo_expression_20 (c_Mo_goesTo (g := g) (ar := ar) eq2) cv_Mo_goesTo tw1194 0 rfl rfl cut_same rfl rfl (Nat.le_of_ble_eq_true rfl) (kc2 := 0) (ks2 := 0) (by decide) ?_
  obtain ⟨b3, hf⟩ := og hf
  cases hf
  exact j_zret (pc := 23) C d_Mo_expression_23 (isb_n b3) ⟨rfl, rfl⟩ (Nat.le_of_ble_eq_true rfl) (Nat.le_of_ble_eq_true rfl)
abbrev rm_Mo_openFrame : Room := { frames := 1, cells := 0, slots := 0, locals := 21 }
theorem cv_Mo_openFrame : CV y_Mo_openFrame b_Mo_openFrame 2 (some .boolean) 1 := ⟨⟨tw1229, tw10, by decide +kernel⟩, tw1228, (sw_ (q := (y_Mo_openFrame, 54)) (by decide +kernel) (by decide +kernel))⟩
set_option maxHeartbeats 4000000 in
set_option maxRecDepth 100000 in
theorem c_Mo_openFrame {g : GT} {ar : Nat → Nat} {a1 : Int32} {r : RS} {q : Int32 × RS} (hf : f_Mo_openFrame a1 r = some q) : MI g y_Mo_openFrame b_Mo_openFrame 2 (some .boolean) rm_Mo_openFrame [.ref (ar 0), .int a1] (wR g ar r.1 r.2.1 r.2.2) q.1 (wR g ar q.2.1 q.2.2.1 q.2.2.2) := by
  refine MI.of (by decide) (Nat.le_of_ble_eq_true rfl) (fun 𝒥 C => ?_)
  unfold f_Mo_openFrame at hf
  change 𝒥 0 0 (wR g ar r.1 r.2.1 r.2.2) [(0, .ref (ar 0)), (1, .int a1)] [] 0
  refine j_aload_n (pc := 0) C d_Mo_openFrame_0 rfl 0 rfl ?_
  refine j_get (pc := 1) C d_Mo_openFrame_1 0 29 wR_o0 rfl (v := .int (r.2.1 8)) rfl (by decide) tw971 ?_
  refine j_iconst (pc := 4) C d_Mo_openFrame_4 ck_4 ?_
  refine j_icmp_ne (pc := 5) C d_Mo_openFrame_5 (tgt := 10) rfl (fun h1 => ?_) (fun h1 => ?_)
  · rw [if_neg h1] at hf
    refine j_aload_n (pc := 10) C d_Mo_openFrame_10 rfl 0 rfl ?_
    refine j_dup (pc := 11) C d_Mo_openFrame_11 rfl ?_
    refine j_get (pc := 12) C d_Mo_openFrame_12 0 29 wR_o0 rfl (v := .int (r.2.1 8)) rfl (by decide) tw971 ?_
    refine j_iconst (pc := 15) C d_Mo_openFrame_15 ck_1 ?_
    refine j_iadd (pc := 16) C d_Mo_openFrame_16 ?_
    refine j_put (pc := 17) C d_Mo_openFrame_17 0 29 wR_o0 rfl (by decide) tw971 pd_I rfl rfl rfl (Nat.le_of_ble_eq_true rfl) (ws' := wR g ar r.1 (va_up r.2.1 8 ((r.2.1 8) + 1)) r.2.2) wR_p0_29 ?_
    refine j_aload_n (pc := 20) C d_Mo_openFrame_20 rfl 0 rfl ?_
    refine j_get (pc := 21) C d_Mo_openFrame_21 0 30 wR_o0 rfl (v := .ref (ar 22)) rfl (by decide) tw972 ?_
    refine j_aload_n (pc := 24) C d_Mo_openFrame_24 rfl 0 rfl ?_
    refine j_get (pc := 25) C d_Mo_openFrame_25 0 29 wR_o0 rfl (v := .int ((r.2.1 8) + 1)) rfl (by decide) tw971 ?_
    refine j_iload_n (pc := 28) C d_Mo_openFrame_28 rfl 1 rfl ?_
    obtain ⟨b2, hf⟩ := og hf
    refine j_iast (pc := 29) C d_Mo_openFrame_29 22 (inb_in b2) wR_a22 (ws' := wR g ar (va_up r.1 22 (upd (r.1 22) ((r.2.1 8) + 1).toNatClampNeg a1)) (va_up r.2.1 8 ((r.2.1 8) + 1)) r.2.2) wR_s22 ?_
    refine j_aload_n (pc := 30) C d_Mo_openFrame_30 rfl 0 rfl ?_
    refine j_get (pc := 31) C d_Mo_openFrame_31 0 31 wR_o0 rfl (v := .ref (ar 23)) rfl (by decide) tw973 ?_
    refine j_aload_n (pc := 34) C d_Mo_openFrame_34 rfl 0 rfl ?_
    refine j_get (pc := 35) C d_Mo_openFrame_35 0 29 wR_o0 rfl (v := .int ((r.2.1 8) + 1)) rfl (by decide) tw971 ?_
    refine j_iconst (pc := 38) C d_Mo_openFrame_38 ck_0 ?_
    obtain ⟨b3, hf⟩ := og hf
    refine j_zast (pc := 39) C d_Mo_openFrame_39 23 (inb_in b3) wR_a23 (ws' := wR g ar (va_up (va_up r.1 22 (upd (r.1 22) ((r.2.1 8) + 1).toNatClampNeg a1)) 23 (upd (r.1 23) ((r.2.1 8) + 1).toNatClampNeg (vp_nar .boolean 0))) (va_up r.2.1 8 ((r.2.1 8) + 1)) r.2.2) wR_s23 ?_
    refine j_aload_n (pc := 40) C d_Mo_openFrame_40 rfl 0 rfl ?_
    refine j_iload_n (pc := 41) C d_Mo_openFrame_41 rfl 1 rfl ?_
    refine j_if_ge (pc := 42) C d_Mo_openFrame_42 (tgt := 50) rfl (fun h4 => ?_) (fun h4 => ?_)
    · rw [if_pos h4] at hf
      refine j_bipush (pc := 50) C d_Mo_openFrame_50 cb_10 ?_
      obtain ⟨q5, eq5, hf⟩ := ob hf
      refine j_callVi (pc := 52) C (rest := []) d_Mo_openFrame_52 (c_Mo_goesTo (g := g) (ar := ar) eq5) cv_Mo_goesTo tw1194 0 rfl rfl cut_same rfl rfl (Nat.le_of_ble_eq_true rfl) (kc2 := 0) (ks2 := 0) (by decide) ?_
      obtain ⟨b6, hf⟩ := og hf
      cases hf
      exact j_zret (pc := 55) C d_Mo_openFrame_55 (isb_n b6) ⟨rfl, rfl⟩ (Nat.le_of_ble_eq_true rfl) (Nat.le_of_ble_eq_true rfl)
    · rw [if_neg h4] at hf
      refine j_bipush (pc := 45) C d_Mo_openFrame_45 cb_9 ?_
      refine j_goto (pc := 47) C d_Mo_openFrame_47 (tgt := 52) rfl ?_
      obtain ⟨q7, eq7, hf⟩ := ob hf
      refine j_callVi (pc := 52) C (rest := []) d_Mo_openFrame_52 (c_Mo_goesTo (g := g) (ar := ar) eq7) cv_Mo_goesTo tw1194 0 rfl rfl cut_same rfl rfl (Nat.le_of_ble_eq_true rfl) (kc2 := 0) (ks2 := 0) (by decide) ?_
      obtain ⟨b8, hf⟩ := og hf
      cases hf
      exact j_zret (pc := 55) C d_Mo_openFrame_55 (isb_n b8) ⟨rfl, rfl⟩ (Nat.le_of_ble_eq_true rfl) (Nat.le_of_ble_eq_true rfl)
  · rw [if_pos h1] at hf
    refine j_iconst (pc := 8) C d_Mo_openFrame_8 ck_0 ?_
    cases hf
    exact j_zret (pc := 9) C d_Mo_openFrame_9 rfl ⟨rfl, rfl⟩ (Nat.le_of_ble_eq_true rfl) (Nat.le_of_ble_eq_true rfl)
abbrev rm_Mo_head : Room := { frames := 2, cells := 0, slots := 0, locals := 42 }
theorem cv_Mo_head : CV y_Mo_head b_Mo_head 4 (some .boolean) 2 := ⟨⟨tw1193, tw10, by decide +kernel⟩, tw1192, (sw_ (q := (y_Mo_head, 54)) (by decide +kernel) (by decide +kernel))⟩
set_option maxHeartbeats 4000000 in
set_option maxRecDepth 100000 in
theorem c_Mo_head {g : GT} {ar : Nat → Nat} {a1 : Int32} {a2 : Int32} {r : RS} {q : Int32 × RS} (hf : f_Mo_head a1 a2 r = some q) : MI g y_Mo_head b_Mo_head 4 (some .boolean) rm_Mo_head [.ref (ar 0), .int a1, .int a2] (wR g ar r.1 r.2.1 r.2.2) q.1 (wR g ar q.2.1 q.2.2.1 q.2.2.2) := by
  refine MI.of (by decide) (Nat.le_of_ble_eq_true rfl) (fun 𝒥 C => ?_)
  unfold f_Mo_head at hf
  change 𝒥 0 0 (wR g ar r.1 r.2.1 r.2.2) [(0, .ref (ar 0)), (1, .int a1), (2, .int a2)] [] 0
  refine j_aload_n (pc := 0) C d_Mo_head_0 rfl 0 rfl ?_
  refine j_get (pc := 1) C d_Mo_head_1 0 8 wR_o0 rfl (v := .ref (ar 5)) rfl (by decide) tw950 ?_
  refine j_iload_n (pc := 4) C d_Mo_head_4 rfl 1 rfl ?_
  obtain ⟨b1, hf⟩ := og hf
  refine j_iald (pc := 5) C d_Mo_head_5 5 (inb_in b1) (x := r.1 5 a1.toNatClampNeg) wR_a5 rfl ?_
  refine j_iconst (pc := 6) C d_Mo_head_6 ck_2 ?_
  refine j_icmp_ne (pc := 7) C d_Mo_head_7 (tgt := 14) rfl (fun h2 => ?_) (fun h2 => ?_)
  · rw [if_neg h2] at hf
    refine j_iconst (pc := 14) C d_Mo_head_14 ck_0 ?_
    refine j_istore_n (pc := 15) C d_Mo_head_15 rfl [1, 2, 3, 0] (by decide) (lc' := [(0, .ref (ar 0)), (1, .int a1), (2, .int a2), (3, .int 0)]) rfl ?_
    refine j_aload_n (pc := 16) C d_Mo_head_16 rfl 0 rfl ?_
    refine j_get (pc := 17) C d_Mo_head_17 0 26 wR_o0 rfl (v := .int (r.2.1 6)) rfl (by decide) tw968 ?_
    refine j_if_ne (pc := 20) C d_Mo_head_20 (tgt := 48) rfl (fun h3 => ?_) (fun h3 => ?_)
    · rw [if_neg h3] at hf
      refine j_aload_n (pc := 48) C d_Mo_head_48 rfl 0 rfl ?_
      refine j_get (pc := 49) C d_Mo_head_49 0 26 wR_o0 rfl (v := .int (r.2.1 6)) rfl (by decide) tw968 ?_
      refine j_iconst (pc := 52) C d_Mo_head_52 ck_1 ?_
      refine j_icmp_ne (pc := 53) C d_Mo_head_53 (tgt := 80) rfl (fun h4 => ?_) (fun h4 => ?_)
      · rw [if_neg h4] at hf
        refine j_aload_n (pc := 80) C d_Mo_head_80 rfl 0 rfl ?_
        refine j_get (pc := 81) C d_Mo_head_81 0 26 wR_o0 rfl (v := .int (r.2.1 6)) rfl (by decide) tw968 ?_
        refine j_iconst (pc := 84) C d_Mo_head_84 ck_5 ?_
        refine j_icmp_ne (pc := 85) C d_Mo_head_85 (tgt := 112) rfl (fun h5 => ?_) (fun h5 => ?_)
        · rw [if_neg h5] at hf
          refine j_aload_n (pc := 112) C d_Mo_head_112 rfl 0 rfl ?_
          refine j_get (pc := 113) C d_Mo_head_113 0 26 wR_o0 rfl (v := .int (r.2.1 6)) rfl (by decide) tw968 ?_
          refine j_iconst (pc := 116) C d_Mo_head_116 ck_4 ?_
          refine j_icmp_eq (pc := 117) C d_Mo_head_117 (tgt := 136) rfl (fun h6 => ?_) (fun h6 => ?_)
          · rw [if_pos h6] at hf
            refine j_aload_n (pc := 136) C d_Mo_head_136 rfl 0 rfl ?_
            refine j_get (pc := 137) C d_Mo_head_137 0 26 wR_o0 rfl (v := .int (r.2.1 6)) rfl (by decide) tw968 ?_
            refine j_iconst (pc := 140) C d_Mo_head_140 ck_3 ?_
            refine j_icmp_ne (pc := 141) C d_Mo_head_141 (tgt := 168) rfl (fun h7 => ?_) (fun h7 => ?_)
            · rw [if_neg h7] at hf
              refine j_aload_n (pc := 168) C d_Mo_head_168 rfl 0 rfl ?_
              refine j_get (pc := 169) C d_Mo_head_169 0 12 wR_o0 rfl (v := .ref (ar 9)) rfl (by decide) tw954 ?_
              refine j_iload_n (pc := 172) C d_Mo_head_172 rfl 1 rfl ?_
              refine j_iconst (pc := 173) C d_Mo_head_173 ck_2 ?_
              obtain ⟨b8, hf⟩ := og hf
              refine j_iast (pc := 174) C d_Mo_head_174 9 (inb_in b8) wR_a9 (ws' := wR g ar (va_up r.1 9 (upd (r.1 9) a1.toNatClampNeg 2)) r.2.1 r.2.2) wR_s9 ?_
              refine j_aload_n (pc := 175) C d_Mo_head_175 rfl 0 rfl ?_
              refine j_get (pc := 176) C d_Mo_head_176 0 16 wR_o0 rfl (v := .ref (ar 13)) rfl (by decide) tw958 ?_
              refine j_iload_n (pc := 179) C d_Mo_head_179 rfl 1 rfl ?_
              refine j_aload_n (pc := 180) C d_Mo_head_180 rfl 0 rfl ?_
              refine j_get (pc := 181) C d_Mo_head_181 0 20 wR_o0 rfl (v := .ref (ar 16)) rfl (by decide) tw962 ?_
              refine j_iload_n (pc := 184) C d_Mo_head_184 rfl 2 rfl ?_
              obtain ⟨b9, hf⟩ := og hf
              refine j_iald (pc := 185) C d_Mo_head_185 16 (inb_in b9) (x := r.1 16 a2.toNatClampNeg) wR_a16 rfl ?_
              obtain ⟨b10, hf⟩ := og hf
              refine j_iast (pc := 186) C d_Mo_head_186 13 (inb_in b10) wR_a13 (ws' := wR g ar (va_up (va_up r.1 9 (upd (r.1 9) a1.toNatClampNeg 2)) 13 (upd (r.1 13) a1.toNatClampNeg (r.1 16 a2.toNatClampNeg))) r.2.1 r.2.2) wR_s13 ?_
              refine j_aload_n (pc := 187) C d_Mo_head_187 rfl 0 rfl ?_
              refine j_get (pc := 188) C d_Mo_head_188 0 23 wR_o0 rfl (v := .ref (ar 19)) rfl (by decide) tw965 ?_
              refine j_iload_n (pc := 191) C d_Mo_head_191 rfl 2 rfl ?_
              refine j_dup2 (pc := 192) C d_Mo_head_192 rfl rfl ?_
              obtain ⟨b11, hf⟩ := og hf
              refine j_iald (pc := 193) C d_Mo_head_193 19 (inb_in b11) (x := r.1 19 a2.toNatClampNeg) wR_a19 rfl ?_
              refine j_iconst (pc := 194) C d_Mo_head_194 ck_1 ?_
              refine j_iadd (pc := 195) C d_Mo_head_195 ?_
              obtain ⟨b12, hf⟩ := og hf
              refine j_iast (pc := 196) C d_Mo_head_196 19 (inb_in b12) wR_a19 (ws' := wR g ar (va_up (va_up (va_up r.1 9 (upd (r.1 9) a1.toNatClampNeg 2)) 13 (upd (r.1 13) a1.toNatClampNeg (r.1 16 a2.toNatClampNeg))) 19 (upd (r.1 19) a2.toNatClampNeg ((r.1 19 a2.toNatClampNeg) + 1))) r.2.1 r.2.2) wR_s19 ?_
              refine j_iload_n (pc := 197) C d_Mo_head_197 rfl 3 rfl ?_
              refine j_if_eq (pc := 198) C d_Mo_head_198 (tgt := 213) rfl (fun _ => ?_) (fun h => absurd h (by decide))
              refine j_iconst (pc := 213) C d_Mo_head_213 ck_0 ?_
              cases hf
              exact j_zret (pc := 214) C d_Mo_head_214 rfl ⟨rfl, rfl⟩ (Nat.le_of_ble_eq_true rfl) (Nat.le_of_ble_eq_true rfl)
            · rw [if_pos h7] at hf
              refine j_aload_n (pc := 144) C d_Mo_head_144 rfl 0 rfl ?_
              refine j_iload_n (pc := 145) C d_Mo_head_145 rfl 1 rfl ?_
              refine j_bipush (pc := 146) C d_Mo_head_146 cb_44 ?_
              obtain ⟨q13, eq13, hf⟩ := ob hf
              refine j_callVi (pc := 148) C (rest := []) d_Mo_head_148 (c_Mo_is (g := g) (ar := ar) eq13) cv_Mo_is tw1198 0 rfl rfl cut_same rfl rfl (Nat.le_of_ble_eq_true rfl) (kc2 := 0) (ks2 := 0) (by decide) ?_
              refine j_if_eq (pc := 151) C d_Mo_head_151 (tgt := 166) rfl (fun h14 => ?_) (fun h14 => ?_)
              · rw [if_pos h14] at hf
                refine j_iconst (pc := 166) C d_Mo_head_166 ck_0 ?_
                cases hf
                exact j_zret (pc := 167) C d_Mo_head_167 rfl ⟨rfl, rfl⟩ (Nat.le_of_ble_eq_true rfl) (Nat.le_of_ble_eq_true rfl)
              · rw [if_neg h14] at hf
                refine j_aload_n (pc := 154) C d_Mo_head_154 rfl 0 rfl ?_
                refine j_iconst (pc := 155) C d_Mo_head_155 ck_4 ?_
                obtain ⟨q15, eq15, hf⟩ := ob hf
                refine j_callVi (pc := 156) C (rest := []) d_Mo_head_156 (c_Mo_goesTo (g := g) (ar := ar) eq15) cv_Mo_goesTo tw1194 0 rfl rfl cut_same rfl rfl (Nat.le_of_ble_eq_true rfl) (kc2 := 0) (ks2 := 0) (by decide) ?_
                refine j_if_eq (pc := 159) C d_Mo_head_159 (tgt := 166) rfl (fun h16 => ?_) (fun h16 => ?_)
                · rw [if_pos h16] at hf
                  refine j_iconst (pc := 166) C d_Mo_head_166 ck_0 ?_
                  cases hf
                  exact j_zret (pc := 167) C d_Mo_head_167 rfl ⟨rfl, rfl⟩ (Nat.le_of_ble_eq_true rfl) (Nat.le_of_ble_eq_true rfl)
                · rw [if_neg h16] at hf
                  refine j_iconst (pc := 162) C d_Mo_head_162 ck_1 ?_
                  refine j_goto (pc := 163) C d_Mo_head_163 (tgt := 167) rfl ?_
                  cases hf
                  exact j_zret (pc := 167) C d_Mo_head_167 rfl ⟨rfl, rfl⟩ (Nat.le_of_ble_eq_true rfl) (Nat.le_of_ble_eq_true rfl)
          · rw [if_neg h6] at hf
            refine j_aload_n (pc := 120) C d_Mo_head_120 rfl 0 rfl ?_
            refine j_iload_n (pc := 121) C d_Mo_head_121 rfl 1 rfl ?_
            refine j_bipush (pc := 122) C d_Mo_head_122 cb_41 ?_
            obtain ⟨q17, eq17, hf⟩ := ob hf
            refine j_callVi (pc := 124) C (rest := []) d_Mo_head_124 (c_Mo_is (g := g) (ar := ar) eq17) cv_Mo_is tw1198 0 rfl rfl cut_same rfl rfl (Nat.le_of_ble_eq_true rfl) (kc2 := 0) (ks2 := 0) (by decide) ?_
            refine j_if_eq (pc := 127) C d_Mo_head_127 (tgt := 136) rfl (fun h18 => ?_) (fun h18 => ?_)
            · rw [if_pos h18] at hf
              refine j_aload_n (pc := 136) C d_Mo_head_136 rfl 0 rfl ?_
              refine j_get (pc := 137) C d_Mo_head_137 0 26 wR_o0 rfl (v := .int (q17.2.2.1 6)) rfl (by decide) tw968 ?_
              refine j_iconst (pc := 140) C d_Mo_head_140 ck_3 ?_
              refine j_icmp_ne (pc := 141) C d_Mo_head_141 (tgt := 168) rfl (fun h19 => ?_) (fun h19 => ?_)
              · rw [if_neg h19] at hf
                refine j_aload_n (pc := 168) C d_Mo_head_168 rfl 0 rfl ?_
                refine j_get (pc := 169) C d_Mo_head_169 0 12 wR_o0 rfl (v := .ref (ar 9)) rfl (by decide) tw954 ?_
                refine j_iload_n (pc := 172) C d_Mo_head_172 rfl 1 rfl ?_
                refine j_iconst (pc := 173) C d_Mo_head_173 ck_2 ?_
                obtain ⟨b20, hf⟩ := og hf
                refine j_iast (pc := 174) C d_Mo_head_174 9 (inb_in b20) wR_a9 (ws' := wR g ar (va_up q17.2.1 9 (upd (q17.2.1 9) a1.toNatClampNeg 2)) q17.2.2.1 q17.2.2.2) wR_s9 ?_
                refine j_aload_n (pc := 175) C d_Mo_head_175 rfl 0 rfl ?_
                refine j_get (pc := 176) C d_Mo_head_176 0 16 wR_o0 rfl (v := .ref (ar 13)) rfl (by decide) tw958 ?_
                refine j_iload_n (pc := 179) C d_Mo_head_179 rfl 1 rfl ?_
                refine j_aload_n (pc := 180) C d_Mo_head_180 rfl 0 rfl ?_
                refine j_get (pc := 181) C d_Mo_head_181 0 20 wR_o0 rfl (v := .ref (ar 16)) rfl (by decide) tw962 ?_
                refine j_iload_n (pc := 184) C d_Mo_head_184 rfl 2 rfl ?_
                obtain ⟨b21, hf⟩ := og hf
                refine j_iald (pc := 185) C d_Mo_head_185 16 (inb_in b21) (x := q17.2.1 16 a2.toNatClampNeg) wR_a16 rfl ?_
                obtain ⟨b22, hf⟩ := og hf
                refine j_iast (pc := 186) C d_Mo_head_186 13 (inb_in b22) wR_a13 (ws' := wR g ar (va_up (va_up q17.2.1 9 (upd (q17.2.1 9) a1.toNatClampNeg 2)) 13 (upd (q17.2.1 13) a1.toNatClampNeg (q17.2.1 16 a2.toNatClampNeg))) q17.2.2.1 q17.2.2.2) wR_s13 ?_
                refine j_aload_n (pc := 187) C d_Mo_head_187 rfl 0 rfl ?_
                refine j_get (pc := 188) C d_Mo_head_188 0 23 wR_o0 rfl (v := .ref (ar 19)) rfl (by decide) tw965 ?_
                refine j_iload_n (pc := 191) C d_Mo_head_191 rfl 2 rfl ?_
                refine j_dup2 (pc := 192) C d_Mo_head_192 rfl rfl ?_
                obtain ⟨b23, hf⟩ := og hf
                refine j_iald (pc := 193) C d_Mo_head_193 19 (inb_in b23) (x := q17.2.1 19 a2.toNatClampNeg) wR_a19 rfl ?_
                refine j_iconst (pc := 194) C d_Mo_head_194 ck_1 ?_
                refine j_iadd (pc := 195) C d_Mo_head_195 ?_
                obtain ⟨b24, hf⟩ := og hf
                refine j_iast (pc := 196) C d_Mo_head_196 19 (inb_in b24) wR_a19 (ws' := wR g ar (va_up (va_up (va_up q17.2.1 9 (upd (q17.2.1 9) a1.toNatClampNeg 2)) 13 (upd (q17.2.1 13) a1.toNatClampNeg (q17.2.1 16 a2.toNatClampNeg))) 19 (upd (q17.2.1 19) a2.toNatClampNeg ((q17.2.1 19 a2.toNatClampNeg) + 1))) q17.2.2.1 q17.2.2.2) wR_s19 ?_
                refine j_iload_n (pc := 197) C d_Mo_head_197 rfl 3 rfl ?_
                refine j_if_eq (pc := 198) C d_Mo_head_198 (tgt := 213) rfl (fun _ => ?_) (fun h => absurd h (by decide))
                refine j_iconst (pc := 213) C d_Mo_head_213 ck_0 ?_
                cases hf
                exact j_zret (pc := 214) C d_Mo_head_214 rfl ⟨rfl, rfl⟩ (Nat.le_of_ble_eq_true rfl) (Nat.le_of_ble_eq_true rfl)
              · rw [if_pos h19] at hf
                refine j_aload_n (pc := 144) C d_Mo_head_144 rfl 0 rfl ?_
                refine j_iload_n (pc := 145) C d_Mo_head_145 rfl 1 rfl ?_
                refine j_bipush (pc := 146) C d_Mo_head_146 cb_44 ?_
                obtain ⟨q25, eq25, hf⟩ := ob hf
                refine j_callVi (pc := 148) C (rest := []) d_Mo_head_148 (c_Mo_is (g := g) (ar := ar) eq25) cv_Mo_is tw1198 0 rfl rfl cut_same rfl rfl (Nat.le_of_ble_eq_true rfl) (kc2 := 0) (ks2 := 0) (by decide) ?_
                refine j_if_eq (pc := 151) C d_Mo_head_151 (tgt := 166) rfl (fun h26 => ?_) (fun h26 => ?_)
                · rw [if_pos h26] at hf
                  refine j_iconst (pc := 166) C d_Mo_head_166 ck_0 ?_
                  cases hf
                  exact j_zret (pc := 167) C d_Mo_head_167 rfl ⟨rfl, rfl⟩ (Nat.le_of_ble_eq_true rfl) (Nat.le_of_ble_eq_true rfl)
                · rw [if_neg h26] at hf
                  refine j_aload_n (pc := 154) C d_Mo_head_154 rfl 0 rfl ?_
                  refine j_iconst (pc := 155) C d_Mo_head_155 ck_4 ?_
                  obtain ⟨q27, eq27, hf⟩ := ob hf
                  refine j_callVi (pc := 156) C (rest := []) d_Mo_head_156 (c_Mo_goesTo (g := g) (ar := ar) eq27) cv_Mo_goesTo tw1194 0 rfl rfl cut_same rfl rfl (Nat.le_of_ble_eq_true rfl) (kc2 := 0) (ks2 := 0) (by decide) ?_
                  refine j_if_eq (pc := 159) C d_Mo_head_159 (tgt := 166) rfl (fun h28 => ?_) (fun h28 => ?_)
                  · rw [if_pos h28] at hf
                    refine j_iconst (pc := 166) C d_Mo_head_166 ck_0 ?_
                    cases hf
                    exact j_zret (pc := 167) C d_Mo_head_167 rfl ⟨rfl, rfl⟩ (Nat.le_of_ble_eq_true rfl) (Nat.le_of_ble_eq_true rfl)
                  · rw [if_neg h28] at hf
                    refine j_iconst (pc := 162) C d_Mo_head_162 ck_1 ?_
                    refine j_goto (pc := 163) C d_Mo_head_163 (tgt := 167) rfl ?_
                    cases hf
                    exact j_zret (pc := 167) C d_Mo_head_167 rfl ⟨rfl, rfl⟩ (Nat.le_of_ble_eq_true rfl) (Nat.le_of_ble_eq_true rfl)
            · rw [if_neg h18] at hf
              refine j_aload_n (pc := 130) C d_Mo_head_130 rfl 0 rfl ?_
              refine j_iconst (pc := 131) C d_Mo_head_131 ck_5 ?_
              obtain ⟨q29, eq29, hf⟩ := ob hf
              refine j_callVi (pc := 132) C (rest := []) d_Mo_head_132 (c_Mo_goesTo (g := g) (ar := ar) eq29) cv_Mo_goesTo tw1194 0 rfl rfl cut_same rfl rfl (Nat.le_of_ble_eq_true rfl) (kc2 := 0) (ks2 := 0) (by decide) ?_
              obtain ⟨b30, hf⟩ := og hf
              cases hf
              exact j_zret (pc := 135) C d_Mo_head_135 (isb_n b30) ⟨rfl, rfl⟩ (Nat.le_of_ble_eq_true rfl) (Nat.le_of_ble_eq_true rfl)
        · rw [if_pos h5] at hf
          refine j_aload_n (pc := 88) C d_Mo_head_88 rfl 0 rfl ?_
          refine j_iload_n (pc := 89) C d_Mo_head_89 rfl 1 rfl ?_
          refine j_bipush (pc := 90) C d_Mo_head_90 cb_123 ?_
          obtain ⟨q31, eq31, hf⟩ := ob hf
          refine j_callVi (pc := 92) C (rest := []) d_Mo_head_92 (c_Mo_is (g := g) (ar := ar) eq31) cv_Mo_is tw1198 0 rfl rfl cut_same rfl rfl (Nat.le_of_ble_eq_true rfl) (kc2 := 0) (ks2 := 0) (by decide) ?_
          refine j_if_eq (pc := 95) C d_Mo_head_95 (tgt := 110) rfl (fun h32 => ?_) (fun h32 => ?_)
          · rw [if_pos h32] at hf
            refine j_iconst (pc := 110) C d_Mo_head_110 ck_0 ?_
            cases hf
            exact j_zret (pc := 111) C d_Mo_head_111 rfl ⟨rfl, rfl⟩ (Nat.le_of_ble_eq_true rfl) (Nat.le_of_ble_eq_true rfl)
          · rw [if_neg h32] at hf
            refine j_aload_n (pc := 98) C d_Mo_head_98 rfl 0 rfl ?_
            refine j_iload_n (pc := 99) C d_Mo_head_99 rfl 1 rfl ?_
            obtain ⟨q33, eq33, hf⟩ := ob hf
            refine j_callVi (pc := 100) C (rest := []) d_Mo_head_100 (c_Mo_openBlock (g := g) (ar := ar) eq33) cv_Mo_openBlock tw1202 0 rfl rfl cut_same rfl rfl (Nat.le_of_ble_eq_true rfl) (kc2 := 0) (ks2 := 0) (by decide) ?_
            refine j_if_eq (pc := 103) C d_Mo_head_103 (tgt := 110) rfl (fun h34 => ?_) (fun h34 => ?_)
            · rw [if_pos h34] at hf
              refine j_iconst (pc := 110) C d_Mo_head_110 ck_0 ?_
              cases hf
              exact j_zret (pc := 111) C d_Mo_head_111 rfl ⟨rfl, rfl⟩ (Nat.le_of_ble_eq_true rfl) (Nat.le_of_ble_eq_true rfl)
            · rw [if_neg h34] at hf
              refine j_iconst (pc := 106) C d_Mo_head_106 ck_1 ?_
              refine j_goto (pc := 107) C d_Mo_head_107 (tgt := 111) rfl ?_
              cases hf
              exact j_zret (pc := 111) C d_Mo_head_111 rfl ⟨rfl, rfl⟩ (Nat.le_of_ble_eq_true rfl) (Nat.le_of_ble_eq_true rfl)
      · rw [if_pos h4] at hf
        refine j_aload_n (pc := 56) C d_Mo_head_56 rfl 0 rfl ?_
        refine j_iload_n (pc := 57) C d_Mo_head_57 rfl 1 rfl ?_
        refine j_bipush (pc := 58) C d_Mo_head_58 cb_40 ?_
        obtain ⟨q35, eq35, hf⟩ := ob hf
        refine j_callVi (pc := 60) C (rest := []) d_Mo_head_60 (c_Mo_is (g := g) (ar := ar) eq35) cv_Mo_is tw1198 0 rfl rfl cut_same rfl rfl (Nat.le_of_ble_eq_true rfl) (kc2 := 0) (ks2 := 0) (by decide) ?_
        refine j_if_eq (pc := 63) C d_Mo_head_63 (tgt := 78) rfl (fun h36 => ?_) (fun h36 => ?_)
        · rw [if_pos h36] at hf
          refine j_iconst (pc := 78) C d_Mo_head_78 ck_0 ?_
          cases hf
          exact j_zret (pc := 79) C d_Mo_head_79 rfl ⟨rfl, rfl⟩ (Nat.le_of_ble_eq_true rfl) (Nat.le_of_ble_eq_true rfl)
        · rw [if_neg h36] at hf
          refine j_aload_n (pc := 66) C d_Mo_head_66 rfl 0 rfl ?_
          refine j_iconst (pc := 67) C d_Mo_head_67 ck_2 ?_
          obtain ⟨q37, eq37, hf⟩ := ob hf
          refine j_callVi (pc := 68) C (rest := []) d_Mo_head_68 (c_Mo_goesTo (g := g) (ar := ar) eq37) cv_Mo_goesTo tw1194 0 rfl rfl cut_same rfl rfl (Nat.le_of_ble_eq_true rfl) (kc2 := 0) (ks2 := 0) (by decide) ?_
          refine j_if_eq (pc := 71) C d_Mo_head_71 (tgt := 78) rfl (fun h38 => ?_) (fun h38 => ?_)
          · rw [if_pos h38] at hf
            refine j_iconst (pc := 78) C d_Mo_head_78 ck_0 ?_
            cases hf
            exact j_zret (pc := 79) C d_Mo_head_79 rfl ⟨rfl, rfl⟩ (Nat.le_of_ble_eq_true rfl) (Nat.le_of_ble_eq_true rfl)
          · rw [if_neg h38] at hf
            refine j_iconst (pc := 74) C d_Mo_head_74 ck_1 ?_
            refine j_goto (pc := 75) C d_Mo_head_75 (tgt := 79) rfl ?_
            cases hf
            exact j_zret (pc := 79) C d_Mo_head_79 rfl ⟨rfl, rfl⟩ (Nat.le_of_ble_eq_true rfl) (Nat.le_of_ble_eq_true rfl)
    · rw [if_pos h3] at hf
      refine j_aload_n (pc := 23) C d_Mo_head_23 rfl 0 rfl ?_
      refine j_get (pc := 24) C d_Mo_head_24 0 12 wR_o0 rfl (v := .ref (ar 9)) rfl (by decide) tw954 ?_
      refine j_iload_n (pc := 27) C d_Mo_head_27 rfl 1 rfl ?_
      refine j_iconst (pc := 28) C d_Mo_head_28 ck_1 ?_
      obtain ⟨b39, hf⟩ := og hf
      refine j_iast (pc := 29) C d_Mo_head_29 9 (inb_in b39) wR_a9 (ws' := wR g ar (va_up r.1 9 (upd (r.1 9) a1.toNatClampNeg 1)) r.2.1 r.2.2) wR_s9 ?_
      refine j_iload_n (pc := 30) C d_Mo_head_30 rfl 3 rfl ?_
      refine j_if_eq (pc := 31) C d_Mo_head_31 (tgt := 46) rfl (fun _ => ?_) (fun h => absurd h (by decide))
      refine j_iconst (pc := 46) C d_Mo_head_46 ck_0 ?_
      cases hf
      exact j_zret (pc := 47) C d_Mo_head_47 rfl ⟨rfl, rfl⟩ (Nat.le_of_ble_eq_true rfl) (Nat.le_of_ble_eq_true rfl)
  · rw [if_pos h2] at hf
    refine j_iconst (pc := 10) C d_Mo_head_10 ck_1 ?_
    refine j_goto (pc := 11) C d_Mo_head_11 (tgt := 15) rfl ?_
    refine j_istore_n (pc := 15) C d_Mo_head_15 rfl [1, 2, 3, 0] (by decide) (lc' := [(0, .ref (ar 0)), (1, .int a1), (2, .int a2), (3, .int 1)]) rfl ?_
    refine j_aload_n (pc := 16) C d_Mo_head_16 rfl 0 rfl ?_
    refine j_get (pc := 17) C d_Mo_head_17 0 26 wR_o0 rfl (v := .int (r.2.1 6)) rfl (by decide) tw968 ?_
    refine j_if_ne (pc := 20) C d_Mo_head_20 (tgt := 48) rfl (fun h40 => ?_) (fun h40 => ?_)
    · rw [if_neg h40] at hf
      refine j_aload_n (pc := 48) C d_Mo_head_48 rfl 0 rfl ?_
      refine j_get (pc := 49) C d_Mo_head_49 0 26 wR_o0 rfl (v := .int (r.2.1 6)) rfl (by decide) tw968 ?_
      refine j_iconst (pc := 52) C d_Mo_head_52 ck_1 ?_
      refine j_icmp_ne (pc := 53) C d_Mo_head_53 (tgt := 80) rfl (fun h41 => ?_) (fun h41 => ?_)
      · rw [if_neg h41] at hf
        refine j_aload_n (pc := 80) C d_Mo_head_80 rfl 0 rfl ?_
        refine j_get (pc := 81) C d_Mo_head_81 0 26 wR_o0 rfl (v := .int (r.2.1 6)) rfl (by decide) tw968 ?_
        refine j_iconst (pc := 84) C d_Mo_head_84 ck_5 ?_
        refine j_icmp_ne (pc := 85) C d_Mo_head_85 (tgt := 112) rfl (fun h42 => ?_) (fun h42 => ?_)
        · rw [if_neg h42] at hf
          refine j_aload_n (pc := 112) C d_Mo_head_112 rfl 0 rfl ?_
          refine j_get (pc := 113) C d_Mo_head_113 0 26 wR_o0 rfl (v := .int (r.2.1 6)) rfl (by decide) tw968 ?_
          refine j_iconst (pc := 116) C d_Mo_head_116 ck_4 ?_
          refine j_icmp_eq (pc := 117) C d_Mo_head_117 (tgt := 136) rfl (fun h43 => ?_) (fun h43 => ?_)
          · rw [if_pos h43] at hf
            refine j_aload_n (pc := 136) C d_Mo_head_136 rfl 0 rfl ?_
            refine j_get (pc := 137) C d_Mo_head_137 0 26 wR_o0 rfl (v := .int (r.2.1 6)) rfl (by decide) tw968 ?_
            refine j_iconst (pc := 140) C d_Mo_head_140 ck_3 ?_
            refine j_icmp_ne (pc := 141) C d_Mo_head_141 (tgt := 168) rfl (fun h44 => ?_) (fun h44 => ?_)
            · rw [if_neg h44] at hf
              refine j_aload_n (pc := 168) C d_Mo_head_168 rfl 0 rfl ?_
              refine j_get (pc := 169) C d_Mo_head_169 0 12 wR_o0 rfl (v := .ref (ar 9)) rfl (by decide) tw954 ?_
              refine j_iload_n (pc := 172) C d_Mo_head_172 rfl 1 rfl ?_
              refine j_iconst (pc := 173) C d_Mo_head_173 ck_2 ?_
              obtain ⟨b45, hf⟩ := og hf
              refine j_iast (pc := 174) C d_Mo_head_174 9 (inb_in b45) wR_a9 (ws' := wR g ar (va_up r.1 9 (upd (r.1 9) a1.toNatClampNeg 2)) r.2.1 r.2.2) wR_s9 ?_
              refine j_aload_n (pc := 175) C d_Mo_head_175 rfl 0 rfl ?_
              refine j_get (pc := 176) C d_Mo_head_176 0 16 wR_o0 rfl (v := .ref (ar 13)) rfl (by decide) tw958 ?_
              refine j_iload_n (pc := 179) C d_Mo_head_179 rfl 1 rfl ?_
              refine j_aload_n (pc := 180) C d_Mo_head_180 rfl 0 rfl ?_
              refine j_get (pc := 181) C d_Mo_head_181 0 20 wR_o0 rfl (v := .ref (ar 16)) rfl (by decide) tw962 ?_
              refine j_iload_n (pc := 184) C d_Mo_head_184 rfl 2 rfl ?_
              obtain ⟨b46, hf⟩ := og hf
              refine j_iald (pc := 185) C d_Mo_head_185 16 (inb_in b46) (x := r.1 16 a2.toNatClampNeg) wR_a16 rfl ?_
              obtain ⟨b47, hf⟩ := og hf
              refine j_iast (pc := 186) C d_Mo_head_186 13 (inb_in b47) wR_a13 (ws' := wR g ar (va_up (va_up r.1 9 (upd (r.1 9) a1.toNatClampNeg 2)) 13 (upd (r.1 13) a1.toNatClampNeg (r.1 16 a2.toNatClampNeg))) r.2.1 r.2.2) wR_s13 ?_
              refine j_aload_n (pc := 187) C d_Mo_head_187 rfl 0 rfl ?_
              refine j_get (pc := 188) C d_Mo_head_188 0 23 wR_o0 rfl (v := .ref (ar 19)) rfl (by decide) tw965 ?_
              refine j_iload_n (pc := 191) C d_Mo_head_191 rfl 2 rfl ?_
              refine j_dup2 (pc := 192) C d_Mo_head_192 rfl rfl ?_
              obtain ⟨b48, hf⟩ := og hf
              refine j_iald (pc := 193) C d_Mo_head_193 19 (inb_in b48) (x := r.1 19 a2.toNatClampNeg) wR_a19 rfl ?_
              refine j_iconst (pc := 194) C d_Mo_head_194 ck_1 ?_
              refine j_iadd (pc := 195) C d_Mo_head_195 ?_
              obtain ⟨b49, hf⟩ := og hf
              refine j_iast (pc := 196) C d_Mo_head_196 19 (inb_in b49) wR_a19 (ws' := wR g ar (va_up (va_up (va_up r.1 9 (upd (r.1 9) a1.toNatClampNeg 2)) 13 (upd (r.1 13) a1.toNatClampNeg (r.1 16 a2.toNatClampNeg))) 19 (upd (r.1 19) a2.toNatClampNeg ((r.1 19 a2.toNatClampNeg) + 1))) r.2.1 r.2.2) wR_s19 ?_
              refine j_iload_n (pc := 197) C d_Mo_head_197 rfl 3 rfl ?_
              refine j_if_eq (pc := 198) C d_Mo_head_198 (tgt := 213) rfl (fun h => absurd h (by decide)) (fun _ => ?_)
              refine j_aload_n (pc := 201) C d_Mo_head_201 rfl 0 rfl ?_
              refine j_iconst (pc := 202) C d_Mo_head_202 ck_3 ?_
              obtain ⟨q50, eq50, hf⟩ := ob hf
              refine j_callVi (pc := 203) C (rest := []) d_Mo_head_203 (c_Mo_goesTo (g := g) (ar := ar) eq50) cv_Mo_goesTo tw1194 0 rfl rfl cut_same rfl rfl (Nat.le_of_ble_eq_true rfl) (kc2 := 0) (ks2 := 0) (by decide) ?_
              refine j_if_eq (pc := 206) C d_Mo_head_206 (tgt := 213) rfl (fun h51 => ?_) (fun h51 => ?_)
              · rw [if_pos h51] at hf
                refine j_iconst (pc := 213) C d_Mo_head_213 ck_0 ?_
                cases hf
                exact j_zret (pc := 214) C d_Mo_head_214 rfl ⟨rfl, rfl⟩ (Nat.le_of_ble_eq_true rfl) (Nat.le_of_ble_eq_true rfl)
              · rw [if_neg h51] at hf
                refine j_iconst (pc := 209) C d_Mo_head_209 ck_1 ?_
                refine j_goto (pc := 210) C d_Mo_head_210 (tgt := 214) rfl ?_
                cases hf
                exact j_zret (pc := 214) C d_Mo_head_214 rfl ⟨rfl, rfl⟩ (Nat.le_of_ble_eq_true rfl) (Nat.le_of_ble_eq_true rfl)
            · rw [if_pos h44] at hf
              refine j_aload_n (pc := 144) C d_Mo_head_144 rfl 0 rfl ?_
              refine j_iload_n (pc := 145) C d_Mo_head_145 rfl 1 rfl ?_
              refine j_bipush (pc := 146) C d_Mo_head_146 cb_44 ?_
              obtain ⟨q52, eq52, hf⟩ := ob hf
              refine j_callVi (pc := 148) C (rest := []) d_Mo_head_148 (c_Mo_is (g := g) (ar := ar) eq52) cv_Mo_is tw1198 0 rfl rfl cut_same rfl rfl (Nat.le_of_ble_eq_true rfl) (kc2 := 0) (ks2 := 0) (by decide) ?_
              refine j_if_eq (pc := 151) C d_Mo_head_151 (tgt := 166) rfl (fun h53 => ?_) (fun h53 => ?_)
              · rw [if_pos h53] at hf
                refine j_iconst (pc := 166) C d_Mo_head_166 ck_0 ?_
                cases hf
                exact j_zret (pc := 167) C d_Mo_head_167 rfl ⟨rfl, rfl⟩ (Nat.le_of_ble_eq_true rfl) (Nat.le_of_ble_eq_true rfl)
              · rw [if_neg h53] at hf
                refine j_aload_n (pc := 154) C d_Mo_head_154 rfl 0 rfl ?_
                refine j_iconst (pc := 155) C d_Mo_head_155 ck_4 ?_
                obtain ⟨q54, eq54, hf⟩ := ob hf
                refine j_callVi (pc := 156) C (rest := []) d_Mo_head_156 (c_Mo_goesTo (g := g) (ar := ar) eq54) cv_Mo_goesTo tw1194 0 rfl rfl cut_same rfl rfl (Nat.le_of_ble_eq_true rfl) (kc2 := 0) (ks2 := 0) (by decide) ?_
                refine j_if_eq (pc := 159) C d_Mo_head_159 (tgt := 166) rfl (fun h55 => ?_) (fun h55 => ?_)
                · rw [if_pos h55] at hf
                  refine j_iconst (pc := 166) C d_Mo_head_166 ck_0 ?_
                  cases hf
                  exact j_zret (pc := 167) C d_Mo_head_167 rfl ⟨rfl, rfl⟩ (Nat.le_of_ble_eq_true rfl) (Nat.le_of_ble_eq_true rfl)
                · rw [if_neg h55] at hf
                  refine j_iconst (pc := 162) C d_Mo_head_162 ck_1 ?_
                  refine j_goto (pc := 163) C d_Mo_head_163 (tgt := 167) rfl ?_
                  cases hf
                  exact j_zret (pc := 167) C d_Mo_head_167 rfl ⟨rfl, rfl⟩ (Nat.le_of_ble_eq_true rfl) (Nat.le_of_ble_eq_true rfl)
          · rw [if_neg h43] at hf
            refine j_aload_n (pc := 120) C d_Mo_head_120 rfl 0 rfl ?_
            refine j_iload_n (pc := 121) C d_Mo_head_121 rfl 1 rfl ?_
            refine j_bipush (pc := 122) C d_Mo_head_122 cb_41 ?_
            obtain ⟨q56, eq56, hf⟩ := ob hf
            refine j_callVi (pc := 124) C (rest := []) d_Mo_head_124 (c_Mo_is (g := g) (ar := ar) eq56) cv_Mo_is tw1198 0 rfl rfl cut_same rfl rfl (Nat.le_of_ble_eq_true rfl) (kc2 := 0) (ks2 := 0) (by decide) ?_
            refine j_if_eq (pc := 127) C d_Mo_head_127 (tgt := 136) rfl (fun h57 => ?_) (fun h57 => ?_)
            · rw [if_pos h57] at hf
              refine j_aload_n (pc := 136) C d_Mo_head_136 rfl 0 rfl ?_
              refine j_get (pc := 137) C d_Mo_head_137 0 26 wR_o0 rfl (v := .int (q56.2.2.1 6)) rfl (by decide) tw968 ?_
              refine j_iconst (pc := 140) C d_Mo_head_140 ck_3 ?_
              refine j_icmp_ne (pc := 141) C d_Mo_head_141 (tgt := 168) rfl (fun h58 => ?_) (fun h58 => ?_)
              · rw [if_neg h58] at hf
                refine j_aload_n (pc := 168) C d_Mo_head_168 rfl 0 rfl ?_
                refine j_get (pc := 169) C d_Mo_head_169 0 12 wR_o0 rfl (v := .ref (ar 9)) rfl (by decide) tw954 ?_
                refine j_iload_n (pc := 172) C d_Mo_head_172 rfl 1 rfl ?_
                refine j_iconst (pc := 173) C d_Mo_head_173 ck_2 ?_
                obtain ⟨b59, hf⟩ := og hf
                refine j_iast (pc := 174) C d_Mo_head_174 9 (inb_in b59) wR_a9 (ws' := wR g ar (va_up q56.2.1 9 (upd (q56.2.1 9) a1.toNatClampNeg 2)) q56.2.2.1 q56.2.2.2) wR_s9 ?_
                refine j_aload_n (pc := 175) C d_Mo_head_175 rfl 0 rfl ?_
                refine j_get (pc := 176) C d_Mo_head_176 0 16 wR_o0 rfl (v := .ref (ar 13)) rfl (by decide) tw958 ?_
                refine j_iload_n (pc := 179) C d_Mo_head_179 rfl 1 rfl ?_
                refine j_aload_n (pc := 180) C d_Mo_head_180 rfl 0 rfl ?_
                refine j_get (pc := 181) C d_Mo_head_181 0 20 wR_o0 rfl (v := .ref (ar 16)) rfl (by decide) tw962 ?_
                refine j_iload_n (pc := 184) C d_Mo_head_184 rfl 2 rfl ?_
                obtain ⟨b60, hf⟩ := og hf
                refine j_iald (pc := 185) C d_Mo_head_185 16 (inb_in b60) (x := q56.2.1 16 a2.toNatClampNeg) wR_a16 rfl ?_
                obtain ⟨b61, hf⟩ := og hf
                refine j_iast (pc := 186) C d_Mo_head_186 13 (inb_in b61) wR_a13 (ws' := wR g ar (va_up (va_up q56.2.1 9 (upd (q56.2.1 9) a1.toNatClampNeg 2)) 13 (upd (q56.2.1 13) a1.toNatClampNeg (q56.2.1 16 a2.toNatClampNeg))) q56.2.2.1 q56.2.2.2) wR_s13 ?_
                refine j_aload_n (pc := 187) C d_Mo_head_187 rfl 0 rfl ?_
                refine j_get (pc := 188) C d_Mo_head_188 0 23 wR_o0 rfl (v := .ref (ar 19)) rfl (by decide) tw965 ?_
                refine j_iload_n (pc := 191) C d_Mo_head_191 rfl 2 rfl ?_
                refine j_dup2 (pc := 192) C d_Mo_head_192 rfl rfl ?_
                obtain ⟨b62, hf⟩ := og hf
                refine j_iald (pc := 193) C d_Mo_head_193 19 (inb_in b62) (x := q56.2.1 19 a2.toNatClampNeg) wR_a19 rfl ?_
                refine j_iconst (pc := 194) C d_Mo_head_194 ck_1 ?_
                refine j_iadd (pc := 195) C d_Mo_head_195 ?_
                obtain ⟨b63, hf⟩ := og hf
                refine j_iast (pc := 196) C d_Mo_head_196 19 (inb_in b63) wR_a19 (ws' := wR g ar (va_up (va_up (va_up q56.2.1 9 (upd (q56.2.1 9) a1.toNatClampNeg 2)) 13 (upd (q56.2.1 13) a1.toNatClampNeg (q56.2.1 16 a2.toNatClampNeg))) 19 (upd (q56.2.1 19) a2.toNatClampNeg ((q56.2.1 19 a2.toNatClampNeg) + 1))) q56.2.2.1 q56.2.2.2) wR_s19 ?_
                refine j_iload_n (pc := 197) C d_Mo_head_197 rfl 3 rfl ?_
                refine j_if_eq (pc := 198) C d_Mo_head_198 (tgt := 213) rfl (fun h => absurd h (by decide)) (fun _ => ?_)
                refine j_aload_n (pc := 201) C d_Mo_head_201 rfl 0 rfl ?_
                refine j_iconst (pc := 202) C d_Mo_head_202 ck_3 ?_
                obtain ⟨q64, eq64, hf⟩ := ob hf
                refine j_callVi (pc := 203) C (rest := []) d_Mo_head_203 (c_Mo_goesTo (g := g) (ar := ar) eq64) cv_Mo_goesTo tw1194 0 rfl rfl cut_same rfl rfl (Nat.le_of_ble_eq_true rfl) (kc2 := 0) (ks2 := 0) (by decide) ?_
                refine j_if_eq (pc := 206) C d_Mo_head_206 (tgt := 213) rfl (fun h65 => ?_) (fun h65 => ?_)
                · rw [if_pos h65] at hf
                  refine j_iconst (pc := 213) C d_Mo_head_213 ck_0 ?_
                  cases hf
                  exact j_zret (pc := 214) C d_Mo_head_214 rfl ⟨rfl, rfl⟩ (Nat.le_of_ble_eq_true rfl) (Nat.le_of_ble_eq_true rfl)
                · rw [if_neg h65] at hf
                  refine j_iconst (pc := 209) C d_Mo_head_209 ck_1 ?_
                  refine j_goto (pc := 210) C d_Mo_head_210 (tgt := 214) rfl ?_
                  cases hf
                  exact j_zret (pc := 214) C d_Mo_head_214 rfl ⟨rfl, rfl⟩ (Nat.le_of_ble_eq_true rfl) (Nat.le_of_ble_eq_true rfl)
              · rw [if_pos h58] at hf
                refine j_aload_n (pc := 144) C d_Mo_head_144 rfl 0 rfl ?_
                refine j_iload_n (pc := 145) C d_Mo_head_145 rfl 1 rfl ?_
                refine j_bipush (pc := 146) C d_Mo_head_146 cb_44 ?_
                obtain ⟨q66, eq66, hf⟩ := ob hf
                refine j_callVi (pc := 148) C (rest := []) d_Mo_head_148 (c_Mo_is (g := g) (ar := ar) eq66) cv_Mo_is tw1198 0 rfl rfl cut_same rfl rfl (Nat.le_of_ble_eq_true rfl) (kc2 := 0) (ks2 := 0) (by decide) ?_
                refine j_if_eq (pc := 151) C d_Mo_head_151 (tgt := 166) rfl (fun h67 => ?_) (fun h67 => ?_)
                · rw [if_pos h67] at hf
                  refine j_iconst (pc := 166) C d_Mo_head_166 ck_0 ?_
                  cases hf
                  exact j_zret (pc := 167) C d_Mo_head_167 rfl ⟨rfl, rfl⟩ (Nat.le_of_ble_eq_true rfl) (Nat.le_of_ble_eq_true rfl)
                · rw [if_neg h67] at hf
                  refine j_aload_n (pc := 154) C d_Mo_head_154 rfl 0 rfl ?_
                  refine j_iconst (pc := 155) C d_Mo_head_155 ck_4 ?_
                  obtain ⟨q68, eq68, hf⟩ := ob hf
                  refine j_callVi (pc := 156) C (rest := []) d_Mo_head_156 (c_Mo_goesTo (g := g) (ar := ar) eq68) cv_Mo_goesTo tw1194 0 rfl rfl cut_same rfl rfl (Nat.le_of_ble_eq_true rfl) (kc2 := 0) (ks2 := 0) (by decide) ?_
                  refine j_if_eq (pc := 159) C d_Mo_head_159 (tgt := 166) rfl (fun h69 => ?_) (fun h69 => ?_)
                  · rw [if_pos h69] at hf
                    refine j_iconst (pc := 166) C d_Mo_head_166 ck_0 ?_
                    cases hf
                    exact j_zret (pc := 167) C d_Mo_head_167 rfl ⟨rfl, rfl⟩ (Nat.le_of_ble_eq_true rfl) (Nat.le_of_ble_eq_true rfl)
                  · rw [if_neg h69] at hf
                    refine j_iconst (pc := 162) C d_Mo_head_162 ck_1 ?_
                    refine j_goto (pc := 163) C d_Mo_head_163 (tgt := 167) rfl ?_
                    cases hf
                    exact j_zret (pc := 167) C d_Mo_head_167 rfl ⟨rfl, rfl⟩ (Nat.le_of_ble_eq_true rfl) (Nat.le_of_ble_eq_true rfl)
            · rw [if_neg h57] at hf
              refine j_aload_n (pc := 130) C d_Mo_head_130 rfl 0 rfl ?_
              refine j_iconst (pc := 131) C d_Mo_head_131 ck_5 ?_
              obtain ⟨q70, eq70, hf⟩ := ob hf
              refine j_callVi (pc := 132) C (rest := []) d_Mo_head_132 (c_Mo_goesTo (g := g) (ar := ar) eq70) cv_Mo_goesTo tw1194 0 rfl rfl cut_same rfl rfl (Nat.le_of_ble_eq_true rfl) (kc2 := 0) (ks2 := 0) (by decide) ?_
              obtain ⟨b71, hf⟩ := og hf
              cases hf
              exact j_zret (pc := 135) C d_Mo_head_135 (isb_n b71) ⟨rfl, rfl⟩ (Nat.le_of_ble_eq_true rfl) (Nat.le_of_ble_eq_true rfl)
        · rw [if_pos h42] at hf
          refine j_aload_n (pc := 88) C d_Mo_head_88 rfl 0 rfl ?_
          refine j_iload_n (pc := 89) C d_Mo_head_89 rfl 1 rfl ?_
          refine j_bipush (pc := 90) C d_Mo_head_90 cb_123 ?_
          obtain ⟨q72, eq72, hf⟩ := ob hf
          refine j_callVi (pc := 92) C (rest := []) d_Mo_head_92 (c_Mo_is (g := g) (ar := ar) eq72) cv_Mo_is tw1198 0 rfl rfl cut_same rfl rfl (Nat.le_of_ble_eq_true rfl) (kc2 := 0) (ks2 := 0) (by decide) ?_
          refine j_if_eq (pc := 95) C d_Mo_head_95 (tgt := 110) rfl (fun h73 => ?_) (fun h73 => ?_)
          · rw [if_pos h73] at hf
            refine j_iconst (pc := 110) C d_Mo_head_110 ck_0 ?_
            cases hf
            exact j_zret (pc := 111) C d_Mo_head_111 rfl ⟨rfl, rfl⟩ (Nat.le_of_ble_eq_true rfl) (Nat.le_of_ble_eq_true rfl)
          · rw [if_neg h73] at hf
            refine j_aload_n (pc := 98) C d_Mo_head_98 rfl 0 rfl ?_
            refine j_iload_n (pc := 99) C d_Mo_head_99 rfl 1 rfl ?_
            obtain ⟨q74, eq74, hf⟩ := ob hf
            refine j_callVi (pc := 100) C (rest := []) d_Mo_head_100 (c_Mo_openBlock (g := g) (ar := ar) eq74) cv_Mo_openBlock tw1202 0 rfl rfl cut_same rfl rfl (Nat.le_of_ble_eq_true rfl) (kc2 := 0) (ks2 := 0) (by decide) ?_
            refine j_if_eq (pc := 103) C d_Mo_head_103 (tgt := 110) rfl (fun h75 => ?_) (fun h75 => ?_)
            · rw [if_pos h75] at hf
              refine j_iconst (pc := 110) C d_Mo_head_110 ck_0 ?_
              cases hf
              exact j_zret (pc := 111) C d_Mo_head_111 rfl ⟨rfl, rfl⟩ (Nat.le_of_ble_eq_true rfl) (Nat.le_of_ble_eq_true rfl)
            · rw [if_neg h75] at hf
              refine j_iconst (pc := 106) C d_Mo_head_106 ck_1 ?_
              refine j_goto (pc := 107) C d_Mo_head_107 (tgt := 111) rfl ?_
              cases hf
              exact j_zret (pc := 111) C d_Mo_head_111 rfl ⟨rfl, rfl⟩ (Nat.le_of_ble_eq_true rfl) (Nat.le_of_ble_eq_true rfl)
      · rw [if_pos h41] at hf
        refine j_aload_n (pc := 56) C d_Mo_head_56 rfl 0 rfl ?_
        refine j_iload_n (pc := 57) C d_Mo_head_57 rfl 1 rfl ?_
        refine j_bipush (pc := 58) C d_Mo_head_58 cb_40 ?_
        obtain ⟨q76, eq76, hf⟩ := ob hf
        refine j_callVi (pc := 60) C (rest := []) d_Mo_head_60 (c_Mo_is (g := g) (ar := ar) eq76) cv_Mo_is tw1198 0 rfl rfl cut_same rfl rfl (Nat.le_of_ble_eq_true rfl) (kc2 := 0) (ks2 := 0) (by decide) ?_
        refine j_if_eq (pc := 63) C d_Mo_head_63 (tgt := 78) rfl (fun h77 => ?_) (fun h77 => ?_)
        · rw [if_pos h77] at hf
          refine j_iconst (pc := 78) C d_Mo_head_78 ck_0 ?_
          cases hf
          exact j_zret (pc := 79) C d_Mo_head_79 rfl ⟨rfl, rfl⟩ (Nat.le_of_ble_eq_true rfl) (Nat.le_of_ble_eq_true rfl)
        · rw [if_neg h77] at hf
          refine j_aload_n (pc := 66) C d_Mo_head_66 rfl 0 rfl ?_
          refine j_iconst (pc := 67) C d_Mo_head_67 ck_2 ?_
          obtain ⟨q78, eq78, hf⟩ := ob hf
          refine j_callVi (pc := 68) C (rest := []) d_Mo_head_68 (c_Mo_goesTo (g := g) (ar := ar) eq78) cv_Mo_goesTo tw1194 0 rfl rfl cut_same rfl rfl (Nat.le_of_ble_eq_true rfl) (kc2 := 0) (ks2 := 0) (by decide) ?_
          refine j_if_eq (pc := 71) C d_Mo_head_71 (tgt := 78) rfl (fun h79 => ?_) (fun h79 => ?_)
          · rw [if_pos h79] at hf
            refine j_iconst (pc := 78) C d_Mo_head_78 ck_0 ?_
            cases hf
            exact j_zret (pc := 79) C d_Mo_head_79 rfl ⟨rfl, rfl⟩ (Nat.le_of_ble_eq_true rfl) (Nat.le_of_ble_eq_true rfl)
          · rw [if_neg h79] at hf
            refine j_iconst (pc := 74) C d_Mo_head_74 ck_1 ?_
            refine j_goto (pc := 75) C d_Mo_head_75 (tgt := 79) rfl ?_
            cases hf
            exact j_zret (pc := 79) C d_Mo_head_79 rfl ⟨rfl, rfl⟩ (Nat.le_of_ble_eq_true rfl) (Nat.le_of_ble_eq_true rfl)
    · rw [if_pos h40] at hf
      refine j_aload_n (pc := 23) C d_Mo_head_23 rfl 0 rfl ?_
      refine j_get (pc := 24) C d_Mo_head_24 0 12 wR_o0 rfl (v := .ref (ar 9)) rfl (by decide) tw954 ?_
      refine j_iload_n (pc := 27) C d_Mo_head_27 rfl 1 rfl ?_
      refine j_iconst (pc := 28) C d_Mo_head_28 ck_1 ?_
      obtain ⟨b80, hf⟩ := og hf
      refine j_iast (pc := 29) C d_Mo_head_29 9 (inb_in b80) wR_a9 (ws' := wR g ar (va_up r.1 9 (upd (r.1 9) a1.toNatClampNeg 1)) r.2.1 r.2.2) wR_s9 ?_
      refine j_iload_n (pc := 30) C d_Mo_head_30 rfl 3 rfl ?_
      refine j_if_eq (pc := 31) C d_Mo_head_31 (tgt := 46) rfl (fun h => absurd h (by decide)) (fun _ => ?_)
      refine j_aload_n (pc := 34) C d_Mo_head_34 rfl 0 rfl ?_
      refine j_iconst (pc := 35) C d_Mo_head_35 ck_1 ?_
      obtain ⟨q81, eq81, hf⟩ := ob hf
      refine j_callVi (pc := 36) C (rest := []) d_Mo_head_36 (c_Mo_goesTo (g := g) (ar := ar) eq81) cv_Mo_goesTo tw1194 0 rfl rfl cut_same rfl rfl (Nat.le_of_ble_eq_true rfl) (kc2 := 0) (ks2 := 0) (by decide) ?_
      refine j_if_eq (pc := 39) C d_Mo_head_39 (tgt := 46) rfl (fun h82 => ?_) (fun h82 => ?_)
      · rw [if_pos h82] at hf
        refine j_iconst (pc := 46) C d_Mo_head_46 ck_0 ?_
        cases hf
        exact j_zret (pc := 47) C d_Mo_head_47 rfl ⟨rfl, rfl⟩ (Nat.le_of_ble_eq_true rfl) (Nat.le_of_ble_eq_true rfl)
      · rw [if_neg h82] at hf
        refine j_iconst (pc := 42) C d_Mo_head_42 ck_1 ?_
        refine j_goto (pc := 43) C d_Mo_head_43 (tgt := 47) rfl ?_
        cases hf
        exact j_zret (pc := 47) C d_Mo_head_47 rfl ⟨rfl, rfl⟩ (Nat.le_of_ble_eq_true rfl) (Nat.le_of_ble_eq_true rfl)
