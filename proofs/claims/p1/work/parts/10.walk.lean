abbrev rm_Mo_statement : Room := { frames := 2, cells := 0, slots := 0, locals := 44 }
theorem cv_Mo_statement : CV y_Mo_statement b_Mo_statement 3 (some .boolean) 1 := ⟨⟨tw1209, tw10, by decide +kernel⟩, tw1208, (sw_ (q := (y_Mo_statement, 54)) (by decide +kernel) (by decide +kernel))⟩
set_option maxHeartbeats 4000000 in
set_option maxRecDepth 100000 in
theorem c_Mo_statement {g : GT} {ar : Nat → Nat} {a1 : Int32} {r : RS} {q : Int32 × RS} (hf : f_Mo_statement a1 r = some q) : MI g y_Mo_statement b_Mo_statement 3 (some .boolean) rm_Mo_statement [.ref (ar 0), .int a1] (wR g ar r.1 r.2.1 r.2.2) q.1 (wR g ar q.2.1 q.2.2.1 q.2.2.2) := by
  refine MI.of (by decide) (Nat.le_of_ble_eq_true rfl) (fun 𝒥 C => ?_)
  unfold f_Mo_statement at hf
  change 𝒥 0 0 (wR g ar r.1 r.2.1 r.2.2) [(0, .ref (ar 0)), (1, .int a1)] [] 0
  refine j_aload_n (pc := 0) C d_Mo_statement_0 rfl 0 rfl ?_
  refine j_iconst (pc := 1) C d_Mo_statement_1 ck_m1 ?_
  refine j_put (pc := 2) C d_Mo_statement_2 0 33 wR_o0 rfl (by decide) tw975 pd_I rfl rfl rfl (Nat.le_of_ble_eq_true rfl) (ws' := wR g ar r.1 (va_up r.2.1 10 (-1)) r.2.2) wR_p0_33 ?_
  refine j_aload_n (pc := 5) C d_Mo_statement_5 rfl 0 rfl ?_
  refine j_iload_n (pc := 6) C d_Mo_statement_6 rfl 1 rfl ?_
  refine j_bipush (pc := 7) C d_Mo_statement_7 cb_123 ?_
  obtain ⟨q1, eq1, hf⟩ := ob hf
  refine j_callVi (pc := 9) C (rest := []) d_Mo_statement_9 (c_Mo_is (g := g) (ar := ar) eq1) cv_Mo_is tw1198 0 rfl rfl cut_same rfl rfl (Nat.le_of_ble_eq_true rfl) (kc2 := 0) (ks2 := 0) (by decide) ?_
  refine j_if_eq (pc := 12) C d_Mo_statement_12 (tgt := 21) rfl (fun h2 => ?_) (fun h2 => ?_)
  · rw [if_pos h2] at hf
    refine j_aload_n (pc := 21) C d_Mo_statement_21 rfl 0 rfl ?_
    refine j_iload_n (pc := 22) C d_Mo_statement_22 rfl 1 rfl ?_
    refine j_bipush (pc := 23) C d_Mo_statement_23 cb_125 ?_
    obtain ⟨q3, eq3, hf⟩ := ob hf
    refine j_callVi (pc := 25) C (rest := []) d_Mo_statement_25 (c_Mo_is (g := g) (ar := ar) eq3) cv_Mo_is tw1198 0 rfl rfl cut_same rfl rfl (Nat.le_of_ble_eq_true rfl) (kc2 := 0) (ks2 := 0) (by decide) ?_
    refine j_if_eq (pc := 28) C d_Mo_statement_28 (tgt := 37) rfl (fun h4 => ?_) (fun h4 => ?_)
    · rw [if_pos h4] at hf
      refine j_aload_n (pc := 37) C d_Mo_statement_37 rfl 0 rfl ?_
      refine j_get (pc := 38) C d_Mo_statement_38 0 8 wR_o0 rfl (v := .ref (ar 5)) rfl (by decide) tw950 ?_
      refine j_iload_n (pc := 41) C d_Mo_statement_41 rfl 1 rfl ?_
      obtain ⟨b5, hf⟩ := og hf
      refine j_iald (pc := 42) C d_Mo_statement_42 5 (inb_in b5) (x := q3.2.1 5 a1.toNatClampNeg) wR_a5 rfl ?_
      refine j_iconst (pc := 43) C d_Mo_statement_43 ck_2 ?_
      refine j_icmp_ne (pc := 44) C d_Mo_statement_44 (tgt := 61) rfl (fun h6 => ?_) (fun h6 => ?_)
      · rw [if_neg h6] at hf
        refine j_aload_n (pc := 61) C d_Mo_statement_61 rfl 0 rfl ?_
        refine j_get (pc := 62) C d_Mo_statement_62 0 8 wR_o0 rfl (v := .ref (ar 5)) rfl (by decide) tw950 ?_
        refine j_iload_n (pc := 65) C d_Mo_statement_65 rfl 1 rfl ?_
        obtain ⟨b7, hf⟩ := og hf
        refine j_iald (pc := 66) C d_Mo_statement_66 5 (inb_in b7) (x := q3.2.1 5 a1.toNatClampNeg) wR_a5 rfl ?_
        refine j_iconst (pc := 67) C d_Mo_statement_67 ck_1 ?_
        refine j_icmp_ne (pc := 68) C d_Mo_statement_68 (tgt := 84) rfl (fun h8 => ?_) (fun h8 => ?_)
        · rw [if_neg h8] at hf
          refine j_iconst (pc := 84) C d_Mo_statement_84 ck_m1 ?_
          refine j_istore_n (pc := 85) C d_Mo_statement_85 rfl [1, 2, 0] (by decide) (lc' := [(0, .ref (ar 0)), (1, .int a1), (2, .int (-1))]) rfl ?_
          refine j_iload_n (pc := 86) C d_Mo_statement_86 rfl 2 rfl ?_
          refine j_iconst (pc := 87) C d_Mo_statement_87 ck_1 ?_
          refine j_icmp_ne (pc := 88) C d_Mo_statement_88 (tgt := 98) rfl (fun _ => ?_) (fun h => absurd h (by decide))
          refine j_iload_n (pc := 98) C d_Mo_statement_98 rfl 2 rfl ?_
          refine j_iconst (pc := 99) C d_Mo_statement_99 ck_4 ?_
          refine j_icmp_eq (pc := 100) C d_Mo_statement_100 (tgt := 108) rfl (fun h => absurd h (by decide)) (fun _ => ?_)
          refine j_iload_n (pc := 103) C d_Mo_statement_103 rfl 2 rfl ?_
          refine j_iconst (pc := 104) C d_Mo_statement_104 ck_5 ?_
          refine j_icmp_ne (pc := 105) C d_Mo_statement_105 (tgt := 115) rfl (fun _ => ?_) (fun h => absurd h (by decide))
          refine j_iload_n (pc := 115) C d_Mo_statement_115 rfl 2 rfl ?_
          refine j_iconst (pc := 116) C d_Mo_statement_116 ck_2 ?_
          refine j_icmp_eq (pc := 117) C d_Mo_statement_117 (tgt := 125) rfl (fun h => absurd h (by decide)) (fun _ => ?_)
          refine j_iload_n (pc := 120) C d_Mo_statement_120 rfl 2 rfl ?_
          refine j_iconst (pc := 121) C d_Mo_statement_121 ck_3 ?_
          refine j_icmp_ne (pc := 122) C d_Mo_statement_122 (tgt := 138) rfl (fun _ => ?_) (fun h => absurd h (by decide))
          refine j_iconst (pc := 138) C d_Mo_statement_138 ck_0 ?_
          cases hf
          exact j_zret (pc := 139) C d_Mo_statement_139 rfl ⟨rfl, rfl⟩ (Nat.le_of_ble_eq_true rfl) (Nat.le_of_ble_eq_true rfl)
        · rw [if_pos h8] at hf
          refine j_aload_n (pc := 71) C d_Mo_statement_71 rfl 0 rfl ?_
          refine j_aload_n (pc := 72) C d_Mo_statement_72 rfl 0 rfl ?_
          refine j_get (pc := 73) C d_Mo_statement_73 0 11 wR_o0 rfl (v := .ref (ar 8)) rfl (by decide) tw953 ?_
          refine j_iload_n (pc := 76) C d_Mo_statement_76 rfl 1 rfl ?_
          obtain ⟨b9, hf⟩ := og hf
          refine j_lald (pc := 77) C d_Mo_statement_77 8 (inb_in b9) (x := q3.2.2.2 8 a1.toNatClampNeg) wR_a8 rfl ?_
          obtain ⟨q10, eq10, hf⟩ := ob hf
          refine j_callVi (pc := 78) C (rest := []) d_Mo_statement_78 (c_Mo_keyword (g := g) (ar := ar) eq10) cv_Mo_keyword tw1169 0 rfl rfl cut_same rfl rfl (Nat.le_of_ble_eq_true rfl) (kc2 := 0) (ks2 := 0) (by decide) ?_
          refine j_goto (pc := 81) C d_Mo_statement_81 (tgt := 85) rfl ?_
          refine j_istore_n (pc := 85) C d_Mo_statement_85 rfl [1, 2, 0] (by decide) (lc' := [(0, .ref (ar 0)), (1, .int a1), (2, .int q10.1)]) rfl ?_
          refine j_iload_n (pc := 86) C d_Mo_statement_86 rfl 2 rfl ?_
          refine j_iconst (pc := 87) C d_Mo_statement_87 ck_1 ?_
          refine j_icmp_ne (pc := 88) C d_Mo_statement_88 (tgt := 98) rfl (fun h11 => ?_) (fun h11 => ?_)
          · rw [if_neg h11] at hf
            refine j_iload_n (pc := 98) C d_Mo_statement_98 rfl 2 rfl ?_
            refine j_iconst (pc := 99) C d_Mo_statement_99 ck_4 ?_
            refine j_icmp_eq (pc := 100) C d_Mo_statement_100 (tgt := 108) rfl (fun h12 => ?_) (fun h12 => ?_)
            · rw [if_pos h12] at hf
              refine j_aload_n (pc := 108) C d_Mo_statement_108 rfl 0 rfl ?_
              refine j_bipush (pc := 109) C d_Mo_statement_109 cb_59 ?_
              obtain ⟨q13, eq13, hf⟩ := ob hf
              refine j_callVi (pc := 111) C (rest := []) d_Mo_statement_111 (c_Mo_expression (g := g) (ar := ar) eq13) cv_Mo_expression tw1214 0 rfl rfl cut_same rfl rfl (Nat.le_of_ble_eq_true rfl) (kc2 := 0) (ks2 := 0) (by decide) ?_
              obtain ⟨b14, hf⟩ := og hf
              cases hf
              exact j_zret (pc := 114) C d_Mo_statement_114 (isb_n b14) ⟨rfl, rfl⟩ (Nat.le_of_ble_eq_true rfl) (Nat.le_of_ble_eq_true rfl)
            · rw [if_neg h12] at hf
              refine j_iload_n (pc := 103) C d_Mo_statement_103 rfl 2 rfl ?_
              refine j_iconst (pc := 104) C d_Mo_statement_104 ck_5 ?_
              refine j_icmp_ne (pc := 105) C d_Mo_statement_105 (tgt := 115) rfl (fun h15 => ?_) (fun h15 => ?_)
              · rw [if_neg h15] at hf
                refine j_iload_n (pc := 115) C d_Mo_statement_115 rfl 2 rfl ?_
                refine j_iconst (pc := 116) C d_Mo_statement_116 ck_2 ?_
                refine j_icmp_eq (pc := 117) C d_Mo_statement_117 (tgt := 125) rfl (fun h16 => ?_) (fun h16 => ?_)
                · rw [if_pos h16] at hf
                  refine j_aload_n (pc := 125) C d_Mo_statement_125 rfl 0 rfl ?_
                  refine j_bipush (pc := 126) C d_Mo_statement_126 cb_123 ?_
                  obtain ⟨q17, eq17, hf⟩ := ob hf
                  refine j_callVi (pc := 128) C (rest := []) d_Mo_statement_128 (c_Mo_expression (g := g) (ar := ar) eq17) cv_Mo_expression tw1214 0 rfl rfl cut_same rfl rfl (Nat.le_of_ble_eq_true rfl) (kc2 := 0) (ks2 := 0) (by decide) ?_
                  refine j_if_eq (pc := 131) C d_Mo_statement_131 (tgt := 138) rfl (fun h18 => ?_) (fun h18 => ?_)
                  · rw [if_pos h18] at hf
                    refine j_iconst (pc := 138) C d_Mo_statement_138 ck_0 ?_
                    cases hf
                    exact j_zret (pc := 139) C d_Mo_statement_139 rfl ⟨rfl, rfl⟩ (Nat.le_of_ble_eq_true rfl) (Nat.le_of_ble_eq_true rfl)
                  · rw [if_neg h18] at hf
                    refine j_iconst (pc := 134) C d_Mo_statement_134 ck_1 ?_
                    refine j_goto (pc := 135) C d_Mo_statement_135 (tgt := 139) rfl ?_
                    cases hf
                    exact j_zret (pc := 139) C d_Mo_statement_139 rfl ⟨rfl, rfl⟩ (Nat.le_of_ble_eq_true rfl) (Nat.le_of_ble_eq_true rfl)
                · rw [if_neg h16] at hf
                  refine j_iload_n (pc := 120) C d_Mo_statement_120 rfl 2 rfl ?_
                  refine j_iconst (pc := 121) C d_Mo_statement_121 ck_3 ?_
                  refine j_icmp_ne (pc := 122) C d_Mo_statement_122 (tgt := 138) rfl (fun h19 => ?_) (fun h19 => ?_)
                  · rw [if_neg h19] at hf
                    refine j_iconst (pc := 138) C d_Mo_statement_138 ck_0 ?_
                    cases hf
                    exact j_zret (pc := 139) C d_Mo_statement_139 rfl ⟨rfl, rfl⟩ (Nat.le_of_ble_eq_true rfl) (Nat.le_of_ble_eq_true rfl)
                  · rw [if_pos h19] at hf
                    refine j_aload_n (pc := 125) C d_Mo_statement_125 rfl 0 rfl ?_
                    refine j_bipush (pc := 126) C d_Mo_statement_126 cb_123 ?_
                    obtain ⟨q20, eq20, hf⟩ := ob hf
                    refine j_callVi (pc := 128) C (rest := []) d_Mo_statement_128 (c_Mo_expression (g := g) (ar := ar) eq20) cv_Mo_expression tw1214 0 rfl rfl cut_same rfl rfl (Nat.le_of_ble_eq_true rfl) (kc2 := 0) (ks2 := 0) (by decide) ?_
                    refine j_if_eq (pc := 131) C d_Mo_statement_131 (tgt := 138) rfl (fun h21 => ?_) (fun h21 => ?_)
                    · rw [if_pos h21] at hf
                      refine j_iconst (pc := 138) C d_Mo_statement_138 ck_0 ?_
                      cases hf
                      exact j_zret (pc := 139) C d_Mo_statement_139 rfl ⟨rfl, rfl⟩ (Nat.le_of_ble_eq_true rfl) (Nat.le_of_ble_eq_true rfl)
                    · rw [if_neg h21] at hf
                      refine j_iconst (pc := 134) C d_Mo_statement_134 ck_1 ?_
                      refine j_goto (pc := 135) C d_Mo_statement_135 (tgt := 139) rfl ?_
                      cases hf
                      exact j_zret (pc := 139) C d_Mo_statement_139 rfl ⟨rfl, rfl⟩ (Nat.le_of_ble_eq_true rfl) (Nat.le_of_ble_eq_true rfl)
              · rw [if_pos h15] at hf
                refine j_aload_n (pc := 108) C d_Mo_statement_108 rfl 0 rfl ?_
                refine j_bipush (pc := 109) C d_Mo_statement_109 cb_59 ?_
                obtain ⟨q22, eq22, hf⟩ := ob hf
                refine j_callVi (pc := 111) C (rest := []) d_Mo_statement_111 (c_Mo_expression (g := g) (ar := ar) eq22) cv_Mo_expression tw1214 0 rfl rfl cut_same rfl rfl (Nat.le_of_ble_eq_true rfl) (kc2 := 0) (ks2 := 0) (by decide) ?_
                obtain ⟨b23, hf⟩ := og hf
                cases hf
                exact j_zret (pc := 114) C d_Mo_statement_114 (isb_n b23) ⟨rfl, rfl⟩ (Nat.le_of_ble_eq_true rfl) (Nat.le_of_ble_eq_true rfl)
          · rw [if_pos h11] at hf
            refine j_aload_n (pc := 91) C d_Mo_statement_91 rfl 0 rfl ?_
            refine j_bipush (pc := 92) C d_Mo_statement_92 cb_7 ?_
            obtain ⟨q24, eq24, hf⟩ := ob hf
            refine j_callVi (pc := 94) C (rest := []) d_Mo_statement_94 (c_Mo_goesTo (g := g) (ar := ar) eq24) cv_Mo_goesTo tw1194 0 rfl rfl cut_same rfl rfl (Nat.le_of_ble_eq_true rfl) (kc2 := 0) (ks2 := 0) (by decide) ?_
            obtain ⟨b25, hf⟩ := og hf
            cases hf
            exact j_zret (pc := 97) C d_Mo_statement_97 (isb_n b25) ⟨rfl, rfl⟩ (Nat.le_of_ble_eq_true rfl) (Nat.le_of_ble_eq_true rfl)
      · rw [if_pos h6] at hf
        refine j_aload_n (pc := 47) C d_Mo_statement_47 rfl 0 rfl ?_
        refine j_get (pc := 48) C d_Mo_statement_48 0 12 wR_o0 rfl (v := .ref (ar 9)) rfl (by decide) tw954 ?_
        refine j_iload_n (pc := 51) C d_Mo_statement_51 rfl 1 rfl ?_
        refine j_iconst (pc := 52) C d_Mo_statement_52 ck_4 ?_
        obtain ⟨b26, hf⟩ := og hf
        refine j_iast (pc := 53) C d_Mo_statement_53 9 (inb_in b26) wR_a9 (ws' := wR g ar (va_up q3.2.1 9 (upd (q3.2.1 9) a1.toNatClampNeg 4)) q3.2.2.1 q3.2.2.2) wR_s9 ?_
        refine j_aload_n (pc := 54) C d_Mo_statement_54 rfl 0 rfl ?_
        refine j_bipush (pc := 55) C d_Mo_statement_55 cb_8 ?_
        obtain ⟨q27, eq27, hf⟩ := ob hf
        refine j_callVi (pc := 57) C (rest := []) d_Mo_statement_57 (c_Mo_goesTo (g := g) (ar := ar) eq27) cv_Mo_goesTo tw1194 0 rfl rfl cut_same rfl rfl (Nat.le_of_ble_eq_true rfl) (kc2 := 0) (ks2 := 0) (by decide) ?_
        obtain ⟨b28, hf⟩ := og hf
        cases hf
        exact j_zret (pc := 60) C d_Mo_statement_60 (isb_n b28) ⟨rfl, rfl⟩ (Nat.le_of_ble_eq_true rfl) (Nat.le_of_ble_eq_true rfl)
    · rw [if_neg h4] at hf
      refine j_aload_n (pc := 31) C d_Mo_statement_31 rfl 0 rfl ?_
      refine j_iload_n (pc := 32) C d_Mo_statement_32 rfl 1 rfl ?_
      obtain ⟨q29, eq29, hf⟩ := ob hf
      refine j_callVi (pc := 33) C (rest := []) d_Mo_statement_33 (c_Mo_closeBlock (g := g) (ar := ar) eq29) cv_Mo_closeBlock tw1210 0 rfl rfl cut_same rfl rfl (Nat.le_of_ble_eq_true rfl) (kc2 := 0) (ks2 := 0) (by decide) ?_
      obtain ⟨b30, hf⟩ := og hf
      cases hf
      exact j_zret (pc := 36) C d_Mo_statement_36 (isb_n b30) ⟨rfl, rfl⟩ (Nat.le_of_ble_eq_true rfl) (Nat.le_of_ble_eq_true rfl)
  · rw [if_neg h2] at hf
    refine j_aload_n (pc := 15) C d_Mo_statement_15 rfl 0 rfl ?_
    refine j_iload_n (pc := 16) C d_Mo_statement_16 rfl 1 rfl ?_
    obtain ⟨q31, eq31, hf⟩ := ob hf
    refine j_callVi (pc := 17) C (rest := []) d_Mo_statement_17 (c_Mo_openBlock (g := g) (ar := ar) eq31) cv_Mo_openBlock tw1202 0 rfl rfl cut_same rfl rfl (Nat.le_of_ble_eq_true rfl) (kc2 := 0) (ks2 := 0) (by decide) ?_
    obtain ⟨b32, hf⟩ := og hf
    cases hf
    exact j_zret (pc := 20) C d_Mo_statement_20 (isb_n b32) ⟨rfl, rfl⟩ (Nat.le_of_ble_eq_true rfl) (Nat.le_of_ble_eq_true rfl)
abbrev rm_Mo_closeFrame : Room := { frames := 1, cells := 0, slots := 0, locals := 21 }
theorem cv_Mo_closeFrame : CV y_Mo_closeFrame b_Mo_closeFrame 1 (some .boolean) 0 := ⟨⟨tw1225, tw10, by decide +kernel⟩, tw1224, (sw_ (q := (y_Mo_closeFrame, 54)) (by decide +kernel) (by decide +kernel))⟩
set_option maxHeartbeats 4000000 in
set_option maxRecDepth 100000 in
theorem c_Mo_closeFrame {g : GT} {ar : Nat → Nat} {r : RS} {q : Int32 × RS} (hf : f_Mo_closeFrame r = some q) : MI g y_Mo_closeFrame b_Mo_closeFrame 1 (some .boolean) rm_Mo_closeFrame [.ref (ar 0)] (wR g ar r.1 r.2.1 r.2.2) q.1 (wR g ar q.2.1 q.2.2.1 q.2.2.2) := by
  refine MI.of (by decide) (Nat.le_of_ble_eq_true rfl) (fun 𝒥 C => ?_)
  unfold f_Mo_closeFrame at hf
  change 𝒥 0 0 (wR g ar r.1 r.2.1 r.2.2) [(0, .ref (ar 0))] [] 0
  refine j_aload_n (pc := 0) C d_Mo_closeFrame_0 rfl 0 rfl ?_
  refine j_dup (pc := 1) C d_Mo_closeFrame_1 rfl ?_
  refine j_get (pc := 2) C d_Mo_closeFrame_2 0 29 wR_o0 rfl (v := .int (r.2.1 8)) rfl (by decide) tw971 ?_
  refine j_iconst (pc := 5) C d_Mo_closeFrame_5 ck_1 ?_
  refine j_isub (pc := 6) C d_Mo_closeFrame_6 ?_
  refine j_put (pc := 7) C d_Mo_closeFrame_7 0 29 wR_o0 rfl (by decide) tw971 pd_I rfl rfl rfl (Nat.le_of_ble_eq_true rfl) (ws' := wR g ar r.1 (va_up r.2.1 8 ((r.2.1 8) - 1)) r.2.2) wR_p0_29 ?_
  refine j_aload_n (pc := 10) C d_Mo_closeFrame_10 rfl 0 rfl ?_
  refine j_bipush (pc := 11) C d_Mo_closeFrame_11 cb_11 ?_
  obtain ⟨q1, eq1, hf⟩ := ob hf
  refine j_callVi (pc := 13) C (rest := []) d_Mo_closeFrame_13 (c_Mo_goesTo (g := g) (ar := ar) eq1) cv_Mo_goesTo tw1194 0 rfl rfl cut_same rfl rfl (Nat.le_of_ble_eq_true rfl) (kc2 := 0) (ks2 := 0) (by decide) ?_
  obtain ⟨b2, hf⟩ := og hf
  cases hf
  exact j_zret (pc := 16) C d_Mo_closeFrame_16 (isb_n b2) ⟨rfl, rfl⟩ (Nat.le_of_ble_eq_true rfl) (Nat.le_of_ble_eq_true rfl)
abbrev rm_Mo_operand : Room := { frames := 2, cells := 0, slots := 0, locals := 42 }
theorem cv_Mo_operand : CV y_Mo_operand b_Mo_operand 2 (some .boolean) 1 := ⟨⟨tw1221, tw10, by decide +kernel⟩, tw1220, (sw_ (q := (y_Mo_operand, 54)) (by decide +kernel) (by decide +kernel))⟩
set_option maxHeartbeats 4000000 in
set_option maxRecDepth 100000 in
theorem c_Mo_operand {g : GT} {ar : Nat → Nat} {a1 : Int32} {r : RS} {q : Int32 × RS} (hf : f_Mo_operand a1 r = some q) : MI g y_Mo_operand b_Mo_operand 2 (some .boolean) rm_Mo_operand [.ref (ar 0), .int a1] (wR g ar r.1 r.2.1 r.2.2) q.1 (wR g ar q.2.1 q.2.2.1 q.2.2.2) := by
  refine MI.of (by decide) (Nat.le_of_ble_eq_true rfl) (fun 𝒥 C => ?_)
  unfold f_Mo_operand at hf
  change 𝒥 0 0 (wR g ar r.1 r.2.1 r.2.2) [(0, .ref (ar 0)), (1, .int a1)] [] 0
  refine j_aload_n (pc := 0) C d_Mo_operand_0 rfl 0 rfl ?_
  refine j_get (pc := 1) C d_Mo_operand_1 0 26 wR_o0 rfl (v := .int (r.2.1 6)) rfl (by decide) tw968 ?_
  refine j_bipush (pc := 4) C d_Mo_operand_4 cb_10 ?_
  refine j_icmp_ne (pc := 6) C d_Mo_operand_6 (tgt := 24) rfl (fun h1 => ?_) (fun h1 => ?_)
  · rw [if_neg h1] at hf
    refine j_aload_n (pc := 24) C d_Mo_operand_24 rfl 0 rfl ?_
    refine j_get (pc := 25) C d_Mo_operand_25 0 26 wR_o0 rfl (v := .int (r.2.1 6)) rfl (by decide) tw968 ?_
    refine j_bipush (pc := 28) C d_Mo_operand_28 cb_10 ?_
    refine j_icmp_ne (pc := 30) C d_Mo_operand_30 (tgt := 48) rfl (fun h2 => ?_) (fun h2 => ?_)
    · rw [if_neg h2] at hf
      refine j_aload_n (pc := 48) C d_Mo_operand_48 rfl 0 rfl ?_
      refine j_get (pc := 49) C d_Mo_operand_49 0 8 wR_o0 rfl (v := .ref (ar 5)) rfl (by decide) tw950 ?_
      refine j_iload_n (pc := 52) C d_Mo_operand_52 rfl 1 rfl ?_
      obtain ⟨b3, hf⟩ := og hf
      refine j_iald (pc := 53) C d_Mo_operand_53 5 (inb_in b3) (x := r.1 5 a1.toNatClampNeg) wR_a5 rfl ?_
      refine j_iconst (pc := 54) C d_Mo_operand_54 ck_3 ?_
      refine j_icmp_ne (pc := 55) C d_Mo_operand_55 (tgt := 65) rfl (fun h4 => ?_) (fun h4 => ?_)
      · rw [if_neg h4] at hf
        refine j_aload_n (pc := 65) C d_Mo_operand_65 rfl 0 rfl ?_
        refine j_get (pc := 66) C d_Mo_operand_66 0 8 wR_o0 rfl (v := .ref (ar 5)) rfl (by decide) tw950 ?_
        refine j_iload_n (pc := 69) C d_Mo_operand_69 rfl 1 rfl ?_
        obtain ⟨b5, hf⟩ := og hf
        refine j_iald (pc := 70) C d_Mo_operand_70 5 (inb_in b5) (x := r.1 5 a1.toNatClampNeg) wR_a5 rfl ?_
        refine j_iconst (pc := 71) C d_Mo_operand_71 ck_2 ?_
        refine j_icmp_ne (pc := 72) C d_Mo_operand_72 (tgt := 89) rfl (fun h6 => ?_) (fun h6 => ?_)
        · rw [if_neg h6] at hf
          refine j_aload_n (pc := 89) C d_Mo_operand_89 rfl 0 rfl ?_
          refine j_iload_n (pc := 90) C d_Mo_operand_90 rfl 1 rfl ?_
          refine j_bipush (pc := 91) C d_Mo_operand_91 cb_40 ?_
          obtain ⟨q7, eq7, hf⟩ := ob hf
          refine j_callVi (pc := 93) C (rest := []) d_Mo_operand_93 (c_Mo_is (g := g) (ar := ar) eq7) cv_Mo_is tw1198 0 rfl rfl cut_same rfl rfl (Nat.le_of_ble_eq_true rfl) (kc2 := 0) (ks2 := 0) (by decide) ?_
          refine j_if_eq (pc := 96) C d_Mo_operand_96 (tgt := 111) rfl (fun h8 => ?_) (fun h8 => ?_)
          · rw [if_pos h8] at hf
            refine j_iconst (pc := 111) C d_Mo_operand_111 ck_0 ?_
            cases hf
            exact j_zret (pc := 112) C d_Mo_operand_112 rfl ⟨rfl, rfl⟩ (Nat.le_of_ble_eq_true rfl) (Nat.le_of_ble_eq_true rfl)
          · rw [if_neg h8] at hf
            refine j_aload_n (pc := 99) C d_Mo_operand_99 rfl 0 rfl ?_
            refine j_iconst (pc := 100) C d_Mo_operand_100 ck_m1 ?_
            obtain ⟨q9, eq9, hf⟩ := ob hf
            refine j_callVi (pc := 101) C (rest := []) d_Mo_operand_101 (c_Mo_openFrame (g := g) (ar := ar) eq9) cv_Mo_openFrame tw1226 0 rfl rfl cut_same rfl rfl (Nat.le_of_ble_eq_true rfl) (kc2 := 0) (ks2 := 0) (by decide) ?_
            refine j_if_eq (pc := 104) C d_Mo_operand_104 (tgt := 111) rfl (fun h10 => ?_) (fun h10 => ?_)
            · rw [if_pos h10] at hf
              refine j_iconst (pc := 111) C d_Mo_operand_111 ck_0 ?_
              cases hf
              exact j_zret (pc := 112) C d_Mo_operand_112 rfl ⟨rfl, rfl⟩ (Nat.le_of_ble_eq_true rfl) (Nat.le_of_ble_eq_true rfl)
            · rw [if_neg h10] at hf
              refine j_iconst (pc := 107) C d_Mo_operand_107 ck_1 ?_
              refine j_goto (pc := 108) C d_Mo_operand_108 (tgt := 112) rfl ?_
              cases hf
              exact j_zret (pc := 112) C d_Mo_operand_112 rfl ⟨rfl, rfl⟩ (Nat.le_of_ble_eq_true rfl) (Nat.le_of_ble_eq_true rfl)
        · rw [if_pos h6] at hf
          refine j_aload_n (pc := 75) C d_Mo_operand_75 rfl 0 rfl ?_
          refine j_get (pc := 76) C d_Mo_operand_76 0 12 wR_o0 rfl (v := .ref (ar 9)) rfl (by decide) tw954 ?_
          refine j_iload_n (pc := 79) C d_Mo_operand_79 rfl 1 rfl ?_
          refine j_iconst (pc := 80) C d_Mo_operand_80 ck_5 ?_
          obtain ⟨b11, hf⟩ := og hf
          refine j_iast (pc := 81) C d_Mo_operand_81 9 (inb_in b11) wR_a9 (ws' := wR g ar (va_up r.1 9 (upd (r.1 9) a1.toNatClampNeg 5)) r.2.1 r.2.2) wR_s9 ?_
          refine j_aload_n (pc := 82) C d_Mo_operand_82 rfl 0 rfl ?_
          refine j_bipush (pc := 83) C d_Mo_operand_83 cb_12 ?_
          obtain ⟨q12, eq12, hf⟩ := ob hf
          refine j_callVi (pc := 85) C (rest := []) d_Mo_operand_85 (c_Mo_goesTo (g := g) (ar := ar) eq12) cv_Mo_goesTo tw1194 0 rfl rfl cut_same rfl rfl (Nat.le_of_ble_eq_true rfl) (kc2 := 0) (ks2 := 0) (by decide) ?_
          obtain ⟨b13, hf⟩ := og hf
          cases hf
          exact j_zret (pc := 88) C d_Mo_operand_88 (isb_n b13) ⟨rfl, rfl⟩ (Nat.le_of_ble_eq_true rfl) (Nat.le_of_ble_eq_true rfl)
      · rw [if_pos h4] at hf
        refine j_aload_n (pc := 58) C d_Mo_operand_58 rfl 0 rfl ?_
        refine j_bipush (pc := 59) C d_Mo_operand_59 cb_11 ?_
        obtain ⟨q14, eq14, hf⟩ := ob hf
        refine j_callVi (pc := 61) C (rest := []) d_Mo_operand_61 (c_Mo_goesTo (g := g) (ar := ar) eq14) cv_Mo_goesTo tw1194 0 rfl rfl cut_same rfl rfl (Nat.le_of_ble_eq_true rfl) (kc2 := 0) (ks2 := 0) (by decide) ?_
        obtain ⟨b15, hf⟩ := og hf
        cases hf
        exact j_zret (pc := 64) C d_Mo_operand_64 (isb_n b15) ⟨rfl, rfl⟩ (Nat.le_of_ble_eq_true rfl) (Nat.le_of_ble_eq_true rfl)
    · rw [if_pos h2] at hf
      refine j_aload_n (pc := 33) C d_Mo_operand_33 rfl 0 rfl ?_
      refine j_get (pc := 34) C d_Mo_operand_34 0 15 wR_o0 rfl (v := .ref (ar 12)) rfl (by decide) tw957 ?_
      refine j_aload_n (pc := 37) C d_Mo_operand_37 rfl 0 rfl ?_
      refine j_get (pc := 38) C d_Mo_operand_38 0 30 wR_o0 rfl (v := .ref (ar 22)) rfl (by decide) tw972 ?_
      refine j_aload_n (pc := 41) C d_Mo_operand_41 rfl 0 rfl ?_
      refine j_get (pc := 42) C d_Mo_operand_42 0 29 wR_o0 rfl (v := .int (r.2.1 8)) rfl (by decide) tw971 ?_
      obtain ⟨b16, hf⟩ := og hf
      refine j_iald (pc := 45) C d_Mo_operand_45 22 (inb_in b16) (x := r.1 22 (r.2.1 8).toNatClampNeg) wR_a22 rfl ?_
      refine j_iconst (pc := 46) C d_Mo_operand_46 ck_1 ?_
      obtain ⟨b17, hf⟩ := og hf
      refine j_iast (pc := 47) C d_Mo_operand_47 12 (inb_in b17) wR_a12 (ws' := wR g ar (va_up r.1 12 (upd (r.1 12) (r.1 22 (r.2.1 8).toNatClampNeg).toNatClampNeg 1)) r.2.1 r.2.2) wR_s12 ?_
      refine j_aload_n (pc := 48) C d_Mo_operand_48 rfl 0 rfl ?_
      refine j_get (pc := 49) C d_Mo_operand_49 0 8 wR_o0 rfl (v := .ref (ar 5)) rfl (by decide) tw950 ?_
      refine j_iload_n (pc := 52) C d_Mo_operand_52 rfl 1 rfl ?_
      obtain ⟨b18, hf⟩ := og hf
      refine j_iald (pc := 53) C d_Mo_operand_53 5 (inb_in b18) (x := r.1 5 a1.toNatClampNeg) wR_a5 rfl ?_
      refine j_iconst (pc := 54) C d_Mo_operand_54 ck_3 ?_
      refine j_icmp_ne (pc := 55) C d_Mo_operand_55 (tgt := 65) rfl (fun h19 => ?_) (fun h19 => ?_)
      · rw [if_neg h19] at hf
        refine j_aload_n (pc := 65) C d_Mo_operand_65 rfl 0 rfl ?_
        refine j_get (pc := 66) C d_Mo_operand_66 0 8 wR_o0 rfl (v := .ref (ar 5)) rfl (by decide) tw950 ?_
        refine j_iload_n (pc := 69) C d_Mo_operand_69 rfl 1 rfl ?_
        obtain ⟨b20, hf⟩ := og hf
        refine j_iald (pc := 70) C d_Mo_operand_70 5 (inb_in b20) (x := r.1 5 a1.toNatClampNeg) wR_a5 rfl ?_
        refine j_iconst (pc := 71) C d_Mo_operand_71 ck_2 ?_
        refine j_icmp_ne (pc := 72) C d_Mo_operand_72 (tgt := 89) rfl (fun h21 => ?_) (fun h21 => ?_)
        · rw [if_neg h21] at hf
          refine j_aload_n (pc := 89) C d_Mo_operand_89 rfl 0 rfl ?_
          refine j_iload_n (pc := 90) C d_Mo_operand_90 rfl 1 rfl ?_
          refine j_bipush (pc := 91) C d_Mo_operand_91 cb_40 ?_
          obtain ⟨q22, eq22, hf⟩ := ob hf
          refine j_callVi (pc := 93) C (rest := []) d_Mo_operand_93 (c_Mo_is (g := g) (ar := ar) eq22) cv_Mo_is tw1198 0 rfl rfl cut_same rfl rfl (Nat.le_of_ble_eq_true rfl) (kc2 := 0) (ks2 := 0) (by decide) ?_
          refine j_if_eq (pc := 96) C d_Mo_operand_96 (tgt := 111) rfl (fun h23 => ?_) (fun h23 => ?_)
          · rw [if_pos h23] at hf
            refine j_iconst (pc := 111) C d_Mo_operand_111 ck_0 ?_
            cases hf
            exact j_zret (pc := 112) C d_Mo_operand_112 rfl ⟨rfl, rfl⟩ (Nat.le_of_ble_eq_true rfl) (Nat.le_of_ble_eq_true rfl)
          · rw [if_neg h23] at hf
            refine j_aload_n (pc := 99) C d_Mo_operand_99 rfl 0 rfl ?_
            refine j_iconst (pc := 100) C d_Mo_operand_100 ck_m1 ?_
            obtain ⟨q24, eq24, hf⟩ := ob hf
            refine j_callVi (pc := 101) C (rest := []) d_Mo_operand_101 (c_Mo_openFrame (g := g) (ar := ar) eq24) cv_Mo_openFrame tw1226 0 rfl rfl cut_same rfl rfl (Nat.le_of_ble_eq_true rfl) (kc2 := 0) (ks2 := 0) (by decide) ?_
            refine j_if_eq (pc := 104) C d_Mo_operand_104 (tgt := 111) rfl (fun h25 => ?_) (fun h25 => ?_)
            · rw [if_pos h25] at hf
              refine j_iconst (pc := 111) C d_Mo_operand_111 ck_0 ?_
              cases hf
              exact j_zret (pc := 112) C d_Mo_operand_112 rfl ⟨rfl, rfl⟩ (Nat.le_of_ble_eq_true rfl) (Nat.le_of_ble_eq_true rfl)
            · rw [if_neg h25] at hf
              refine j_iconst (pc := 107) C d_Mo_operand_107 ck_1 ?_
              refine j_goto (pc := 108) C d_Mo_operand_108 (tgt := 112) rfl ?_
              cases hf
              exact j_zret (pc := 112) C d_Mo_operand_112 rfl ⟨rfl, rfl⟩ (Nat.le_of_ble_eq_true rfl) (Nat.le_of_ble_eq_true rfl)
        · rw [if_pos h21] at hf
          refine j_aload_n (pc := 75) C d_Mo_operand_75 rfl 0 rfl ?_
          refine j_get (pc := 76) C d_Mo_operand_76 0 12 wR_o0 rfl (v := .ref (ar 9)) rfl (by decide) tw954 ?_
          refine j_iload_n (pc := 79) C d_Mo_operand_79 rfl 1 rfl ?_
          refine j_iconst (pc := 80) C d_Mo_operand_80 ck_5 ?_
          obtain ⟨b26, hf⟩ := og hf
          refine j_iast (pc := 81) C d_Mo_operand_81 9 (inb_in b26) wR_a9 (ws' := wR g ar (va_up (va_up r.1 12 (upd (r.1 12) (r.1 22 (r.2.1 8).toNatClampNeg).toNatClampNeg 1)) 9 (upd (r.1 9) a1.toNatClampNeg 5)) r.2.1 r.2.2) wR_s9 ?_
          refine j_aload_n (pc := 82) C d_Mo_operand_82 rfl 0 rfl ?_
          refine j_bipush (pc := 83) C d_Mo_operand_83 cb_12 ?_
          obtain ⟨q27, eq27, hf⟩ := ob hf
          refine j_callVi (pc := 85) C (rest := []) d_Mo_operand_85 (c_Mo_goesTo (g := g) (ar := ar) eq27) cv_Mo_goesTo tw1194 0 rfl rfl cut_same rfl rfl (Nat.le_of_ble_eq_true rfl) (kc2 := 0) (ks2 := 0) (by decide) ?_
          obtain ⟨b28, hf⟩ := og hf
          cases hf
          exact j_zret (pc := 88) C d_Mo_operand_88 (isb_n b28) ⟨rfl, rfl⟩ (Nat.le_of_ble_eq_true rfl) (Nat.le_of_ble_eq_true rfl)
      · rw [if_pos h19] at hf
        refine j_aload_n (pc := 58) C d_Mo_operand_58 rfl 0 rfl ?_
        refine j_bipush (pc := 59) C d_Mo_operand_59 cb_11 ?_
        obtain ⟨q29, eq29, hf⟩ := ob hf
        refine j_callVi (pc := 61) C (rest := []) d_Mo_operand_61 (c_Mo_goesTo (g := g) (ar := ar) eq29) cv_Mo_goesTo tw1194 0 rfl rfl cut_same rfl rfl (Nat.le_of_ble_eq_true rfl) (kc2 := 0) (ks2 := 0) (by decide) ?_
        obtain ⟨b30, hf⟩ := og hf
        cases hf
        exact j_zret (pc := 64) C d_Mo_operand_64 (isb_n b30) ⟨rfl, rfl⟩ (Nat.le_of_ble_eq_true rfl) (Nat.le_of_ble_eq_true rfl)
  · rw [if_pos h1] at hf
    refine j_aload_n (pc := 9) C d_Mo_operand_9 rfl 0 rfl ?_
    refine j_iload_n (pc := 10) C d_Mo_operand_10 rfl 1 rfl ?_
    refine j_bipush (pc := 11) C d_Mo_operand_11 cb_41 ?_
    obtain ⟨q31, eq31, hf⟩ := ob hf
    refine j_callVi (pc := 13) C (rest := []) d_Mo_operand_13 (c_Mo_is (g := g) (ar := ar) eq31) cv_Mo_is tw1198 0 rfl rfl cut_same rfl rfl (Nat.le_of_ble_eq_true rfl) (kc2 := 0) (ks2 := 0) (by decide) ?_
    refine j_if_eq (pc := 16) C d_Mo_operand_16 (tgt := 24) rfl (fun h32 => ?_) (fun h32 => ?_)
    · rw [if_pos h32] at hf
      refine j_aload_n (pc := 24) C d_Mo_operand_24 rfl 0 rfl ?_
      refine j_get (pc := 25) C d_Mo_operand_25 0 26 wR_o0 rfl (v := .int (q31.2.2.1 6)) rfl (by decide) tw968 ?_
      refine j_bipush (pc := 28) C d_Mo_operand_28 cb_10 ?_
      refine j_icmp_ne (pc := 30) C d_Mo_operand_30 (tgt := 48) rfl (fun h33 => ?_) (fun h33 => ?_)
      · rw [if_neg h33] at hf
        refine j_aload_n (pc := 48) C d_Mo_operand_48 rfl 0 rfl ?_
        refine j_get (pc := 49) C d_Mo_operand_49 0 8 wR_o0 rfl (v := .ref (ar 5)) rfl (by decide) tw950 ?_
        refine j_iload_n (pc := 52) C d_Mo_operand_52 rfl 1 rfl ?_
        obtain ⟨b34, hf⟩ := og hf
        refine j_iald (pc := 53) C d_Mo_operand_53 5 (inb_in b34) (x := q31.2.1 5 a1.toNatClampNeg) wR_a5 rfl ?_
        refine j_iconst (pc := 54) C d_Mo_operand_54 ck_3 ?_
        refine j_icmp_ne (pc := 55) C d_Mo_operand_55 (tgt := 65) rfl (fun h35 => ?_) (fun h35 => ?_)
        · rw [if_neg h35] at hf
          refine j_aload_n (pc := 65) C d_Mo_operand_65 rfl 0 rfl ?_
          refine j_get (pc := 66) C d_Mo_operand_66 0 8 wR_o0 rfl (v := .ref (ar 5)) rfl (by decide) tw950 ?_
          refine j_iload_n (pc := 69) C d_Mo_operand_69 rfl 1 rfl ?_
          obtain ⟨b36, hf⟩ := og hf
          refine j_iald (pc := 70) C d_Mo_operand_70 5 (inb_in b36) (x := q31.2.1 5 a1.toNatClampNeg) wR_a5 rfl ?_
          refine j_iconst (pc := 71) C d_Mo_operand_71 ck_2 ?_
          refine j_icmp_ne (pc := 72) C d_Mo_operand_72 (tgt := 89) rfl (fun h37 => ?_) (fun h37 => ?_)
          · rw [if_neg h37] at hf
            refine j_aload_n (pc := 89) C d_Mo_operand_89 rfl 0 rfl ?_
            refine j_iload_n (pc := 90) C d_Mo_operand_90 rfl 1 rfl ?_
            refine j_bipush (pc := 91) C d_Mo_operand_91 cb_40 ?_
            obtain ⟨q38, eq38, hf⟩ := ob hf
            refine j_callVi (pc := 93) C (rest := []) d_Mo_operand_93 (c_Mo_is (g := g) (ar := ar) eq38) cv_Mo_is tw1198 0 rfl rfl cut_same rfl rfl (Nat.le_of_ble_eq_true rfl) (kc2 := 0) (ks2 := 0) (by decide) ?_
            refine j_if_eq (pc := 96) C d_Mo_operand_96 (tgt := 111) rfl (fun h39 => ?_) (fun h39 => ?_)
            · rw [if_pos h39] at hf
              refine j_iconst (pc := 111) C d_Mo_operand_111 ck_0 ?_
              cases hf
              exact j_zret (pc := 112) C d_Mo_operand_112 rfl ⟨rfl, rfl⟩ (Nat.le_of_ble_eq_true rfl) (Nat.le_of_ble_eq_true rfl)
            · rw [if_neg h39] at hf
              refine j_aload_n (pc := 99) C d_Mo_operand_99 rfl 0 rfl ?_
              refine j_iconst (pc := 100) C d_Mo_operand_100 ck_m1 ?_
              obtain ⟨q40, eq40, hf⟩ := ob hf
              refine j_callVi (pc := 101) C (rest := []) d_Mo_operand_101 (c_Mo_openFrame (g := g) (ar := ar) eq40) cv_Mo_openFrame tw1226 0 rfl rfl cut_same rfl rfl (Nat.le_of_ble_eq_true rfl) (kc2 := 0) (ks2 := 0) (by decide) ?_
              refine j_if_eq (pc := 104) C d_Mo_operand_104 (tgt := 111) rfl (fun h41 => ?_) (fun h41 => ?_)
              · rw [if_pos h41] at hf
                refine j_iconst (pc := 111) C d_Mo_operand_111 ck_0 ?_
                cases hf
                exact j_zret (pc := 112) C d_Mo_operand_112 rfl ⟨rfl, rfl⟩ (Nat.le_of_ble_eq_true rfl) (Nat.le_of_ble_eq_true rfl)
              · rw [if_neg h41] at hf
                refine j_iconst (pc := 107) C d_Mo_operand_107 ck_1 ?_
                refine j_goto (pc := 108) C d_Mo_operand_108 (tgt := 112) rfl ?_
                cases hf
                exact j_zret (pc := 112) C d_Mo_operand_112 rfl ⟨rfl, rfl⟩ (Nat.le_of_ble_eq_true rfl) (Nat.le_of_ble_eq_true rfl)
          · rw [if_pos h37] at hf
            refine j_aload_n (pc := 75) C d_Mo_operand_75 rfl 0 rfl ?_
            refine j_get (pc := 76) C d_Mo_operand_76 0 12 wR_o0 rfl (v := .ref (ar 9)) rfl (by decide) tw954 ?_
            refine j_iload_n (pc := 79) C d_Mo_operand_79 rfl 1 rfl ?_
            refine j_iconst (pc := 80) C d_Mo_operand_80 ck_5 ?_
            obtain ⟨b42, hf⟩ := og hf
            refine j_iast (pc := 81) C d_Mo_operand_81 9 (inb_in b42) wR_a9 (ws' := wR g ar (va_up q31.2.1 9 (upd (q31.2.1 9) a1.toNatClampNeg 5)) q31.2.2.1 q31.2.2.2) wR_s9 ?_
            refine j_aload_n (pc := 82) C d_Mo_operand_82 rfl 0 rfl ?_
            refine j_bipush (pc := 83) C d_Mo_operand_83 cb_12 ?_
            obtain ⟨q43, eq43, hf⟩ := ob hf
            refine j_callVi (pc := 85) C (rest := []) d_Mo_operand_85 (c_Mo_goesTo (g := g) (ar := ar) eq43) cv_Mo_goesTo tw1194 0 rfl rfl cut_same rfl rfl (Nat.le_of_ble_eq_true rfl) (kc2 := 0) (ks2 := 0) (by decide) ?_
            obtain ⟨b44, hf⟩ := og hf
            cases hf
            exact j_zret (pc := 88) C d_Mo_operand_88 (isb_n b44) ⟨rfl, rfl⟩ (Nat.le_of_ble_eq_true rfl) (Nat.le_of_ble_eq_true rfl)
        · rw [if_pos h35] at hf
          refine j_aload_n (pc := 58) C d_Mo_operand_58 rfl 0 rfl ?_
          refine j_bipush (pc := 59) C d_Mo_operand_59 cb_11 ?_
          obtain ⟨q45, eq45, hf⟩ := ob hf
          refine j_callVi (pc := 61) C (rest := []) d_Mo_operand_61 (c_Mo_goesTo (g := g) (ar := ar) eq45) cv_Mo_goesTo tw1194 0 rfl rfl cut_same rfl rfl (Nat.le_of_ble_eq_true rfl) (kc2 := 0) (ks2 := 0) (by decide) ?_
          obtain ⟨b46, hf⟩ := og hf
          cases hf
          exact j_zret (pc := 64) C d_Mo_operand_64 (isb_n b46) ⟨rfl, rfl⟩ (Nat.le_of_ble_eq_true rfl) (Nat.le_of_ble_eq_true rfl)
      · rw [if_pos h33] at hf
        refine j_aload_n (pc := 33) C d_Mo_operand_33 rfl 0 rfl ?_
        refine j_get (pc := 34) C d_Mo_operand_34 0 15 wR_o0 rfl (v := .ref (ar 12)) rfl (by decide) tw957 ?_
        refine j_aload_n (pc := 37) C d_Mo_operand_37 rfl 0 rfl ?_
        refine j_get (pc := 38) C d_Mo_operand_38 0 30 wR_o0 rfl (v := .ref (ar 22)) rfl (by decide) tw972 ?_
        refine j_aload_n (pc := 41) C d_Mo_operand_41 rfl 0 rfl ?_
        refine j_get (pc := 42) C d_Mo_operand_42 0 29 wR_o0 rfl (v := .int (q31.2.2.1 8)) rfl (by decide) tw971 ?_
        obtain ⟨b47, hf⟩ := og hf
        refine j_iald (pc := 45) C d_Mo_operand_45 22 (inb_in b47) (x := q31.2.1 22 (q31.2.2.1 8).toNatClampNeg) wR_a22 rfl ?_
        refine j_iconst (pc := 46) C d_Mo_operand_46 ck_1 ?_
        obtain ⟨b48, hf⟩ := og hf
        refine j_iast (pc := 47) C d_Mo_operand_47 12 (inb_in b48) wR_a12 (ws' := wR g ar (va_up q31.2.1 12 (upd (q31.2.1 12) (q31.2.1 22 (q31.2.2.1 8).toNatClampNeg).toNatClampNeg 1)) q31.2.2.1 q31.2.2.2) wR_s12 ?_
        refine j_aload_n (pc := 48) C d_Mo_operand_48 rfl 0 rfl ?_
        refine j_get (pc := 49) C d_Mo_operand_49 0 8 wR_o0 rfl (v := .ref (ar 5)) rfl (by decide) tw950 ?_
        refine j_iload_n (pc := 52) C d_Mo_operand_52 rfl 1 rfl ?_
        obtain ⟨b49, hf⟩ := og hf
        refine j_iald (pc := 53) C d_Mo_operand_53 5 (inb_in b49) (x := q31.2.1 5 a1.toNatClampNeg) wR_a5 rfl ?_
        refine j_iconst (pc := 54) C d_Mo_operand_54 ck_3 ?_
        refine j_icmp_ne (pc := 55) C d_Mo_operand_55 (tgt := 65) rfl (fun h50 => ?_) (fun h50 => ?_)
        · rw [if_neg h50] at hf
          refine j_aload_n (pc := 65) C d_Mo_operand_65 rfl 0 rfl ?_
          refine j_get (pc := 66) C d_Mo_operand_66 0 8 wR_o0 rfl (v := .ref (ar 5)) rfl (by decide) tw950 ?_
          refine j_iload_n (pc := 69) C d_Mo_operand_69 rfl 1 rfl ?_
          obtain ⟨b51, hf⟩ := og hf
          refine j_iald (pc := 70) C d_Mo_operand_70 5 (inb_in b51) (x := q31.2.1 5 a1.toNatClampNeg) wR_a5 rfl ?_
          refine j_iconst (pc := 71) C d_Mo_operand_71 ck_2 ?_
          refine j_icmp_ne (pc := 72) C d_Mo_operand_72 (tgt := 89) rfl (fun h52 => ?_) (fun h52 => ?_)
          · rw [if_neg h52] at hf
            refine j_aload_n (pc := 89) C d_Mo_operand_89 rfl 0 rfl ?_
            refine j_iload_n (pc := 90) C d_Mo_operand_90 rfl 1 rfl ?_
            refine j_bipush (pc := 91) C d_Mo_operand_91 cb_40 ?_
            obtain ⟨q53, eq53, hf⟩ := ob hf
            refine j_callVi (pc := 93) C (rest := []) d_Mo_operand_93 (c_Mo_is (g := g) (ar := ar) eq53) cv_Mo_is tw1198 0 rfl rfl cut_same rfl rfl (Nat.le_of_ble_eq_true rfl) (kc2 := 0) (ks2 := 0) (by decide) ?_
            refine j_if_eq (pc := 96) C d_Mo_operand_96 (tgt := 111) rfl (fun h54 => ?_) (fun h54 => ?_)
            · rw [if_pos h54] at hf
              refine j_iconst (pc := 111) C d_Mo_operand_111 ck_0 ?_
              cases hf
              exact j_zret (pc := 112) C d_Mo_operand_112 rfl ⟨rfl, rfl⟩ (Nat.le_of_ble_eq_true rfl) (Nat.le_of_ble_eq_true rfl)
            · rw [if_neg h54] at hf
              refine j_aload_n (pc := 99) C d_Mo_operand_99 rfl 0 rfl ?_
              refine j_iconst (pc := 100) C d_Mo_operand_100 ck_m1 ?_
              obtain ⟨q55, eq55, hf⟩ := ob hf
              refine j_callVi (pc := 101) C (rest := []) d_Mo_operand_101 (c_Mo_openFrame (g := g) (ar := ar) eq55) cv_Mo_openFrame tw1226 0 rfl rfl cut_same rfl rfl (Nat.le_of_ble_eq_true rfl) (kc2 := 0) (ks2 := 0) (by decide) ?_
              refine j_if_eq (pc := 104) C d_Mo_operand_104 (tgt := 111) rfl (fun h56 => ?_) (fun h56 => ?_)
              · rw [if_pos h56] at hf
                refine j_iconst (pc := 111) C d_Mo_operand_111 ck_0 ?_
                cases hf
                exact j_zret (pc := 112) C d_Mo_operand_112 rfl ⟨rfl, rfl⟩ (Nat.le_of_ble_eq_true rfl) (Nat.le_of_ble_eq_true rfl)
              · rw [if_neg h56] at hf
                refine j_iconst (pc := 107) C d_Mo_operand_107 ck_1 ?_
                refine j_goto (pc := 108) C d_Mo_operand_108 (tgt := 112) rfl ?_
                cases hf
                exact j_zret (pc := 112) C d_Mo_operand_112 rfl ⟨rfl, rfl⟩ (Nat.le_of_ble_eq_true rfl) (Nat.le_of_ble_eq_true rfl)
          · rw [if_pos h52] at hf
            refine j_aload_n (pc := 75) C d_Mo_operand_75 rfl 0 rfl ?_
            refine j_get (pc := 76) C d_Mo_operand_76 0 12 wR_o0 rfl (v := .ref (ar 9)) rfl (by decide) tw954 ?_
            refine j_iload_n (pc := 79) C d_Mo_operand_79 rfl 1 rfl ?_
            refine j_iconst (pc := 80) C d_Mo_operand_80 ck_5 ?_
            obtain ⟨b57, hf⟩ := og hf
            refine j_iast (pc := 81) C d_Mo_operand_81 9 (inb_in b57) wR_a9 (ws' := wR g ar (va_up (va_up q31.2.1 12 (upd (q31.2.1 12) (q31.2.1 22 (q31.2.2.1 8).toNatClampNeg).toNatClampNeg 1)) 9 (upd (q31.2.1 9) a1.toNatClampNeg 5)) q31.2.2.1 q31.2.2.2) wR_s9 ?_
            refine j_aload_n (pc := 82) C d_Mo_operand_82 rfl 0 rfl ?_
            refine j_bipush (pc := 83) C d_Mo_operand_83 cb_12 ?_
            obtain ⟨q58, eq58, hf⟩ := ob hf
            refine j_callVi (pc := 85) C (rest := []) d_Mo_operand_85 (c_Mo_goesTo (g := g) (ar := ar) eq58) cv_Mo_goesTo tw1194 0 rfl rfl cut_same rfl rfl (Nat.le_of_ble_eq_true rfl) (kc2 := 0) (ks2 := 0) (by decide) ?_
            obtain ⟨b59, hf⟩ := og hf
            cases hf
            exact j_zret (pc := 88) C d_Mo_operand_88 (isb_n b59) ⟨rfl, rfl⟩ (Nat.le_of_ble_eq_true rfl) (Nat.le_of_ble_eq_true rfl)
        · rw [if_pos h50] at hf
          refine j_aload_n (pc := 58) C d_Mo_operand_58 rfl 0 rfl ?_
          refine j_bipush (pc := 59) C d_Mo_operand_59 cb_11 ?_
          obtain ⟨q60, eq60, hf⟩ := ob hf
          refine j_callVi (pc := 61) C (rest := []) d_Mo_operand_61 (c_Mo_goesTo (g := g) (ar := ar) eq60) cv_Mo_goesTo tw1194 0 rfl rfl cut_same rfl rfl (Nat.le_of_ble_eq_true rfl) (kc2 := 0) (ks2 := 0) (by decide) ?_
          obtain ⟨b61, hf⟩ := og hf
          cases hf
          exact j_zret (pc := 64) C d_Mo_operand_64 (isb_n b61) ⟨rfl, rfl⟩ (Nat.le_of_ble_eq_true rfl) (Nat.le_of_ble_eq_true rfl)
    · rw [if_neg h32] at hf
      refine j_aload_n (pc := 19) C d_Mo_operand_19 rfl 0 rfl ?_
      obtain ⟨q62, eq62, hf⟩ := ob hf
      refine j_callVi (pc := 20) C (rest := []) d_Mo_operand_20 (c_Mo_closeFrame (g := g) (ar := ar) eq62) cv_Mo_closeFrame tw1222 0 rfl rfl cut_same rfl rfl (Nat.le_of_ble_eq_true rfl) (kc2 := 0) (ks2 := 0) (by decide) ?_
      obtain ⟨b63, hf⟩ := og hf
      cases hf
      exact j_zret (pc := 23) C d_Mo_operand_23 (isb_n b63) ⟨rfl, rfl⟩ (Nat.le_of_ble_eq_true rfl) (Nat.le_of_ble_eq_true rfl)
abbrev rm_Mo_operator : Room := { frames := 2, cells := 0, slots := 0, locals := 42 }
theorem cv_Mo_operator : CV y_Mo_operator b_Mo_operator 3 (some .boolean) 1 := ⟨⟨tw1233, tw10, by decide +kernel⟩, tw1232, (sw_ (q := (y_Mo_operator, 54)) (by decide +kernel) (by decide +kernel))⟩
set_option maxHeartbeats 4000000 in
set_option maxRecDepth 100000 in
theorem c_Mo_operator {g : GT} {ar : Nat → Nat} {a1 : Int32} {r : RS} {q : Int32 × RS} (hf : f_Mo_operator a1 r = some q) : MI g y_Mo_operator b_Mo_operator 3 (some .boolean) rm_Mo_operator [.ref (ar 0), .int a1] (wR g ar r.1 r.2.1 r.2.2) q.1 (wR g ar q.2.1 q.2.2.1 q.2.2.2) := by
  refine MI.of (by decide) (Nat.le_of_ble_eq_true rfl) (fun 𝒥 C => ?_)
  unfold f_Mo_operator at hf
  change 𝒥 0 0 (wR g ar r.1 r.2.1 r.2.2) [(0, .ref (ar 0)), (1, .int a1)] [] 0
  refine j_aload_n (pc := 0) C d_Mo_operator_0 rfl 0 rfl ?_
  refine j_iload_n (pc := 1) C d_Mo_operator_1 rfl 1 rfl ?_
  refine j_bipush (pc := 2) C d_Mo_operator_2 cb_43 ?_
  obtain ⟨q1, eq1, hf⟩ := ob hf
  refine j_callVi (pc := 4) C (rest := []) d_Mo_operator_4 (c_Mo_is (g := g) (ar := ar) eq1) cv_Mo_is tw1198 0 rfl rfl cut_same rfl rfl (Nat.le_of_ble_eq_true rfl) (kc2 := 0) (ks2 := 0) (by decide) ?_
  refine j_if_ne (pc := 7) C d_Mo_operator_7 (tgt := 30) rfl (fun h2 => ?_) (fun h2 => ?_)
  · rw [if_neg h2] at hf
    refine j_aload_n (pc := 30) C d_Mo_operator_30 rfl 0 rfl ?_
    refine j_bipush (pc := 31) C d_Mo_operator_31 cb_9 ?_
    obtain ⟨q3, eq3, hf⟩ := ob hf
    refine j_callVi (pc := 33) C (rest := []) d_Mo_operator_33 (c_Mo_goesTo (g := g) (ar := ar) eq3) cv_Mo_goesTo tw1194 0 rfl rfl cut_same rfl rfl (Nat.le_of_ble_eq_true rfl) (kc2 := 0) (ks2 := 0) (by decide) ?_
    obtain ⟨b4, hf⟩ := og hf
    cases hf
    exact j_zret (pc := 36) C d_Mo_operator_36 (isb_n b4) ⟨rfl, rfl⟩ (Nat.le_of_ble_eq_true rfl) (Nat.le_of_ble_eq_true rfl)
  · rw [if_pos h2] at hf
    refine j_aload_n (pc := 10) C d_Mo_operator_10 rfl 0 rfl ?_
    refine j_iload_n (pc := 11) C d_Mo_operator_11 rfl 1 rfl ?_
    refine j_bipush (pc := 12) C d_Mo_operator_12 cb_45 ?_
    obtain ⟨q5, eq5, hf⟩ := ob hf
    refine j_callVi (pc := 14) C (rest := []) d_Mo_operator_14 (c_Mo_is (g := g) (ar := ar) eq5) cv_Mo_is tw1198 0 rfl rfl cut_same rfl rfl (Nat.le_of_ble_eq_true rfl) (kc2 := 0) (ks2 := 0) (by decide) ?_
    refine j_if_ne (pc := 17) C d_Mo_operator_17 (tgt := 30) rfl (fun h6 => ?_) (fun h6 => ?_)
    · rw [if_neg h6] at hf
      refine j_aload_n (pc := 30) C d_Mo_operator_30 rfl 0 rfl ?_
      refine j_bipush (pc := 31) C d_Mo_operator_31 cb_9 ?_
      obtain ⟨q7, eq7, hf⟩ := ob hf
      refine j_callVi (pc := 33) C (rest := []) d_Mo_operator_33 (c_Mo_goesTo (g := g) (ar := ar) eq7) cv_Mo_goesTo tw1194 0 rfl rfl cut_same rfl rfl (Nat.le_of_ble_eq_true rfl) (kc2 := 0) (ks2 := 0) (by decide) ?_
      obtain ⟨b8, hf⟩ := og hf
      cases hf
      exact j_zret (pc := 36) C d_Mo_operator_36 (isb_n b8) ⟨rfl, rfl⟩ (Nat.le_of_ble_eq_true rfl) (Nat.le_of_ble_eq_true rfl)
    · rw [if_pos h6] at hf
      refine j_aload_n (pc := 20) C d_Mo_operator_20 rfl 0 rfl ?_
      refine j_iload_n (pc := 21) C d_Mo_operator_21 rfl 1 rfl ?_
      refine j_bipush (pc := 22) C d_Mo_operator_22 cb_42 ?_
      obtain ⟨q9, eq9, hf⟩ := ob hf
      refine j_callVi (pc := 24) C (rest := []) d_Mo_operator_24 (c_Mo_is (g := g) (ar := ar) eq9) cv_Mo_is tw1198 0 rfl rfl cut_same rfl rfl (Nat.le_of_ble_eq_true rfl) (kc2 := 0) (ks2 := 0) (by decide) ?_
      refine j_if_eq (pc := 27) C d_Mo_operator_27 (tgt := 37) rfl (fun h10 => ?_) (fun h10 => ?_)
      · rw [if_pos h10] at hf
        refine j_aload_n (pc := 37) C d_Mo_operator_37 rfl 0 rfl ?_
        refine j_iload_n (pc := 38) C d_Mo_operator_38 rfl 1 rfl ?_
        refine j_bipush (pc := 39) C d_Mo_operator_39 cb_60 ?_
        obtain ⟨q11, eq11, hf⟩ := ob hf
        refine j_callVi (pc := 41) C (rest := []) d_Mo_operator_41 (c_Mo_is (g := g) (ar := ar) eq11) cv_Mo_is tw1198 0 rfl rfl cut_same rfl rfl (Nat.le_of_ble_eq_true rfl) (kc2 := 0) (ks2 := 0) (by decide) ?_
        refine j_if_eq (pc := 44) C d_Mo_operator_44 (tgt := 94) rfl (fun h12 => ?_) (fun h12 => ?_)
        · rw [if_pos h12] at hf
          refine j_aload_n (pc := 94) C d_Mo_operator_94 rfl 0 rfl ?_
          refine j_get (pc := 95) C d_Mo_operator_95 0 29 wR_o0 rfl (v := .int (q11.2.2.1 8)) rfl (by decide) tw971 ?_
          refine j_if_le (pc := 98) C d_Mo_operator_98 (tgt := 175) rfl (fun h13 => ?_) (fun h13 => ?_)
          · rw [if_pos h13] at hf
            refine j_aload_n (pc := 175) C d_Mo_operator_175 rfl 0 rfl ?_
            refine j_iload_n (pc := 176) C d_Mo_operator_176 rfl 1 rfl ?_
            refine j_aload_n (pc := 177) C d_Mo_operator_177 rfl 0 rfl ?_
            refine j_get (pc := 178) C d_Mo_operator_178 0 32 wR_o0 rfl (v := .int (q11.2.2.1 9)) rfl (by decide) tw974 ?_
            obtain ⟨q14, eq14, hf⟩ := ob hf
            refine j_callVi (pc := 181) C (rest := []) d_Mo_operator_181 (c_Mo_is (g := g) (ar := ar) eq14) cv_Mo_is tw1198 0 rfl rfl cut_same rfl rfl (Nat.le_of_ble_eq_true rfl) (kc2 := 0) (ks2 := 0) (by decide) ?_
            refine j_if_ne (pc := 184) C d_Mo_operator_184 (tgt := 189) rfl (fun h15 => ?_) (fun h15 => ?_)
            · rw [if_neg h15] at hf
              refine j_aload_n (pc := 189) C d_Mo_operator_189 rfl 0 rfl ?_
              refine j_get (pc := 190) C d_Mo_operator_190 0 32 wR_o0 rfl (v := .int (q14.2.2.1 9)) rfl (by decide) tw974 ?_
              refine j_bipush (pc := 193) C d_Mo_operator_193 cb_123 ?_
              refine j_icmp_ne (pc := 195) C d_Mo_operator_195 (tgt := 204) rfl (fun h16 => ?_) (fun h16 => ?_)
              · rw [if_neg h16] at hf
                refine j_aload_n (pc := 204) C d_Mo_operator_204 rfl 0 rfl ?_
                refine j_get (pc := 205) C d_Mo_operator_205 0 33 wR_o0 rfl (v := .int (q14.2.2.1 10)) rfl (by decide) tw975 ?_
                refine j_if_lt (pc := 208) C d_Mo_operator_208 (tgt := 223) rfl (fun h17 => ?_) (fun h17 => ?_)
                · rw [if_pos h17] at hf
                  refine j_aload_n (pc := 223) C d_Mo_operator_223 rfl 0 rfl ?_
                  refine j_bipush (pc := 224) C d_Mo_operator_224 cb_6 ?_
                  obtain ⟨q18, eq18, hf⟩ := ob hf
                  refine j_callVi (pc := 226) C (rest := []) d_Mo_operator_226 (c_Mo_goesTo (g := g) (ar := ar) eq18) cv_Mo_goesTo tw1194 0 rfl rfl cut_same rfl rfl (Nat.le_of_ble_eq_true rfl) (kc2 := 0) (ks2 := 0) (by decide) ?_
                  obtain ⟨b19, hf⟩ := og hf
                  cases hf
                  exact j_zret (pc := 229) C d_Mo_operator_229 (isb_n b19) ⟨rfl, rfl⟩ (Nat.le_of_ble_eq_true rfl) (Nat.le_of_ble_eq_true rfl)
                · rw [if_neg h17] at hf
                  refine j_aload_n (pc := 211) C d_Mo_operator_211 rfl 0 rfl ?_
                  refine j_get (pc := 212) C d_Mo_operator_212 0 17 wR_o0 rfl (v := .ref (ar 14)) rfl (by decide) tw959 ?_
                  refine j_aload_n (pc := 215) C d_Mo_operator_215 rfl 0 rfl ?_
                  refine j_get (pc := 216) C d_Mo_operator_216 0 33 wR_o0 rfl (v := .int (q14.2.2.1 10)) rfl (by decide) tw975 ?_
                  refine j_iload_n (pc := 219) C d_Mo_operator_219 rfl 1 rfl ?_
                  refine j_iconst (pc := 220) C d_Mo_operator_220 ck_1 ?_
                  refine j_iadd (pc := 221) C d_Mo_operator_221 ?_
                  obtain ⟨b20, hf⟩ := og hf
                  refine j_iast (pc := 222) C d_Mo_operator_222 14 (inb_in b20) wR_a14 (ws' := wR g ar (va_up q14.2.1 14 (upd (q14.2.1 14) (q14.2.2.1 10).toNatClampNeg (a1 + 1))) q14.2.2.1 q14.2.2.2) wR_s14 ?_
                  refine j_aload_n (pc := 223) C d_Mo_operator_223 rfl 0 rfl ?_
                  refine j_bipush (pc := 224) C d_Mo_operator_224 cb_6 ?_
                  obtain ⟨q21, eq21, hf⟩ := ob hf
                  refine j_callVi (pc := 226) C (rest := []) d_Mo_operator_226 (c_Mo_goesTo (g := g) (ar := ar) eq21) cv_Mo_goesTo tw1194 0 rfl rfl cut_same rfl rfl (Nat.le_of_ble_eq_true rfl) (kc2 := 0) (ks2 := 0) (by decide) ?_
                  obtain ⟨b22, hf⟩ := og hf
                  cases hf
                  exact j_zret (pc := 229) C d_Mo_operator_229 (isb_n b22) ⟨rfl, rfl⟩ (Nat.le_of_ble_eq_true rfl) (Nat.le_of_ble_eq_true rfl)
              · rw [if_pos h16] at hf
                refine j_aload_n (pc := 198) C d_Mo_operator_198 rfl 0 rfl ?_
                refine j_iload_n (pc := 199) C d_Mo_operator_199 rfl 1 rfl ?_
                obtain ⟨q23, eq23, hf⟩ := ob hf
                refine j_callVi (pc := 200) C (rest := []) d_Mo_operator_200 (c_Mo_openBlock (g := g) (ar := ar) eq23) cv_Mo_openBlock tw1202 0 rfl rfl cut_same rfl rfl (Nat.le_of_ble_eq_true rfl) (kc2 := 0) (ks2 := 0) (by decide) ?_
                obtain ⟨b24, hf⟩ := og hf
                cases hf
                exact j_zret (pc := 203) C d_Mo_operator_203 (isb_n b24) ⟨rfl, rfl⟩ (Nat.le_of_ble_eq_true rfl) (Nat.le_of_ble_eq_true rfl)
            · rw [if_pos h15] at hf
              refine j_iconst (pc := 187) C d_Mo_operator_187 ck_0 ?_
              cases hf
              exact j_zret (pc := 188) C d_Mo_operator_188 rfl ⟨rfl, rfl⟩ (Nat.le_of_ble_eq_true rfl) (Nat.le_of_ble_eq_true rfl)
          · rw [if_neg h13] at hf
            refine j_aload_n (pc := 101) C d_Mo_operator_101 rfl 0 rfl ?_
            refine j_iload_n (pc := 102) C d_Mo_operator_102 rfl 1 rfl ?_
            refine j_bipush (pc := 103) C d_Mo_operator_103 cb_41 ?_
            obtain ⟨q25, eq25, hf⟩ := ob hf
            refine j_callVi (pc := 105) C (rest := []) d_Mo_operator_105 (c_Mo_is (g := g) (ar := ar) eq25) cv_Mo_is tw1198 0 rfl rfl cut_same rfl rfl (Nat.le_of_ble_eq_true rfl) (kc2 := 0) (ks2 := 0) (by decide) ?_
            refine j_if_eq (pc := 108) C d_Mo_operator_108 (tgt := 116) rfl (fun h26 => ?_) (fun h26 => ?_)
            · rw [if_pos h26] at hf
              refine j_aload_n (pc := 116) C d_Mo_operator_116 rfl 0 rfl ?_
              refine j_iload_n (pc := 117) C d_Mo_operator_117 rfl 1 rfl ?_
              refine j_bipush (pc := 118) C d_Mo_operator_118 cb_44 ?_
              obtain ⟨q27, eq27, hf⟩ := ob hf
              refine j_callVi (pc := 120) C (rest := []) d_Mo_operator_120 (c_Mo_is (g := g) (ar := ar) eq27) cv_Mo_is tw1198 0 rfl rfl cut_same rfl rfl (Nat.le_of_ble_eq_true rfl) (kc2 := 0) (ks2 := 0) (by decide) ?_
              refine j_if_eq (pc := 123) C d_Mo_operator_123 (tgt := 138) rfl (fun h28 => ?_) (fun h28 => ?_)
              · rw [if_pos h28] at hf
                refine j_iconst (pc := 138) C d_Mo_operator_138 ck_0 ?_
                cases hf
                exact j_zret (pc := 139) C d_Mo_operator_139 rfl ⟨rfl, rfl⟩ (Nat.le_of_ble_eq_true rfl) (Nat.le_of_ble_eq_true rfl)
              · rw [if_neg h28] at hf
                refine j_aload_n (pc := 126) C d_Mo_operator_126 rfl 0 rfl ?_
                refine j_get (pc := 127) C d_Mo_operator_127 0 30 wR_o0 rfl (v := .ref (ar 22)) rfl (by decide) tw972 ?_
                refine j_aload_n (pc := 130) C d_Mo_operator_130 rfl 0 rfl ?_
                refine j_get (pc := 131) C d_Mo_operator_131 0 29 wR_o0 rfl (v := .int (q27.2.2.1 8)) rfl (by decide) tw971 ?_
                obtain ⟨b29, hf⟩ := og hf
                refine j_iald (pc := 134) C d_Mo_operator_134 22 (inb_in b29) (x := q27.2.1 22 (q27.2.2.1 8).toNatClampNeg) wR_a22 rfl ?_
                refine j_if_ge (pc := 135) C d_Mo_operator_135 (tgt := 140) rfl (fun h30 => ?_) (fun h30 => ?_)
                · rw [if_pos h30] at hf
                  refine j_aload_n (pc := 140) C d_Mo_operator_140 rfl 0 rfl ?_
                  refine j_get (pc := 141) C d_Mo_operator_141 0 15 wR_o0 rfl (v := .ref (ar 12)) rfl (by decide) tw957 ?_
                  refine j_aload_n (pc := 144) C d_Mo_operator_144 rfl 0 rfl ?_
                  refine j_get (pc := 145) C d_Mo_operator_145 0 30 wR_o0 rfl (v := .ref (ar 22)) rfl (by decide) tw972 ?_
                  refine j_aload_n (pc := 148) C d_Mo_operator_148 rfl 0 rfl ?_
                  refine j_get (pc := 149) C d_Mo_operator_149 0 29 wR_o0 rfl (v := .int (q27.2.2.1 8)) rfl (by decide) tw971 ?_
                  obtain ⟨b31, hf⟩ := og hf
                  refine j_iald (pc := 152) C d_Mo_operator_152 22 (inb_in b31) (x := q27.2.1 22 (q27.2.2.1 8).toNatClampNeg) wR_a22 rfl ?_
                  refine j_dup2 (pc := 153) C d_Mo_operator_153 rfl rfl ?_
                  obtain ⟨b32, hf⟩ := og hf
                  refine j_iald (pc := 154) C d_Mo_operator_154 12 (inb_in b32) (x := q27.2.1 12 (q27.2.1 22 (q27.2.2.1 8).toNatClampNeg).toNatClampNeg) wR_a12 rfl ?_
                  refine j_topi C (fun v33 ev33 => ?_)
                  replace hf := ov ev33 hf
                  refine j_iconst (pc := 155) C d_Mo_operator_155 ck_1 ?_
                  refine j_iadd (pc := 156) C d_Mo_operator_156 ?_
                  obtain ⟨b34, hf⟩ := og hf
                  refine j_iast (pc := 157) C d_Mo_operator_157 12 (inb_in b34) wR_a12 (ws' := wR g ar (va_up q27.2.1 12 (upd (q27.2.1 12) (q27.2.1 22 (q27.2.2.1 8).toNatClampNeg).toNatClampNeg (v33 + 1))) q27.2.2.1 q27.2.2.2) wR_s12 ?_
                  refine j_aload_n (pc := 158) C d_Mo_operator_158 rfl 0 rfl ?_
                  refine j_get (pc := 159) C d_Mo_operator_159 0 31 wR_o0 rfl (v := .ref (ar 23)) rfl (by decide) tw973 ?_
                  refine j_aload_n (pc := 162) C d_Mo_operator_162 rfl 0 rfl ?_
                  refine j_get (pc := 163) C d_Mo_operator_163 0 29 wR_o0 rfl (v := .int (q27.2.2.1 8)) rfl (by decide) tw971 ?_
                  refine j_iconst (pc := 166) C d_Mo_operator_166 ck_0 ?_
                  obtain ⟨b35, hf⟩ := og hf
                  refine j_zast (pc := 167) C d_Mo_operator_167 23 (inb_in b35) wR_a23 (ws' := wR g ar (va_up (va_up q27.2.1 12 (upd (q27.2.1 12) (q27.2.1 22 (q27.2.2.1 8).toNatClampNeg).toNatClampNeg (v33 + 1))) 23 (upd (q27.2.1 23) (q27.2.2.1 8).toNatClampNeg (vp_nar .boolean 0))) q27.2.2.1 q27.2.2.2) wR_s23 ?_
                  refine j_aload_n (pc := 168) C d_Mo_operator_168 rfl 0 rfl ?_
                  refine j_bipush (pc := 169) C d_Mo_operator_169 cb_9 ?_
                  obtain ⟨q36, eq36, hf⟩ := ob hf
                  refine j_callVi (pc := 171) C (rest := []) d_Mo_operator_171 (c_Mo_goesTo (g := g) (ar := ar) eq36) cv_Mo_goesTo tw1194 0 rfl rfl cut_same rfl rfl (Nat.le_of_ble_eq_true rfl) (kc2 := 0) (ks2 := 0) (by decide) ?_
                  obtain ⟨b37, hf⟩ := og hf
                  cases hf
                  exact j_zret (pc := 174) C d_Mo_operator_174 (isb_n b37) ⟨rfl, rfl⟩ (Nat.le_of_ble_eq_true rfl) (Nat.le_of_ble_eq_true rfl)
                · rw [if_neg h30] at hf
                  refine j_iconst (pc := 138) C d_Mo_operator_138 ck_0 ?_
                  cases hf
                  exact j_zret (pc := 139) C d_Mo_operator_139 rfl ⟨rfl, rfl⟩ (Nat.le_of_ble_eq_true rfl) (Nat.le_of_ble_eq_true rfl)
            · rw [if_neg h26] at hf
              refine j_aload_n (pc := 111) C d_Mo_operator_111 rfl 0 rfl ?_
              obtain ⟨q38, eq38, hf⟩ := ob hf
              refine j_callVi (pc := 112) C (rest := []) d_Mo_operator_112 (c_Mo_closeFrame (g := g) (ar := ar) eq38) cv_Mo_closeFrame tw1222 0 rfl rfl cut_same rfl rfl (Nat.le_of_ble_eq_true rfl) (kc2 := 0) (ks2 := 0) (by decide) ?_
              obtain ⟨b39, hf⟩ := og hf
              cases hf
              exact j_zret (pc := 115) C d_Mo_operator_115 (isb_n b39) ⟨rfl, rfl⟩ (Nat.le_of_ble_eq_true rfl) (Nat.le_of_ble_eq_true rfl)
        · rw [if_neg h12] at hf
          refine j_aload_n (pc := 47) C d_Mo_operator_47 rfl 0 rfl ?_
          refine j_get (pc := 48) C d_Mo_operator_48 0 31 wR_o0 rfl (v := .ref (ar 23)) rfl (by decide) tw973 ?_
          refine j_aload_n (pc := 51) C d_Mo_operator_51 rfl 0 rfl ?_
          refine j_get (pc := 52) C d_Mo_operator_52 0 29 wR_o0 rfl (v := .int (q11.2.2.1 8)) rfl (by decide) tw971 ?_
          obtain ⟨b40, hf⟩ := og hf
          refine j_zald (pc := 55) C d_Mo_operator_55 23 (inb_in b40) (x := q11.2.1 23 (q11.2.2.1 8).toNatClampNeg) wR_a23 rfl ?_
          refine j_if_ne (pc := 56) C d_Mo_operator_56 (tgt := 63) rfl (fun h41 => ?_) (fun h41 => ?_)
          · rw [if_neg h41] at hf
            refine j_iconst (pc := 63) C d_Mo_operator_63 ck_0 ?_
            refine j_istore_n (pc := 64) C d_Mo_operator_64 rfl [1, 2, 0] (by decide) (lc' := [(0, .ref (ar 0)), (1, .int a1), (2, .int 0)]) rfl ?_
            refine j_aload_n (pc := 65) C d_Mo_operator_65 rfl 0 rfl ?_
            refine j_get (pc := 66) C d_Mo_operator_66 0 31 wR_o0 rfl (v := .ref (ar 23)) rfl (by decide) tw973 ?_
            refine j_aload_n (pc := 69) C d_Mo_operator_69 rfl 0 rfl ?_
            refine j_get (pc := 70) C d_Mo_operator_70 0 29 wR_o0 rfl (v := .int (q11.2.2.1 8)) rfl (by decide) tw971 ?_
            refine j_iconst (pc := 73) C d_Mo_operator_73 ck_1 ?_
            obtain ⟨b42, hf⟩ := og hf
            refine j_zast (pc := 74) C d_Mo_operator_74 23 (inb_in b42) wR_a23 (ws' := wR g ar (va_up q11.2.1 23 (upd (q11.2.1 23) (q11.2.2.1 8).toNatClampNeg (vp_nar .boolean 1))) q11.2.2.1 q11.2.2.2) wR_s23 ?_
            refine j_iload_n (pc := 75) C d_Mo_operator_75 rfl 2 rfl ?_
            refine j_if_eq (pc := 76) C d_Mo_operator_76 (tgt := 92) rfl (fun _ => ?_) (fun h => absurd h (by decide))
            refine j_iconst (pc := 92) C d_Mo_operator_92 ck_0 ?_
            cases hf
            exact j_zret (pc := 93) C d_Mo_operator_93 rfl ⟨rfl, rfl⟩ (Nat.le_of_ble_eq_true rfl) (Nat.le_of_ble_eq_true rfl)
          · rw [if_pos h41] at hf
            refine j_iconst (pc := 59) C d_Mo_operator_59 ck_1 ?_
            refine j_goto (pc := 60) C d_Mo_operator_60 (tgt := 64) rfl ?_
            refine j_istore_n (pc := 64) C d_Mo_operator_64 rfl [1, 2, 0] (by decide) (lc' := [(0, .ref (ar 0)), (1, .int a1), (2, .int 1)]) rfl ?_
            refine j_aload_n (pc := 65) C d_Mo_operator_65 rfl 0 rfl ?_
            refine j_get (pc := 66) C d_Mo_operator_66 0 31 wR_o0 rfl (v := .ref (ar 23)) rfl (by decide) tw973 ?_
            refine j_aload_n (pc := 69) C d_Mo_operator_69 rfl 0 rfl ?_
            refine j_get (pc := 70) C d_Mo_operator_70 0 29 wR_o0 rfl (v := .int (q11.2.2.1 8)) rfl (by decide) tw971 ?_
            refine j_iconst (pc := 73) C d_Mo_operator_73 ck_1 ?_
            obtain ⟨b43, hf⟩ := og hf
            refine j_zast (pc := 74) C d_Mo_operator_74 23 (inb_in b43) wR_a23 (ws' := wR g ar (va_up q11.2.1 23 (upd (q11.2.1 23) (q11.2.2.1 8).toNatClampNeg (vp_nar .boolean 1))) q11.2.2.1 q11.2.2.2) wR_s23 ?_
            refine j_iload_n (pc := 75) C d_Mo_operator_75 rfl 2 rfl ?_
            refine j_if_eq (pc := 76) C d_Mo_operator_76 (tgt := 92) rfl (fun h => absurd h (by decide)) (fun _ => ?_)
            refine j_aload_n (pc := 79) C d_Mo_operator_79 rfl 0 rfl ?_
            refine j_bipush (pc := 80) C d_Mo_operator_80 cb_9 ?_
            obtain ⟨q44, eq44, hf⟩ := ob hf
            refine j_callVi (pc := 82) C (rest := []) d_Mo_operator_82 (c_Mo_goesTo (g := g) (ar := ar) eq44) cv_Mo_goesTo tw1194 0 rfl rfl cut_same rfl rfl (Nat.le_of_ble_eq_true rfl) (kc2 := 0) (ks2 := 0) (by decide) ?_
            refine j_if_eq (pc := 85) C d_Mo_operator_85 (tgt := 92) rfl (fun h45 => ?_) (fun h45 => ?_)
            · rw [if_pos h45] at hf
              refine j_iconst (pc := 92) C d_Mo_operator_92 ck_0 ?_
              cases hf
              exact j_zret (pc := 93) C d_Mo_operator_93 rfl ⟨rfl, rfl⟩ (Nat.le_of_ble_eq_true rfl) (Nat.le_of_ble_eq_true rfl)
            · rw [if_neg h45] at hf
              refine j_iconst (pc := 88) C d_Mo_operator_88 ck_1 ?_
              refine j_goto (pc := 89) C d_Mo_operator_89 (tgt := 93) rfl ?_
              cases hf
              exact j_zret (pc := 93) C d_Mo_operator_93 rfl ⟨rfl, rfl⟩ (Nat.le_of_ble_eq_true rfl) (Nat.le_of_ble_eq_true rfl)
      · rw [if_neg h10] at hf
        refine j_aload_n (pc := 30) C d_Mo_operator_30 rfl 0 rfl ?_
        refine j_bipush (pc := 31) C d_Mo_operator_31 cb_9 ?_
        obtain ⟨q46, eq46, hf⟩ := ob hf
        refine j_callVi (pc := 33) C (rest := []) d_Mo_operator_33 (c_Mo_goesTo (g := g) (ar := ar) eq46) cv_Mo_goesTo tw1194 0 rfl rfl cut_same rfl rfl (Nat.le_of_ble_eq_true rfl) (kc2 := 0) (ks2 := 0) (by decide) ?_
        obtain ⟨b47, hf⟩ := og hf
        cases hf
        exact j_zret (pc := 36) C d_Mo_operator_36 (isb_n b47) ⟨rfl, rfl⟩ (Nat.le_of_ble_eq_true rfl) (Nat.le_of_ble_eq_true rfl)
abbrev rm_Mo_step : Room := { frames := 3, cells := 0, slots := 0, locals := 66 }
theorem cv_Mo_step : CV y_Mo_step b_Mo_step 3 (some .boolean) 2 := ⟨⟨tw1189, tw10, by decide +kernel⟩, tw1188, (sw_ (q := (y_Mo_step, 54)) (by decide +kernel) (by decide +kernel))⟩
set_option maxHeartbeats 4000000 in
set_option maxRecDepth 100000 in
theorem c_Mo_step {g : GT} {ar : Nat → Nat} {a1 : Int32} {a2 : Int32} {r : RS} {q : Int32 × RS} (hf : f_Mo_step a1 a2 r = some q) : MI g y_Mo_step b_Mo_step 3 (some .boolean) rm_Mo_step [.ref (ar 0), .int a1, .int a2] (wR g ar r.1 r.2.1 r.2.2) q.1 (wR g ar q.2.1 q.2.2.1 q.2.2.2) := by
  refine MI.of (by decide) (Nat.le_of_ble_eq_true rfl) (fun 𝒥 C => ?_)
  unfold f_Mo_step at hf
  change 𝒥 0 0 (wR g ar r.1 r.2.1 r.2.2) [(0, .ref (ar 0)), (1, .int a1), (2, .int a2)] [] 0
  refine j_aload_n (pc := 0) C d_Mo_step_0 rfl 0 rfl ?_
  refine j_get (pc := 1) C d_Mo_step_1 0 26 wR_o0 rfl (v := .int (r.2.1 6)) rfl (by decide) tw968 ?_
  refine j_iconst (pc := 4) C d_Mo_step_4 ck_5 ?_
  refine j_icmp_gt (pc := 5) C d_Mo_step_5 (tgt := 15) rfl (fun h1 => ?_) (fun h1 => ?_)
  · rw [if_pos h1] at hf
    refine j_aload_n (pc := 15) C d_Mo_step_15 rfl 0 rfl ?_
    refine j_get (pc := 16) C d_Mo_step_16 0 26 wR_o0 rfl (v := .int (r.2.1 6)) rfl (by decide) tw968 ?_
    refine j_bipush (pc := 19) C d_Mo_step_19 cb_6 ?_
    refine j_icmp_ne (pc := 21) C d_Mo_step_21 (tgt := 30) rfl (fun h2 => ?_) (fun h2 => ?_)
    · rw [if_neg h2] at hf
      refine j_aload_n (pc := 30) C d_Mo_step_30 rfl 0 rfl ?_
      refine j_get (pc := 31) C d_Mo_step_31 0 26 wR_o0 rfl (v := .int (r.2.1 6)) rfl (by decide) tw968 ?_
      refine j_bipush (pc := 34) C d_Mo_step_34 cb_7 ?_
      refine j_icmp_ne (pc := 36) C d_Mo_step_36 (tgt := 93) rfl (fun h3 => ?_) (fun h3 => ?_)
      · rw [if_neg h3] at hf
        refine j_aload_n (pc := 93) C d_Mo_step_93 rfl 0 rfl ?_
        refine j_get (pc := 94) C d_Mo_step_94 0 26 wR_o0 rfl (v := .int (r.2.1 6)) rfl (by decide) tw968 ?_
        refine j_bipush (pc := 97) C d_Mo_step_97 cb_8 ?_
        refine j_icmp_ne (pc := 99) C d_Mo_step_99 (tgt := 127) rfl (fun h4 => ?_) (fun h4 => ?_)
        · rw [if_neg h4] at hf
          refine j_aload_n (pc := 127) C d_Mo_step_127 rfl 0 rfl ?_
          refine j_get (pc := 128) C d_Mo_step_128 0 26 wR_o0 rfl (v := .int (r.2.1 6)) rfl (by decide) tw968 ?_
          refine j_bipush (pc := 131) C d_Mo_step_131 cb_9 ?_
          refine j_icmp_eq (pc := 133) C d_Mo_step_133 (tgt := 145) rfl (fun h5 => ?_) (fun h5 => ?_)
          · rw [if_pos h5] at hf
            refine j_aload_n (pc := 145) C d_Mo_step_145 rfl 0 rfl ?_
            refine j_iload_n (pc := 146) C d_Mo_step_146 rfl 1 rfl ?_
            obtain ⟨q6, eq6, hf⟩ := ob hf
            refine j_callVi (pc := 147) C (rest := []) d_Mo_step_147 (c_Mo_operand (g := g) (ar := ar) eq6) cv_Mo_operand tw1218 0 rfl rfl cut_same rfl rfl (Nat.le_of_ble_eq_true rfl) (kc2 := 0) (ks2 := 0) (by decide) ?_
            obtain ⟨b7, hf⟩ := og hf
            cases hf
            exact j_zret (pc := 150) C d_Mo_step_150 (isb_n b7) ⟨rfl, rfl⟩ (Nat.le_of_ble_eq_true rfl) (Nat.le_of_ble_eq_true rfl)
          · rw [if_neg h5] at hf
            refine j_aload_n (pc := 136) C d_Mo_step_136 rfl 0 rfl ?_
            refine j_get (pc := 137) C d_Mo_step_137 0 26 wR_o0 rfl (v := .int (r.2.1 6)) rfl (by decide) tw968 ?_
            refine j_bipush (pc := 140) C d_Mo_step_140 cb_10 ?_
            refine j_icmp_ne (pc := 142) C d_Mo_step_142 (tgt := 151) rfl (fun h8 => ?_) (fun h8 => ?_)
            · rw [if_neg h8] at hf
              refine j_aload_n (pc := 151) C d_Mo_step_151 rfl 0 rfl ?_
              refine j_get (pc := 152) C d_Mo_step_152 0 26 wR_o0 rfl (v := .int (r.2.1 6)) rfl (by decide) tw968 ?_
              refine j_bipush (pc := 155) C d_Mo_step_155 cb_12 ?_
              refine j_icmp_ne (pc := 157) C d_Mo_step_157 (tgt := 188) rfl (fun h9 => ?_) (fun h9 => ?_)
              · rw [if_neg h9] at hf
                refine j_aload_n (pc := 188) C d_Mo_step_188 rfl 0 rfl ?_
                refine j_get (pc := 189) C d_Mo_step_189 0 26 wR_o0 rfl (v := .int (r.2.1 6)) rfl (by decide) tw968 ?_
                refine j_bipush (pc := 192) C d_Mo_step_192 cb_13 ?_
                refine j_icmp_eq (pc := 194) C d_Mo_step_194 (tgt := 209) rfl (fun h10 => ?_) (fun h10 => ?_)
                · rw [if_pos h10] at hf
                  refine j_iconst (pc := 209) C d_Mo_step_209 ck_0 ?_
                  cases hf
                  exact j_zret (pc := 210) C d_Mo_step_210 rfl ⟨rfl, rfl⟩ (Nat.le_of_ble_eq_true rfl) (Nat.le_of_ble_eq_true rfl)
                · rw [if_neg h10] at hf
                  refine j_aload_n (pc := 197) C d_Mo_step_197 rfl 0 rfl ?_
                  refine j_iload_n (pc := 198) C d_Mo_step_198 rfl 1 rfl ?_
                  obtain ⟨q11, eq11, hf⟩ := ob hf
                  refine j_callVi (pc := 199) C (rest := []) d_Mo_step_199 (c_Mo_operator (g := g) (ar := ar) eq11) cv_Mo_operator tw1230 0 rfl rfl cut_same rfl rfl (Nat.le_of_ble_eq_true rfl) (kc2 := 0) (ks2 := 0) (by decide) ?_
                  refine j_if_eq (pc := 202) C d_Mo_step_202 (tgt := 209) rfl (fun h12 => ?_) (fun h12 => ?_)
                  · rw [if_pos h12] at hf
                    refine j_iconst (pc := 209) C d_Mo_step_209 ck_0 ?_
                    cases hf
                    exact j_zret (pc := 210) C d_Mo_step_210 rfl ⟨rfl, rfl⟩ (Nat.le_of_ble_eq_true rfl) (Nat.le_of_ble_eq_true rfl)
                  · rw [if_neg h12] at hf
                    refine j_iconst (pc := 205) C d_Mo_step_205 ck_1 ?_
                    refine j_goto (pc := 206) C d_Mo_step_206 (tgt := 210) rfl ?_
                    cases hf
                    exact j_zret (pc := 210) C d_Mo_step_210 rfl ⟨rfl, rfl⟩ (Nat.le_of_ble_eq_true rfl) (Nat.le_of_ble_eq_true rfl)
              · rw [if_pos h9] at hf
                refine j_aload_n (pc := 160) C d_Mo_step_160 rfl 0 rfl ?_
                refine j_iload_n (pc := 161) C d_Mo_step_161 rfl 1 rfl ?_
                refine j_bipush (pc := 162) C d_Mo_step_162 cb_40 ?_
                obtain ⟨q13, eq13, hf⟩ := ob hf
                refine j_callVi (pc := 164) C (rest := []) d_Mo_step_164 (c_Mo_is (g := g) (ar := ar) eq13) cv_Mo_is tw1198 0 rfl rfl cut_same rfl rfl (Nat.le_of_ble_eq_true rfl) (kc2 := 0) (ks2 := 0) (by decide) ?_
                refine j_if_eq (pc := 167) C d_Mo_step_167 (tgt := 188) rfl (fun h14 => ?_) (fun h14 => ?_)
                · rw [if_pos h14] at hf
                  refine j_aload_n (pc := 188) C d_Mo_step_188 rfl 0 rfl ?_
                  refine j_get (pc := 189) C d_Mo_step_189 0 26 wR_o0 rfl (v := .int (q13.2.2.1 6)) rfl (by decide) tw968 ?_
                  refine j_bipush (pc := 192) C d_Mo_step_192 cb_13 ?_
                  refine j_icmp_eq (pc := 194) C d_Mo_step_194 (tgt := 209) rfl (fun h15 => ?_) (fun h15 => ?_)
                  · rw [if_pos h15] at hf
                    refine j_iconst (pc := 209) C d_Mo_step_209 ck_0 ?_
                    cases hf
                    exact j_zret (pc := 210) C d_Mo_step_210 rfl ⟨rfl, rfl⟩ (Nat.le_of_ble_eq_true rfl) (Nat.le_of_ble_eq_true rfl)
                  · rw [if_neg h15] at hf
                    refine j_aload_n (pc := 197) C d_Mo_step_197 rfl 0 rfl ?_
                    refine j_iload_n (pc := 198) C d_Mo_step_198 rfl 1 rfl ?_
                    obtain ⟨q16, eq16, hf⟩ := ob hf
                    refine j_callVi (pc := 199) C (rest := []) d_Mo_step_199 (c_Mo_operator (g := g) (ar := ar) eq16) cv_Mo_operator tw1230 0 rfl rfl cut_same rfl rfl (Nat.le_of_ble_eq_true rfl) (kc2 := 0) (ks2 := 0) (by decide) ?_
                    refine j_if_eq (pc := 202) C d_Mo_step_202 (tgt := 209) rfl (fun h17 => ?_) (fun h17 => ?_)
                    · rw [if_pos h17] at hf
                      refine j_iconst (pc := 209) C d_Mo_step_209 ck_0 ?_
                      cases hf
                      exact j_zret (pc := 210) C d_Mo_step_210 rfl ⟨rfl, rfl⟩ (Nat.le_of_ble_eq_true rfl) (Nat.le_of_ble_eq_true rfl)
                    · rw [if_neg h17] at hf
                      refine j_iconst (pc := 205) C d_Mo_step_205 ck_1 ?_
                      refine j_goto (pc := 206) C d_Mo_step_206 (tgt := 210) rfl ?_
                      cases hf
                      exact j_zret (pc := 210) C d_Mo_step_210 rfl ⟨rfl, rfl⟩ (Nat.le_of_ble_eq_true rfl) (Nat.le_of_ble_eq_true rfl)
                · rw [if_neg h14] at hf
                  refine j_aload_n (pc := 170) C d_Mo_step_170 rfl 0 rfl ?_
                  refine j_get (pc := 171) C d_Mo_step_171 0 12 wR_o0 rfl (v := .ref (ar 9)) rfl (by decide) tw954 ?_
                  refine j_iload_n (pc := 174) C d_Mo_step_174 rfl 1 rfl ?_
                  refine j_iconst (pc := 175) C d_Mo_step_175 ck_1 ?_
                  refine j_isub (pc := 176) C d_Mo_step_176 ?_
                  refine j_bipush (pc := 177) C d_Mo_step_177 cb_6 ?_
                  obtain ⟨b18, hf⟩ := og hf
                  refine j_iast (pc := 179) C d_Mo_step_179 9 (inb_in b18) wR_a9 (ws' := wR g ar (va_up q13.2.1 9 (upd (q13.2.1 9) (a1 - 1).toNatClampNeg 6)) q13.2.2.1 q13.2.2.2) wR_s9 ?_
                  refine j_aload_n (pc := 180) C d_Mo_step_180 rfl 0 rfl ?_
                  refine j_iload_n (pc := 181) C d_Mo_step_181 rfl 1 rfl ?_
                  refine j_iconst (pc := 182) C d_Mo_step_182 ck_1 ?_
                  refine j_isub (pc := 183) C d_Mo_step_183 ?_
                  obtain ⟨q19, eq19, hf⟩ := ob hf
                  refine j_callVi (pc := 184) C (rest := []) d_Mo_step_184 (c_Mo_openFrame (g := g) (ar := ar) eq19) cv_Mo_openFrame tw1226 0 rfl rfl cut_same rfl rfl (Nat.le_of_ble_eq_true rfl) (kc2 := 0) (ks2 := 0) (by decide) ?_
                  obtain ⟨b20, hf⟩ := og hf
                  cases hf
                  exact j_zret (pc := 187) C d_Mo_step_187 (isb_n b20) ⟨rfl, rfl⟩ (Nat.le_of_ble_eq_true rfl) (Nat.le_of_ble_eq_true rfl)
            · rw [if_pos h8] at hf
              refine j_aload_n (pc := 145) C d_Mo_step_145 rfl 0 rfl ?_
              refine j_iload_n (pc := 146) C d_Mo_step_146 rfl 1 rfl ?_
              obtain ⟨q21, eq21, hf⟩ := ob hf
              refine j_callVi (pc := 147) C (rest := []) d_Mo_step_147 (c_Mo_operand (g := g) (ar := ar) eq21) cv_Mo_operand tw1218 0 rfl rfl cut_same rfl rfl (Nat.le_of_ble_eq_true rfl) (kc2 := 0) (ks2 := 0) (by decide) ?_
              obtain ⟨b22, hf⟩ := og hf
              cases hf
              exact j_zret (pc := 150) C d_Mo_step_150 (isb_n b22) ⟨rfl, rfl⟩ (Nat.le_of_ble_eq_true rfl) (Nat.le_of_ble_eq_true rfl)
        · rw [if_pos h4] at hf
          refine j_aload_n (pc := 102) C d_Mo_step_102 rfl 0 rfl ?_
          refine j_iload_n (pc := 103) C d_Mo_step_103 rfl 1 rfl ?_
          refine j_bipush (pc := 104) C d_Mo_step_104 cb_61 ?_
          obtain ⟨q23, eq23, hf⟩ := ob hf
          refine j_callVi (pc := 106) C (rest := []) d_Mo_step_106 (c_Mo_is (g := g) (ar := ar) eq23) cv_Mo_is tw1198 0 rfl rfl cut_same rfl rfl (Nat.le_of_ble_eq_true rfl) (kc2 := 0) (ks2 := 0) (by decide) ?_
          refine j_if_eq (pc := 109) C d_Mo_step_109 (tgt := 125) rfl (fun h24 => ?_) (fun h24 => ?_)
          · rw [if_pos h24] at hf
            refine j_iconst (pc := 125) C d_Mo_step_125 ck_0 ?_
            cases hf
            exact j_zret (pc := 126) C d_Mo_step_126 rfl ⟨rfl, rfl⟩ (Nat.le_of_ble_eq_true rfl) (Nat.le_of_ble_eq_true rfl)
          · rw [if_neg h24] at hf
            refine j_aload_n (pc := 112) C d_Mo_step_112 rfl 0 rfl ?_
            refine j_bipush (pc := 113) C d_Mo_step_113 cb_59 ?_
            obtain ⟨q25, eq25, hf⟩ := ob hf
            refine j_callVi (pc := 115) C (rest := []) d_Mo_step_115 (c_Mo_expression (g := g) (ar := ar) eq25) cv_Mo_expression tw1214 0 rfl rfl cut_same rfl rfl (Nat.le_of_ble_eq_true rfl) (kc2 := 0) (ks2 := 0) (by decide) ?_
            refine j_if_eq (pc := 118) C d_Mo_step_118 (tgt := 125) rfl (fun h26 => ?_) (fun h26 => ?_)
            · rw [if_pos h26] at hf
              refine j_iconst (pc := 125) C d_Mo_step_125 ck_0 ?_
              cases hf
              exact j_zret (pc := 126) C d_Mo_step_126 rfl ⟨rfl, rfl⟩ (Nat.le_of_ble_eq_true rfl) (Nat.le_of_ble_eq_true rfl)
            · rw [if_neg h26] at hf
              refine j_iconst (pc := 121) C d_Mo_step_121 ck_1 ?_
              refine j_goto (pc := 122) C d_Mo_step_122 (tgt := 126) rfl ?_
              cases hf
              exact j_zret (pc := 126) C d_Mo_step_126 rfl ⟨rfl, rfl⟩ (Nat.le_of_ble_eq_true rfl) (Nat.le_of_ble_eq_true rfl)
      · rw [if_pos h3] at hf
        refine j_aload_n (pc := 39) C d_Mo_step_39 rfl 0 rfl ?_
        refine j_get (pc := 40) C d_Mo_step_40 0 12 wR_o0 rfl (v := .ref (ar 9)) rfl (by decide) tw954 ?_
        refine j_iload_n (pc := 43) C d_Mo_step_43 rfl 1 rfl ?_
        refine j_iconst (pc := 44) C d_Mo_step_44 ck_3 ?_
        obtain ⟨b27, hf⟩ := og hf
        refine j_iast (pc := 45) C d_Mo_step_45 9 (inb_in b27) wR_a9 (ws' := wR g ar (va_up r.1 9 (upd (r.1 9) a1.toNatClampNeg 3)) r.2.1 r.2.2) wR_s9 ?_
        refine j_aload_n (pc := 46) C d_Mo_step_46 rfl 0 rfl ?_
        refine j_get (pc := 47) C d_Mo_step_47 0 16 wR_o0 rfl (v := .ref (ar 13)) rfl (by decide) tw958 ?_
        refine j_iload_n (pc := 50) C d_Mo_step_50 rfl 1 rfl ?_
        refine j_aload_n (pc := 51) C d_Mo_step_51 rfl 0 rfl ?_
        refine j_get (pc := 52) C d_Mo_step_52 0 28 wR_o0 rfl (v := .ref (ar 21)) rfl (by decide) tw970 ?_
        refine j_aload_n (pc := 55) C d_Mo_step_55 rfl 0 rfl ?_
        refine j_get (pc := 56) C d_Mo_step_56 0 27 wR_o0 rfl (v := .int (r.2.1 7)) rfl (by decide) tw969 ?_
        refine j_iconst (pc := 59) C d_Mo_step_59 ck_1 ?_
        refine j_isub (pc := 60) C d_Mo_step_60 ?_
        obtain ⟨b28, hf⟩ := og hf
        refine j_iald (pc := 61) C d_Mo_step_61 21 (inb_in b28) (x := r.1 21 ((r.2.1 7) - 1).toNatClampNeg) wR_a21 rfl ?_
        obtain ⟨b29, hf⟩ := og hf
        refine j_iast (pc := 62) C d_Mo_step_62 13 (inb_in b29) wR_a13 (ws' := wR g ar (va_up (va_up r.1 9 (upd (r.1 9) a1.toNatClampNeg 3)) 13 (upd (r.1 13) a1.toNatClampNeg (r.1 21 ((r.2.1 7) - 1).toNatClampNeg))) r.2.1 r.2.2) wR_s13 ?_
        refine j_aload_n (pc := 63) C d_Mo_step_63 rfl 0 rfl ?_
        refine j_iload_n (pc := 64) C d_Mo_step_64 rfl 1 rfl ?_
        refine j_put (pc := 65) C d_Mo_step_65 0 33 wR_o0 rfl (by decide) tw975 pd_I rfl rfl rfl (Nat.le_of_ble_eq_true rfl) (ws' := wR g ar (va_up (va_up r.1 9 (upd (r.1 9) a1.toNatClampNeg 3)) 13 (upd (r.1 13) a1.toNatClampNeg (r.1 21 ((r.2.1 7) - 1).toNatClampNeg))) (va_up r.2.1 10 a1) r.2.2) wR_p0_33 ?_
        refine j_aload_n (pc := 68) C d_Mo_step_68 rfl 0 rfl ?_
        refine j_get (pc := 69) C d_Mo_step_69 0 8 wR_o0 rfl (v := .ref (ar 5)) rfl (by decide) tw950 ?_
        refine j_iload_n (pc := 72) C d_Mo_step_72 rfl 1 rfl ?_
        obtain ⟨b30, hf⟩ := og hf
        refine j_iald (pc := 73) C d_Mo_step_73 5 (inb_in b30) (x := r.1 5 a1.toNatClampNeg) wR_a5 rfl ?_
        refine j_iconst (pc := 74) C d_Mo_step_74 ck_2 ?_
        refine j_icmp_ne (pc := 75) C d_Mo_step_75 (tgt := 91) rfl (fun h31 => ?_) (fun h31 => ?_)
        · rw [if_neg h31] at hf
          refine j_iconst (pc := 91) C d_Mo_step_91 ck_0 ?_
          cases hf
          exact j_zret (pc := 92) C d_Mo_step_92 rfl ⟨rfl, rfl⟩ (Nat.le_of_ble_eq_true rfl) (Nat.le_of_ble_eq_true rfl)
        · rw [if_pos h31] at hf
          refine j_aload_n (pc := 78) C d_Mo_step_78 rfl 0 rfl ?_
          refine j_bipush (pc := 79) C d_Mo_step_79 cb_8 ?_
          obtain ⟨q32, eq32, hf⟩ := ob hf
          refine j_callVi (pc := 81) C (rest := []) d_Mo_step_81 (c_Mo_goesTo (g := g) (ar := ar) eq32) cv_Mo_goesTo tw1194 0 rfl rfl cut_same rfl rfl (Nat.le_of_ble_eq_true rfl) (kc2 := 0) (ks2 := 0) (by decide) ?_
          refine j_if_eq (pc := 84) C d_Mo_step_84 (tgt := 91) rfl (fun h33 => ?_) (fun h33 => ?_)
          · rw [if_pos h33] at hf
            refine j_iconst (pc := 91) C d_Mo_step_91 ck_0 ?_
            cases hf
            exact j_zret (pc := 92) C d_Mo_step_92 rfl ⟨rfl, rfl⟩ (Nat.le_of_ble_eq_true rfl) (Nat.le_of_ble_eq_true rfl)
          · rw [if_neg h33] at hf
            refine j_iconst (pc := 87) C d_Mo_step_87 ck_1 ?_
            refine j_goto (pc := 88) C d_Mo_step_88 (tgt := 92) rfl ?_
            cases hf
            exact j_zret (pc := 92) C d_Mo_step_92 rfl ⟨rfl, rfl⟩ (Nat.le_of_ble_eq_true rfl) (Nat.le_of_ble_eq_true rfl)
    · rw [if_pos h2] at hf
      refine j_aload_n (pc := 24) C d_Mo_step_24 rfl 0 rfl ?_
      refine j_iload_n (pc := 25) C d_Mo_step_25 rfl 1 rfl ?_
      obtain ⟨q34, eq34, hf⟩ := ob hf
      refine j_callVi (pc := 26) C (rest := []) d_Mo_step_26 (c_Mo_statement (g := g) (ar := ar) eq34) cv_Mo_statement tw1206 0 rfl rfl cut_same rfl rfl (Nat.le_of_ble_eq_true rfl) (kc2 := 0) (ks2 := 0) (by decide) ?_
      obtain ⟨b35, hf⟩ := og hf
      cases hf
      exact j_zret (pc := 29) C d_Mo_step_29 (isb_n b35) ⟨rfl, rfl⟩ (Nat.le_of_ble_eq_true rfl) (Nat.le_of_ble_eq_true rfl)
  · rw [if_neg h1] at hf
    refine j_aload_n (pc := 8) C d_Mo_step_8 rfl 0 rfl ?_
    refine j_iload_n (pc := 9) C d_Mo_step_9 rfl 1 rfl ?_
    refine j_iload_n (pc := 10) C d_Mo_step_10 rfl 2 rfl ?_
    obtain ⟨q36, eq36, hf⟩ := ob hf
    refine j_callVi (pc := 11) C (rest := []) d_Mo_step_11 (c_Mo_head (g := g) (ar := ar) eq36) cv_Mo_head tw1190 0 rfl rfl cut_same rfl rfl (Nat.le_of_ble_eq_true rfl) (kc2 := 0) (ks2 := 0) (by decide) ?_
    obtain ⟨b37, hf⟩ := og hf
    cases hf
    exact j_zret (pc := 14) C d_Mo_step_14 (isb_n b37) ⟨rfl, rfl⟩ (Nat.le_of_ble_eq_true rfl) (Nat.le_of_ble_eq_true rfl)
abbrev rm_Mo_readPart : Room := { frames := 4, cells := 0, slots := 0, locals := 88 }
theorem cv_Mo_readPart : CV y_Mo_readPart b_Mo_readPart 4 none 1 := ⟨⟨tw1185, tw10, by decide +kernel⟩, tw1184, (sw_ (q := (y_Mo_readPart, 54)) (by decide +kernel) (by decide +kernel))⟩
set_option maxHeartbeats 4000000 in
set_option maxRecDepth 100000 in
theorem c_Mo_readPart {g : GT} {ar : Nat → Nat} {a1 : Int32} {r : RS} {q : RS} (hf : f_Mo_readPart a1 r = some q) : MV g y_Mo_readPart b_Mo_readPart 4 none rm_Mo_readPart [.ref (ar 0), .int a1] (wR g ar r.1 r.2.1 r.2.2) (wR g ar q.1 q.2.1 q.2.2) := by
  refine MV.of (by decide) (Nat.le_of_ble_eq_true rfl) (fun 𝒥 C => ?_)
  have L150 : ∀ (n : Nat) (x : Int32 × Int32 × Int32 × RS), lpN (BMo_readPart_150) n x = some q → 𝒥 0 0 (wR g ar x.2.2.2.1 x.2.2.2.2.1 x.2.2.2.2.2) [(0, .ref (ar 0)), (1, .int x.1), (2, .int x.2.1), (3, .int x.2.2.1)] [] 150 := by
    refine lp_ind (fun k150 k150_ih x hf => ?_)
    unfold BMo_readPart_150 at hf
    refine j_iload_n (pc := 150) C d_Mo_readPart_150 rfl 3 rfl ?_
    refine j_iload_n (pc := 151) C d_Mo_readPart_151 rfl 2 rfl ?_
    refine j_icmp_ge (pc := 152) C d_Mo_readPart_152 (tgt := 206) rfl (fun h12 => ?_) (fun h12 => ?_)
    · rw [if_pos h12] at hf
      cases hf
      exact j_vret (pc := 206) C d_Mo_readPart_206 ⟨rfl, rfl⟩ (Nat.le_of_ble_eq_true rfl) (Nat.le_of_ble_eq_true rfl)
    · rw [if_neg h12] at hf
      refine j_aload_n (pc := 155) C d_Mo_readPart_155 rfl 0 rfl ?_
      refine j_get (pc := 156) C d_Mo_readPart_156 0 22 wR_o0 rfl (v := .ref (ar 18)) rfl (by decide) tw964 ?_
      refine j_iload_n (pc := 159) C d_Mo_readPart_159 rfl 1 rfl ?_
      obtain ⟨b13, hf⟩ := og hf
      refine j_iald (pc := 160) C d_Mo_readPart_160 18 (inb_in b13) (x := x.2.2.2.1 18 x.1.toNatClampNeg) wR_a18 rfl ?_
      refine j_if_lt (pc := 161) C d_Mo_readPart_161 (tgt := 171) rfl (fun h14 => ?_) (fun h14 => ?_)
      · rw [if_pos h14] at hf
        refine j_aload_n (pc := 171) C d_Mo_readPart_171 rfl 0 rfl ?_
        refine j_get (pc := 172) C d_Mo_readPart_172 0 12 wR_o0 rfl (v := .ref (ar 9)) rfl (by decide) tw954 ?_
        refine j_iload_n (pc := 175) C d_Mo_readPart_175 rfl 3 rfl ?_
        obtain ⟨b15, hf⟩ := og hf
        refine j_iald (pc := 176) C d_Mo_readPart_176 9 (inb_in b15) (x := x.2.2.2.1 9 x.2.2.1.toNatClampNeg) wR_a9 rfl ?_
        refine j_iconst (pc := 177) C d_Mo_readPart_177 ck_2 ?_
        refine j_icmp_ne (pc := 178) C d_Mo_readPart_178 (tgt := 200) rfl (fun h16 => ?_) (fun h16 => ?_)
        · rw [if_neg h16] at hf
          refine j_iinc (pc := 200) C d_Mo_readPart_200 3 rfl (v := x.2.2.1 + 1) (iv ci_1) [1, 2, 3, 0] (by decide) (lc' := [(0, .ref (ar 0)), (1, .int x.1), (2, .int x.2.1), (3, .int (x.2.2.1 + 1))]) rfl ?_
          refine j_goto (pc := 203) C d_Mo_readPart_203 (tgt := 150) rfl ?_
          exact k150_ih (x.1, x.2.1, x.2.2.1 + 1, x.2.2.2) hf
        · rw [if_pos h16] at hf
          refine j_aload_n (pc := 181) C d_Mo_readPart_181 rfl 0 rfl ?_
          refine j_get (pc := 182) C d_Mo_readPart_182 0 17 wR_o0 rfl (v := .ref (ar 14)) rfl (by decide) tw959 ?_
          refine j_iload_n (pc := 185) C d_Mo_readPart_185 rfl 3 rfl ?_
          refine j_aload_n (pc := 186) C d_Mo_readPart_186 rfl 0 rfl ?_
          refine j_get (pc := 187) C d_Mo_readPart_187 0 20 wR_o0 rfl (v := .ref (ar 16)) rfl (by decide) tw962 ?_
          refine j_iload_n (pc := 190) C d_Mo_readPart_190 rfl 1 rfl ?_
          obtain ⟨b17, hf⟩ := og hf
          refine j_iald (pc := 191) C d_Mo_readPart_191 16 (inb_in b17) (x := x.2.2.2.1 16 x.1.toNatClampNeg) wR_a16 rfl ?_
          obtain ⟨b18, hf⟩ := og hf
          refine j_iast (pc := 192) C d_Mo_readPart_192 14 (inb_in b18) wR_a14 (ws' := wR g ar (va_up x.2.2.2.1 14 (upd (x.2.2.2.1 14) x.2.2.1.toNatClampNeg (x.2.2.2.1 16 x.1.toNatClampNeg))) x.2.2.2.2.1 x.2.2.2.2.2) wR_s14 ?_
          refine j_aload_n (pc := 193) C d_Mo_readPart_193 rfl 0 rfl ?_
          refine j_get (pc := 194) C d_Mo_readPart_194 0 18 wR_o0 rfl (v := .ref (ar 15)) rfl (by decide) tw960 ?_
          refine j_iload_n (pc := 197) C d_Mo_readPart_197 rfl 3 rfl ?_
          refine j_iload_n (pc := 198) C d_Mo_readPart_198 rfl 2 rfl ?_
          obtain ⟨b19, hf⟩ := og hf
          refine j_iast (pc := 199) C d_Mo_readPart_199 15 (inb_in b19) wR_a15 (ws' := wR g ar (va_up (va_up x.2.2.2.1 14 (upd (x.2.2.2.1 14) x.2.2.1.toNatClampNeg (x.2.2.2.1 16 x.1.toNatClampNeg))) 15 (upd (x.2.2.2.1 15) x.2.2.1.toNatClampNeg x.2.1)) x.2.2.2.2.1 x.2.2.2.2.2) wR_s15 ?_
          refine j_iinc (pc := 200) C d_Mo_readPart_200 3 rfl (v := x.2.2.1 + 1) (iv ci_1) [1, 2, 3, 0] (by decide) (lc' := [(0, .ref (ar 0)), (1, .int x.1), (2, .int x.2.1), (3, .int (x.2.2.1 + 1))]) rfl ?_
          refine j_goto (pc := 203) C d_Mo_readPart_203 (tgt := 150) rfl ?_
          exact k150_ih (x.1, x.2.1, x.2.2.1 + 1, ((va_up (va_up x.2.2.2.1 14 (upd (x.2.2.2.1 14) x.2.2.1.toNatClampNeg (x.2.2.2.1 16 x.1.toNatClampNeg))) 15 (upd (x.2.2.2.1 15) x.2.2.1.toNatClampNeg x.2.1)), x.2.2.2.2.1, x.2.2.2.2.2)) hf
      · rw [if_neg h14] at hf
        refine j_aload_n (pc := 164) C d_Mo_readPart_164 rfl 0 rfl ?_
        refine j_get (pc := 165) C d_Mo_readPart_165 0 12 wR_o0 rfl (v := .ref (ar 9)) rfl (by decide) tw954 ?_
        refine j_iload_n (pc := 168) C d_Mo_readPart_168 rfl 3 rfl ?_
        refine j_iconst (pc := 169) C d_Mo_readPart_169 ck_0 ?_
        obtain ⟨b20, hf⟩ := og hf
        refine j_iast (pc := 170) C d_Mo_readPart_170 9 (inb_in b20) wR_a9 (ws' := wR g ar (va_up x.2.2.2.1 9 (upd (x.2.2.2.1 9) x.2.2.1.toNatClampNeg 0)) x.2.2.2.2.1 x.2.2.2.2.2) wR_s9 ?_
        refine j_aload_n (pc := 171) C d_Mo_readPart_171 rfl 0 rfl ?_
        refine j_get (pc := 172) C d_Mo_readPart_172 0 12 wR_o0 rfl (v := .ref (ar 9)) rfl (by decide) tw954 ?_
        refine j_iload_n (pc := 175) C d_Mo_readPart_175 rfl 3 rfl ?_
        obtain ⟨b21, hf⟩ := og hf
        refine j_iald (pc := 176) C d_Mo_readPart_176 9 (inb_in b21) (x := (upd (x.2.2.2.1 9) x.2.2.1.toNatClampNeg 0) x.2.2.1.toNatClampNeg) wR_a9 rfl ?_
        refine j_topi C (fun v22 ev22 => ?_)
        replace hf := ov ev22 hf
        refine j_iconst (pc := 177) C d_Mo_readPart_177 ck_2 ?_
        refine j_icmp_ne (pc := 178) C d_Mo_readPart_178 (tgt := 200) rfl (fun h23 => ?_) (fun h23 => ?_)
        · rw [if_neg h23] at hf
          refine j_iinc (pc := 200) C d_Mo_readPart_200 3 rfl (v := x.2.2.1 + 1) (iv ci_1) [1, 2, 3, 0] (by decide) (lc' := [(0, .ref (ar 0)), (1, .int x.1), (2, .int x.2.1), (3, .int (x.2.2.1 + 1))]) rfl ?_
          refine j_goto (pc := 203) C d_Mo_readPart_203 (tgt := 150) rfl ?_
          exact k150_ih (x.1, x.2.1, x.2.2.1 + 1, ((va_up x.2.2.2.1 9 (upd (x.2.2.2.1 9) x.2.2.1.toNatClampNeg 0)), x.2.2.2.2.1, x.2.2.2.2.2)) hf
        · rw [if_pos h23] at hf
          refine j_aload_n (pc := 181) C d_Mo_readPart_181 rfl 0 rfl ?_
          refine j_get (pc := 182) C d_Mo_readPart_182 0 17 wR_o0 rfl (v := .ref (ar 14)) rfl (by decide) tw959 ?_
          refine j_iload_n (pc := 185) C d_Mo_readPart_185 rfl 3 rfl ?_
          refine j_aload_n (pc := 186) C d_Mo_readPart_186 rfl 0 rfl ?_
          refine j_get (pc := 187) C d_Mo_readPart_187 0 20 wR_o0 rfl (v := .ref (ar 16)) rfl (by decide) tw962 ?_
          refine j_iload_n (pc := 190) C d_Mo_readPart_190 rfl 1 rfl ?_
          obtain ⟨b24, hf⟩ := og hf
          refine j_iald (pc := 191) C d_Mo_readPart_191 16 (inb_in b24) (x := x.2.2.2.1 16 x.1.toNatClampNeg) wR_a16 rfl ?_
          obtain ⟨b25, hf⟩ := og hf
          refine j_iast (pc := 192) C d_Mo_readPart_192 14 (inb_in b25) wR_a14 (ws' := wR g ar (va_up (va_up x.2.2.2.1 9 (upd (x.2.2.2.1 9) x.2.2.1.toNatClampNeg 0)) 14 (upd (x.2.2.2.1 14) x.2.2.1.toNatClampNeg (x.2.2.2.1 16 x.1.toNatClampNeg))) x.2.2.2.2.1 x.2.2.2.2.2) wR_s14 ?_
          refine j_aload_n (pc := 193) C d_Mo_readPart_193 rfl 0 rfl ?_
          refine j_get (pc := 194) C d_Mo_readPart_194 0 18 wR_o0 rfl (v := .ref (ar 15)) rfl (by decide) tw960 ?_
          refine j_iload_n (pc := 197) C d_Mo_readPart_197 rfl 3 rfl ?_
          refine j_iload_n (pc := 198) C d_Mo_readPart_198 rfl 2 rfl ?_
          obtain ⟨b26, hf⟩ := og hf
          refine j_iast (pc := 199) C d_Mo_readPart_199 15 (inb_in b26) wR_a15 (ws' := wR g ar (va_up (va_up (va_up x.2.2.2.1 9 (upd (x.2.2.2.1 9) x.2.2.1.toNatClampNeg 0)) 14 (upd (x.2.2.2.1 14) x.2.2.1.toNatClampNeg (x.2.2.2.1 16 x.1.toNatClampNeg))) 15 (upd (x.2.2.2.1 15) x.2.2.1.toNatClampNeg x.2.1)) x.2.2.2.2.1 x.2.2.2.2.2) wR_s15 ?_
          refine j_iinc (pc := 200) C d_Mo_readPart_200 3 rfl (v := x.2.2.1 + 1) (iv ci_1) [1, 2, 3, 0] (by decide) (lc' := [(0, .ref (ar 0)), (1, .int x.1), (2, .int x.2.1), (3, .int (x.2.2.1 + 1))]) rfl ?_
          refine j_goto (pc := 203) C d_Mo_readPart_203 (tgt := 150) rfl ?_
          exact k150_ih (x.1, x.2.1, x.2.2.1 + 1, ((va_up (va_up (va_up x.2.2.2.1 9 (upd (x.2.2.2.1 9) x.2.2.1.toNatClampNeg 0)) 14 (upd (x.2.2.2.1 14) x.2.2.1.toNatClampNeg (x.2.2.2.1 16 x.1.toNatClampNeg))) 15 (upd (x.2.2.2.1 15) x.2.2.1.toNatClampNeg x.2.1)), x.2.2.2.2.1, x.2.2.2.2.2)) hf
  have L70 : ∀ (n : Nat) (x : Int32 × Int32 × Int32 × RS), lpN (BMo_readPart_70) n x = some q → 𝒥 0 0 (wR g ar x.2.2.2.1 x.2.2.2.2.1 x.2.2.2.2.2) [(0, .ref (ar 0)), (1, .int x.1), (2, .int x.2.1), (3, .int x.2.2.1)] [] 70 := by
    refine lp_ind (fun k70 k70_ih x hf => ?_)
    unfold BMo_readPart_70 at hf
    refine j_iload_n (pc := 70) C d_Mo_readPart_70 rfl 3 rfl ?_
    refine j_iload_n (pc := 71) C d_Mo_readPart_71 rfl 2 rfl ?_
    refine j_icmp_ge (pc := 72) C d_Mo_readPart_72 (tgt := 111) rfl (fun h8 => ?_) (fun h8 => ?_)
    · rw [if_pos h8] at hf
      refine j_aload_n (pc := 111) C d_Mo_readPart_111 rfl 0 rfl ?_
      refine j_get (pc := 112) C d_Mo_readPart_112 0 22 wR_o0 rfl (v := .ref (ar 18)) rfl (by decide) tw964 ?_
      refine j_iload_n (pc := 115) C d_Mo_readPart_115 rfl 1 rfl ?_
      obtain ⟨b9, hf⟩ := og hf
      refine j_iald (pc := 116) C d_Mo_readPart_116 18 (inb_in b9) (x := x.2.2.2.1 18 x.1.toNatClampNeg) wR_a18 rfl ?_
      refine j_if_ge (pc := 117) C d_Mo_readPart_117 (tgt := 143) rfl (fun h10 => ?_) (fun h10 => ?_)
      · rw [if_pos h10] at hf
        refine j_aload_n (pc := 143) C d_Mo_readPart_143 rfl 0 rfl ?_
        refine j_get (pc := 144) C d_Mo_readPart_144 0 20 wR_o0 rfl (v := .ref (ar 16)) rfl (by decide) tw962 ?_
        refine j_iload_n (pc := 147) C d_Mo_readPart_147 rfl 1 rfl ?_
        obtain ⟨b11, hf⟩ := og hf
        refine j_iald (pc := 148) C d_Mo_readPart_148 16 (inb_in b11) (x := x.2.2.2.1 16 x.1.toNatClampNeg) wR_a16 rfl ?_
        refine j_istore_n (pc := 149) C d_Mo_readPart_149 rfl [1, 2, 3, 0] (by decide) (lc' := [(0, .ref (ar 0)), (1, .int x.1), (2, .int x.2.1), (3, .int (x.2.2.2.1 16 x.1.toNatClampNeg))]) rfl ?_
        exact L150 100000 (x.1, x.2.1, x.2.2.2.1 16 x.1.toNatClampNeg, x.2.2.2) hf
      · rw [if_neg h10] at hf
        refine j_aload_n (pc := 120) C d_Mo_readPart_120 rfl 0 rfl ?_
        refine j_get (pc := 121) C d_Mo_readPart_121 0 26 wR_o0 rfl (v := .int (x.2.2.2.2.1 6)) rfl (by decide) tw968 ?_
        refine j_bipush (pc := 124) C d_Mo_readPart_124 cb_13 ?_
        refine j_icmp_eq (pc := 126) C d_Mo_readPart_126 (tgt := 143) rfl (fun h27 => ?_) (fun h27 => ?_)
        · rw [if_pos h27] at hf
          refine j_aload_n (pc := 143) C d_Mo_readPart_143 rfl 0 rfl ?_
          refine j_get (pc := 144) C d_Mo_readPart_144 0 20 wR_o0 rfl (v := .ref (ar 16)) rfl (by decide) tw962 ?_
          refine j_iload_n (pc := 147) C d_Mo_readPart_147 rfl 1 rfl ?_
          obtain ⟨b28, hf⟩ := og hf
          refine j_iald (pc := 148) C d_Mo_readPart_148 16 (inb_in b28) (x := x.2.2.2.1 16 x.1.toNatClampNeg) wR_a16 rfl ?_
          refine j_istore_n (pc := 149) C d_Mo_readPart_149 rfl [1, 2, 3, 0] (by decide) (lc' := [(0, .ref (ar 0)), (1, .int x.1), (2, .int x.2.1), (3, .int (x.2.2.2.1 16 x.1.toNatClampNeg))]) rfl ?_
          exact L150 100000 (x.1, x.2.1, x.2.2.2.1 16 x.1.toNatClampNeg, x.2.2.2) hf
        · rw [if_neg h27] at hf
          refine j_aload_n (pc := 129) C d_Mo_readPart_129 rfl 0 rfl ?_
          refine j_get (pc := 130) C d_Mo_readPart_130 0 22 wR_o0 rfl (v := .ref (ar 18)) rfl (by decide) tw964 ?_
          refine j_iload_n (pc := 133) C d_Mo_readPart_133 rfl 1 rfl ?_
          refine j_aload_n (pc := 134) C d_Mo_readPart_134 rfl 0 rfl ?_
          refine j_get (pc := 135) C d_Mo_readPart_135 0 10 wR_o0 rfl (v := .ref (ar 7)) rfl (by decide) tw952 ?_
          refine j_iload_n (pc := 138) C d_Mo_readPart_138 rfl 2 rfl ?_
          refine j_iconst (pc := 139) C d_Mo_readPart_139 ck_1 ?_
          refine j_isub (pc := 140) C d_Mo_readPart_140 ?_
          obtain ⟨b29, hf⟩ := og hf
          refine j_iald (pc := 141) C d_Mo_readPart_141 7 (inb_in b29) (x := x.2.2.2.1 7 (x.2.1 - 1).toNatClampNeg) wR_a7 rfl ?_
          obtain ⟨b30, hf⟩ := og hf
          refine j_iast (pc := 142) C d_Mo_readPart_142 18 (inb_in b30) wR_a18 (ws' := wR g ar (va_up x.2.2.2.1 18 (upd (x.2.2.2.1 18) x.1.toNatClampNeg (x.2.2.2.1 7 (x.2.1 - 1).toNatClampNeg))) x.2.2.2.2.1 x.2.2.2.2.2) wR_s18 ?_
          refine j_aload_n (pc := 143) C d_Mo_readPart_143 rfl 0 rfl ?_
          refine j_get (pc := 144) C d_Mo_readPart_144 0 20 wR_o0 rfl (v := .ref (ar 16)) rfl (by decide) tw962 ?_
          refine j_iload_n (pc := 147) C d_Mo_readPart_147 rfl 1 rfl ?_
          obtain ⟨b31, hf⟩ := og hf
          refine j_iald (pc := 148) C d_Mo_readPart_148 16 (inb_in b31) (x := x.2.2.2.1 16 x.1.toNatClampNeg) wR_a16 rfl ?_
          refine j_istore_n (pc := 149) C d_Mo_readPart_149 rfl [1, 2, 3, 0] (by decide) (lc' := [(0, .ref (ar 0)), (1, .int x.1), (2, .int x.2.1), (3, .int (x.2.2.2.1 16 x.1.toNatClampNeg))]) rfl ?_
          exact L150 100000 (x.1, x.2.1, x.2.2.2.1 16 x.1.toNatClampNeg, ((va_up x.2.2.2.1 18 (upd (x.2.2.2.1 18) x.1.toNatClampNeg (x.2.2.2.1 7 (x.2.1 - 1).toNatClampNeg))), x.2.2.2.2.1, x.2.2.2.2.2)) hf
    · rw [if_neg h8] at hf
      refine j_aload_n (pc := 75) C d_Mo_readPart_75 rfl 0 rfl ?_
      refine j_get (pc := 76) C d_Mo_readPart_76 0 22 wR_o0 rfl (v := .ref (ar 18)) rfl (by decide) tw964 ?_
      refine j_iload_n (pc := 79) C d_Mo_readPart_79 rfl 1 rfl ?_
      obtain ⟨b32, hf⟩ := og hf
      refine j_iald (pc := 80) C d_Mo_readPart_80 18 (inb_in b32) (x := x.2.2.2.1 18 x.1.toNatClampNeg) wR_a18 rfl ?_
      refine j_if_ge (pc := 81) C d_Mo_readPart_81 (tgt := 111) rfl (fun h33 => ?_) (fun h33 => ?_)
      · rw [if_pos h33] at hf
        refine j_aload_n (pc := 111) C d_Mo_readPart_111 rfl 0 rfl ?_
        refine j_get (pc := 112) C d_Mo_readPart_112 0 22 wR_o0 rfl (v := .ref (ar 18)) rfl (by decide) tw964 ?_
        refine j_iload_n (pc := 115) C d_Mo_readPart_115 rfl 1 rfl ?_
        obtain ⟨b34, hf⟩ := og hf
        refine j_iald (pc := 116) C d_Mo_readPart_116 18 (inb_in b34) (x := x.2.2.2.1 18 x.1.toNatClampNeg) wR_a18 rfl ?_
        refine j_if_ge (pc := 117) C d_Mo_readPart_117 (tgt := 143) rfl (fun h35 => ?_) (fun h35 => ?_)
        · rw [if_pos h35] at hf
          refine j_aload_n (pc := 143) C d_Mo_readPart_143 rfl 0 rfl ?_
          refine j_get (pc := 144) C d_Mo_readPart_144 0 20 wR_o0 rfl (v := .ref (ar 16)) rfl (by decide) tw962 ?_
          refine j_iload_n (pc := 147) C d_Mo_readPart_147 rfl 1 rfl ?_
          obtain ⟨b36, hf⟩ := og hf
          refine j_iald (pc := 148) C d_Mo_readPart_148 16 (inb_in b36) (x := x.2.2.2.1 16 x.1.toNatClampNeg) wR_a16 rfl ?_
          refine j_istore_n (pc := 149) C d_Mo_readPart_149 rfl [1, 2, 3, 0] (by decide) (lc' := [(0, .ref (ar 0)), (1, .int x.1), (2, .int x.2.1), (3, .int (x.2.2.2.1 16 x.1.toNatClampNeg))]) rfl ?_
          exact L150 100000 (x.1, x.2.1, x.2.2.2.1 16 x.1.toNatClampNeg, x.2.2.2) hf
        · rw [if_neg h35] at hf
          refine j_aload_n (pc := 120) C d_Mo_readPart_120 rfl 0 rfl ?_
          refine j_get (pc := 121) C d_Mo_readPart_121 0 26 wR_o0 rfl (v := .int (x.2.2.2.2.1 6)) rfl (by decide) tw968 ?_
          refine j_bipush (pc := 124) C d_Mo_readPart_124 cb_13 ?_
          refine j_icmp_eq (pc := 126) C d_Mo_readPart_126 (tgt := 143) rfl (fun h37 => ?_) (fun h37 => ?_)
          · rw [if_pos h37] at hf
            refine j_aload_n (pc := 143) C d_Mo_readPart_143 rfl 0 rfl ?_
            refine j_get (pc := 144) C d_Mo_readPart_144 0 20 wR_o0 rfl (v := .ref (ar 16)) rfl (by decide) tw962 ?_
            refine j_iload_n (pc := 147) C d_Mo_readPart_147 rfl 1 rfl ?_
            obtain ⟨b38, hf⟩ := og hf
            refine j_iald (pc := 148) C d_Mo_readPart_148 16 (inb_in b38) (x := x.2.2.2.1 16 x.1.toNatClampNeg) wR_a16 rfl ?_
            refine j_istore_n (pc := 149) C d_Mo_readPart_149 rfl [1, 2, 3, 0] (by decide) (lc' := [(0, .ref (ar 0)), (1, .int x.1), (2, .int x.2.1), (3, .int (x.2.2.2.1 16 x.1.toNatClampNeg))]) rfl ?_
            exact L150 100000 (x.1, x.2.1, x.2.2.2.1 16 x.1.toNatClampNeg, x.2.2.2) hf
          · rw [if_neg h37] at hf
            refine j_aload_n (pc := 129) C d_Mo_readPart_129 rfl 0 rfl ?_
            refine j_get (pc := 130) C d_Mo_readPart_130 0 22 wR_o0 rfl (v := .ref (ar 18)) rfl (by decide) tw964 ?_
            refine j_iload_n (pc := 133) C d_Mo_readPart_133 rfl 1 rfl ?_
            refine j_aload_n (pc := 134) C d_Mo_readPart_134 rfl 0 rfl ?_
            refine j_get (pc := 135) C d_Mo_readPart_135 0 10 wR_o0 rfl (v := .ref (ar 7)) rfl (by decide) tw952 ?_
            refine j_iload_n (pc := 138) C d_Mo_readPart_138 rfl 2 rfl ?_
            refine j_iconst (pc := 139) C d_Mo_readPart_139 ck_1 ?_
            refine j_isub (pc := 140) C d_Mo_readPart_140 ?_
            obtain ⟨b39, hf⟩ := og hf
            refine j_iald (pc := 141) C d_Mo_readPart_141 7 (inb_in b39) (x := x.2.2.2.1 7 (x.2.1 - 1).toNatClampNeg) wR_a7 rfl ?_
            obtain ⟨b40, hf⟩ := og hf
            refine j_iast (pc := 142) C d_Mo_readPart_142 18 (inb_in b40) wR_a18 (ws' := wR g ar (va_up x.2.2.2.1 18 (upd (x.2.2.2.1 18) x.1.toNatClampNeg (x.2.2.2.1 7 (x.2.1 - 1).toNatClampNeg))) x.2.2.2.2.1 x.2.2.2.2.2) wR_s18 ?_
            refine j_aload_n (pc := 143) C d_Mo_readPart_143 rfl 0 rfl ?_
            refine j_get (pc := 144) C d_Mo_readPart_144 0 20 wR_o0 rfl (v := .ref (ar 16)) rfl (by decide) tw962 ?_
            refine j_iload_n (pc := 147) C d_Mo_readPart_147 rfl 1 rfl ?_
            obtain ⟨b41, hf⟩ := og hf
            refine j_iald (pc := 148) C d_Mo_readPart_148 16 (inb_in b41) (x := x.2.2.2.1 16 x.1.toNatClampNeg) wR_a16 rfl ?_
            refine j_istore_n (pc := 149) C d_Mo_readPart_149 rfl [1, 2, 3, 0] (by decide) (lc' := [(0, .ref (ar 0)), (1, .int x.1), (2, .int x.2.1), (3, .int (x.2.2.2.1 16 x.1.toNatClampNeg))]) rfl ?_
            exact L150 100000 (x.1, x.2.1, x.2.2.2.1 16 x.1.toNatClampNeg, ((va_up x.2.2.2.1 18 (upd (x.2.2.2.1 18) x.1.toNatClampNeg (x.2.2.2.1 7 (x.2.1 - 1).toNatClampNeg))), x.2.2.2.2.1, x.2.2.2.2.2)) hf
      · rw [if_neg h33] at hf
        refine j_aload_n (pc := 84) C d_Mo_readPart_84 rfl 0 rfl ?_
        refine j_iload_n (pc := 85) C d_Mo_readPart_85 rfl 3 rfl ?_
        refine j_iload_n (pc := 86) C d_Mo_readPart_86 rfl 1 rfl ?_
        obtain ⟨q42, eq42, hf⟩ := ob hf
        refine j_callVi (pc := 87) C (rest := []) d_Mo_readPart_87 (c_Mo_step (g := g) (ar := ar) eq42) cv_Mo_step tw1186 0 rfl rfl cut_same rfl rfl (Nat.le_of_ble_eq_true rfl) (kc2 := 0) (ks2 := 0) (by decide) ?_
        refine j_if_ne (pc := 90) C d_Mo_readPart_90 (tgt := 105) rfl (fun h43 => ?_) (fun h43 => ?_)
        · rw [if_neg h43] at hf
          refine j_iinc (pc := 105) C d_Mo_readPart_105 3 rfl (v := x.2.2.1 + 1) (iv ci_1) [1, 2, 3, 0] (by decide) (lc' := [(0, .ref (ar 0)), (1, .int x.1), (2, .int x.2.1), (3, .int (x.2.2.1 + 1))]) rfl ?_
          refine j_goto (pc := 108) C d_Mo_readPart_108 (tgt := 70) rfl ?_
          exact k70_ih (x.1, x.2.1, x.2.2.1 + 1, q42.2) hf
        · rw [if_pos h43] at hf
          refine j_aload_n (pc := 93) C d_Mo_readPart_93 rfl 0 rfl ?_
          refine j_get (pc := 94) C d_Mo_readPart_94 0 22 wR_o0 rfl (v := .ref (ar 18)) rfl (by decide) tw964 ?_
          refine j_iload_n (pc := 97) C d_Mo_readPart_97 rfl 1 rfl ?_
          refine j_aload_n (pc := 98) C d_Mo_readPart_98 rfl 0 rfl ?_
          refine j_get (pc := 99) C d_Mo_readPart_99 0 9 wR_o0 rfl (v := .ref (ar 6)) rfl (by decide) tw951 ?_
          refine j_iload_n (pc := 102) C d_Mo_readPart_102 rfl 3 rfl ?_
          obtain ⟨b44, hf⟩ := og hf
          refine j_iald (pc := 103) C d_Mo_readPart_103 6 (inb_in b44) (x := q42.2.1 6 x.2.2.1.toNatClampNeg) wR_a6 rfl ?_
          obtain ⟨b45, hf⟩ := og hf
          refine j_iast (pc := 104) C d_Mo_readPart_104 18 (inb_in b45) wR_a18 (ws' := wR g ar (va_up q42.2.1 18 (upd (q42.2.1 18) x.1.toNatClampNeg (q42.2.1 6 x.2.2.1.toNatClampNeg))) q42.2.2.1 q42.2.2.2) wR_s18 ?_
          refine j_iinc (pc := 105) C d_Mo_readPart_105 3 rfl (v := x.2.2.1 + 1) (iv ci_1) [1, 2, 3, 0] (by decide) (lc' := [(0, .ref (ar 0)), (1, .int x.1), (2, .int x.2.1), (3, .int (x.2.2.1 + 1))]) rfl ?_
          refine j_goto (pc := 108) C d_Mo_readPart_108 (tgt := 70) rfl ?_
          exact k70_ih (x.1, x.2.1, x.2.2.1 + 1, ((va_up q42.2.1 18 (upd (q42.2.1 18) x.1.toNatClampNeg (q42.2.1 6 x.2.2.1.toNatClampNeg))), q42.2.2.1, q42.2.2.2)) hf
  unfold f_Mo_readPart at hf
  change 𝒥 0 0 (wR g ar r.1 r.2.1 r.2.2) [(0, .ref (ar 0)), (1, .int a1)] [] 0
  refine j_aload_n (pc := 0) C d_Mo_readPart_0 rfl 0 rfl ?_
  refine j_get (pc := 1) C d_Mo_readPart_1 0 21 wR_o0 rfl (v := .ref (ar 17)) rfl (by decide) tw963 ?_
  refine j_iload_n (pc := 4) C d_Mo_readPart_4 rfl 1 rfl ?_
  obtain ⟨b1, hf⟩ := og hf
  refine j_iald (pc := 5) C d_Mo_readPart_5 17 (inb_in b1) (x := r.1 17 a1.toNatClampNeg) wR_a17 rfl ?_
  refine j_istore_n (pc := 6) C d_Mo_readPart_6 rfl [1, 2, 0] (by decide) (lc' := [(0, .ref (ar 0)), (1, .int a1), (2, .int (r.1 17 a1.toNatClampNeg))]) rfl ?_
  refine j_aload_n (pc := 7) C d_Mo_readPart_7 rfl 0 rfl ?_
  refine j_get (pc := 8) C d_Mo_readPart_8 0 22 wR_o0 rfl (v := .ref (ar 18)) rfl (by decide) tw964 ?_
  refine j_iload_n (pc := 11) C d_Mo_readPart_11 rfl 1 rfl ?_
  refine j_iconst (pc := 12) C d_Mo_readPart_12 ck_m1 ?_
  obtain ⟨b2, hf⟩ := og hf
  refine j_iast (pc := 13) C d_Mo_readPart_13 18 (inb_in b2) wR_a18 (ws' := wR g ar (va_up r.1 18 (upd (r.1 18) a1.toNatClampNeg (-1))) r.2.1 r.2.2) wR_s18 ?_
  refine j_aload_n (pc := 14) C d_Mo_readPart_14 rfl 0 rfl ?_
  refine j_get (pc := 15) C d_Mo_readPart_15 0 23 wR_o0 rfl (v := .ref (ar 19)) rfl (by decide) tw965 ?_
  refine j_iload_n (pc := 18) C d_Mo_readPart_18 rfl 1 rfl ?_
  refine j_iconst (pc := 19) C d_Mo_readPart_19 ck_0 ?_
  obtain ⟨b3, hf⟩ := og hf
  refine j_iast (pc := 20) C d_Mo_readPart_20 19 (inb_in b3) wR_a19 (ws' := wR g ar (va_up (va_up r.1 18 (upd (r.1 18) a1.toNatClampNeg (-1))) 19 (upd (r.1 19) a1.toNatClampNeg 0)) r.2.1 r.2.2) wR_s19 ?_
  refine j_aload_n (pc := 21) C d_Mo_readPart_21 rfl 0 rfl ?_
  refine j_iconst (pc := 22) C d_Mo_readPart_22 ck_0 ?_
  refine j_put (pc := 23) C d_Mo_readPart_23 0 26 wR_o0 rfl (by decide) tw968 pd_I rfl rfl rfl (Nat.le_of_ble_eq_true rfl) (ws' := wR g ar (va_up (va_up r.1 18 (upd (r.1 18) a1.toNatClampNeg (-1))) 19 (upd (r.1 19) a1.toNatClampNeg 0)) (va_up r.2.1 6 0) r.2.2) wR_p0_26 ?_
  refine j_aload_n (pc := 26) C d_Mo_readPart_26 rfl 0 rfl ?_
  refine j_iconst (pc := 27) C d_Mo_readPart_27 ck_0 ?_
  refine j_put (pc := 28) C d_Mo_readPart_28 0 27 wR_o0 rfl (by decide) tw969 pd_I rfl rfl rfl (Nat.le_of_ble_eq_true rfl) (ws' := wR g ar (va_up (va_up r.1 18 (upd (r.1 18) a1.toNatClampNeg (-1))) 19 (upd (r.1 19) a1.toNatClampNeg 0)) (va_up (va_up r.2.1 6 0) 7 0) r.2.2) wR_p0_27 ?_
  refine j_aload_n (pc := 31) C d_Mo_readPart_31 rfl 0 rfl ?_
  refine j_aload_n (pc := 32) C d_Mo_readPart_32 rfl 0 rfl ?_
  refine j_get (pc := 33) C d_Mo_readPart_33 0 20 wR_o0 rfl (v := .ref (ar 16)) rfl (by decide) tw962 ?_
  refine j_iload_n (pc := 36) C d_Mo_readPart_36 rfl 1 rfl ?_
  obtain ⟨b4, hf⟩ := og hf
  refine j_iald (pc := 37) C d_Mo_readPart_37 16 (inb_in b4) (x := r.1 16 a1.toNatClampNeg) wR_a16 rfl ?_
  obtain ⟨q5, eq5, hf⟩ := ob hf
  refine j_callVi (pc := 38) C (rest := []) d_Mo_readPart_38 (c_Mo_isFn (g := g) (ar := ar) eq5) cv_Mo_isFn tw1178 0 rfl rfl cut_same rfl rfl (Nat.le_of_ble_eq_true rfl) (kc2 := 0) (ks2 := 0) (by decide) ?_
  refine j_if_ne (pc := 41) C d_Mo_readPart_41 (tgt := 61) rfl (fun h6 => ?_) (fun h6 => ?_)
  · rw [if_neg h6] at hf
    refine j_aload_n (pc := 61) C d_Mo_readPart_61 rfl 0 rfl ?_
    refine j_get (pc := 62) C d_Mo_readPart_62 0 20 wR_o0 rfl (v := .ref (ar 16)) rfl (by decide) tw962 ?_
    refine j_iload_n (pc := 65) C d_Mo_readPart_65 rfl 1 rfl ?_
    obtain ⟨b7, hf⟩ := og hf
    refine j_iald (pc := 66) C d_Mo_readPart_66 16 (inb_in b7) (x := q5.2.1 16 a1.toNatClampNeg) wR_a16 rfl ?_
    refine j_iconst (pc := 67) C d_Mo_readPart_67 ck_1 ?_
    refine j_iadd (pc := 68) C d_Mo_readPart_68 ?_
    refine j_istore_n (pc := 69) C d_Mo_readPart_69 rfl [1, 2, 3, 0] (by decide) (lc' := [(0, .ref (ar 0)), (1, .int a1), (2, .int (r.1 17 a1.toNatClampNeg)), (3, .int ((q5.2.1 16 a1.toNatClampNeg) + 1))]) rfl ?_
    exact L70 100000 (a1, r.1 17 a1.toNatClampNeg, (q5.2.1 16 a1.toNatClampNeg) + 1, q5.2) hf
  · rw [if_pos h6] at hf
    refine j_aload_n (pc := 44) C d_Mo_readPart_44 rfl 0 rfl ?_
    refine j_get (pc := 45) C d_Mo_readPart_45 0 22 wR_o0 rfl (v := .ref (ar 18)) rfl (by decide) tw964 ?_
    refine j_iload_n (pc := 48) C d_Mo_readPart_48 rfl 1 rfl ?_
    refine j_aload_n (pc := 49) C d_Mo_readPart_49 rfl 0 rfl ?_
    refine j_get (pc := 50) C d_Mo_readPart_50 0 9 wR_o0 rfl (v := .ref (ar 6)) rfl (by decide) tw951 ?_
    refine j_aload_n (pc := 53) C d_Mo_readPart_53 rfl 0 rfl ?_
    refine j_get (pc := 54) C d_Mo_readPart_54 0 20 wR_o0 rfl (v := .ref (ar 16)) rfl (by decide) tw962 ?_
    refine j_iload_n (pc := 57) C d_Mo_readPart_57 rfl 1 rfl ?_
    obtain ⟨b46, hf⟩ := og hf
    refine j_iald (pc := 58) C d_Mo_readPart_58 16 (inb_in b46) (x := q5.2.1 16 a1.toNatClampNeg) wR_a16 rfl ?_
    obtain ⟨b47, hf⟩ := og hf
    refine j_iald (pc := 59) C d_Mo_readPart_59 6 (inb_in b47) (x := q5.2.1 6 (q5.2.1 16 a1.toNatClampNeg).toNatClampNeg) wR_a6 rfl ?_
    refine j_topi C (fun v48 ev48 => ?_)
    replace hf := ov ev48 hf
    obtain ⟨b49, hf⟩ := og hf
    refine j_iast (pc := 60) C d_Mo_readPart_60 18 (inb_in b49) wR_a18 (ws' := wR g ar (va_up q5.2.1 18 (upd (q5.2.1 18) a1.toNatClampNeg v48)) q5.2.2.1 q5.2.2.2) wR_s18 ?_
    refine j_aload_n (pc := 61) C d_Mo_readPart_61 rfl 0 rfl ?_
    refine j_get (pc := 62) C d_Mo_readPart_62 0 20 wR_o0 rfl (v := .ref (ar 16)) rfl (by decide) tw962 ?_
    refine j_iload_n (pc := 65) C d_Mo_readPart_65 rfl 1 rfl ?_
    obtain ⟨b50, hf⟩ := og hf
    refine j_iald (pc := 66) C d_Mo_readPart_66 16 (inb_in b50) (x := q5.2.1 16 a1.toNatClampNeg) wR_a16 rfl ?_
    refine j_iconst (pc := 67) C d_Mo_readPart_67 ck_1 ?_
    refine j_iadd (pc := 68) C d_Mo_readPart_68 ?_
    refine j_istore_n (pc := 69) C d_Mo_readPart_69 rfl [1, 2, 3, 0] (by decide) (lc' := [(0, .ref (ar 0)), (1, .int a1), (2, .int (r.1 17 a1.toNatClampNeg)), (3, .int ((q5.2.1 16 a1.toNatClampNeg) + 1))]) rfl ?_
    exact L70 100000 (a1, r.1 17 a1.toNatClampNeg, (q5.2.1 16 a1.toNatClampNeg) + 1, ((va_up q5.2.1 18 (upd (q5.2.1 18) a1.toNatClampNeg v48)), q5.2.2.1, q5.2.2.2)) hf
abbrev rm_Mo_note : Room := { frames := 0, cells := 0, slots := 0, locals := 0 }
theorem cv_Mo_note : CV y_Mo_note b_Mo_note 5 none 2 := ⟨⟨tw1237, tw10, by decide +kernel⟩, tw1236, (sw_ (q := (y_Mo_note, 54)) (by decide +kernel) (by decide +kernel))⟩
set_option maxHeartbeats 4000000 in
set_option maxRecDepth 100000 in
theorem c_Mo_note {g : GT} {ar : Nat → Nat} {a1 : Int32} {a2 : Int32} {r : RS} {q : RS} (hf : f_Mo_note a1 a2 r = some q) : MV g y_Mo_note b_Mo_note 5 none rm_Mo_note [.ref (ar 0), .int a1, .int a2] (wR g ar r.1 r.2.1 r.2.2) (wR g ar q.1 q.2.1 q.2.2) := by
  refine MV.of (by decide) (Nat.le_of_ble_eq_true rfl) (fun 𝒥 C => ?_)
  have L13 : ∀ (n : Nat) (x : Int32 × Int32 × Int32 × Int32 × RS), lpN (BMo_note_13) n x = some q → 𝒥 0 0 (wR g ar x.2.2.2.2.1 x.2.2.2.2.2.1 x.2.2.2.2.2.2) [(0, .ref (ar 0)), (1, .int x.1), (2, .int x.2.1), (3, .int x.2.2.1), (4, .int x.2.2.2.1)] [] 13 := by
    refine lp_ind (fun k13 k13_ih x hf => ?_)
    unfold BMo_note_13 at hf
    refine j_iload (pc := 13) C d_Mo_note_13 4 rfl ?_
    refine j_if_le (pc := 15) C d_Mo_note_15 (tgt := 53) rfl (fun h1 => ?_) (fun h1 => ?_)
    · rw [if_pos h1] at hf
      refine j_aload_n (pc := 53) C d_Mo_note_53 rfl 0 rfl ?_
      refine j_get (pc := 54) C d_Mo_note_54 0 25 wR_o0 rfl (v := .ref (ar 20)) rfl (by decide) tw967 ?_
      refine j_iload (pc := 57) C d_Mo_note_57 4 rfl ?_
      refine j_iload_n (pc := 59) C d_Mo_note_59 rfl 3 rfl ?_
      obtain ⟨b2, hf⟩ := og hf
      refine j_iast (pc := 60) C d_Mo_note_60 20 (inb_in b2) wR_a20 (ws' := wR g ar (va_up x.2.2.2.2.1 20 (upd (x.2.2.2.2.1 20) x.2.2.2.1.toNatClampNeg x.2.2.1)) x.2.2.2.2.2.1 x.2.2.2.2.2.2) wR_s20 ?_
      refine j_aload_n (pc := 61) C d_Mo_note_61 rfl 0 rfl ?_
      refine j_dup (pc := 62) C d_Mo_note_62 rfl ?_
      refine j_get (pc := 63) C d_Mo_note_63 0 24 wR_o0 rfl (v := .int (x.2.2.2.2.2.1 5)) rfl (by decide) tw966 ?_
      refine j_iconst (pc := 66) C d_Mo_note_66 ck_1 ?_
      refine j_iadd (pc := 67) C d_Mo_note_67 ?_
      refine j_put (pc := 68) C d_Mo_note_68 0 24 wR_o0 rfl (by decide) tw966 pd_I rfl rfl rfl (Nat.le_of_ble_eq_true rfl) (ws' := wR g ar (va_up x.2.2.2.2.1 20 (upd (x.2.2.2.2.1 20) x.2.2.2.1.toNatClampNeg x.2.2.1)) (va_up x.2.2.2.2.2.1 5 ((x.2.2.2.2.2.1 5) + 1)) x.2.2.2.2.2.2) wR_p0_24 ?_
      cases hf
      exact j_vret (pc := 71) C d_Mo_note_71 ⟨rfl, rfl⟩ (Nat.le_of_ble_eq_true rfl) (Nat.le_of_ble_eq_true rfl)
    · rw [if_neg h1] at hf
      refine j_aload_n (pc := 18) C d_Mo_note_18 rfl 0 rfl ?_
      refine j_get (pc := 19) C d_Mo_note_19 0 25 wR_o0 rfl (v := .ref (ar 20)) rfl (by decide) tw967 ?_
      refine j_iload (pc := 22) C d_Mo_note_22 4 rfl ?_
      refine j_iconst (pc := 24) C d_Mo_note_24 ck_1 ?_
      refine j_isub (pc := 25) C d_Mo_note_25 ?_
      obtain ⟨b3, hf⟩ := og hf
      refine j_iald (pc := 26) C d_Mo_note_26 20 (inb_in b3) (x := x.2.2.2.2.1 20 (x.2.2.2.1 - 1).toNatClampNeg) wR_a20 rfl ?_
      refine j_topi C (fun v4 ev4 => ?_)
      replace hf := ov ev4 hf
      refine j_iload_n (pc := 27) C d_Mo_note_27 rfl 3 rfl ?_
      refine j_icmp_le (pc := 28) C d_Mo_note_28 (tgt := 53) rfl (fun h5 => ?_) (fun h5 => ?_)
      · rw [if_pos h5] at hf
        refine j_aload_n (pc := 53) C d_Mo_note_53 rfl 0 rfl ?_
        refine j_get (pc := 54) C d_Mo_note_54 0 25 wR_o0 rfl (v := .ref (ar 20)) rfl (by decide) tw967 ?_
        refine j_iload (pc := 57) C d_Mo_note_57 4 rfl ?_
        refine j_iload_n (pc := 59) C d_Mo_note_59 rfl 3 rfl ?_
        obtain ⟨b6, hf⟩ := og hf
        refine j_iast (pc := 60) C d_Mo_note_60 20 (inb_in b6) wR_a20 (ws' := wR g ar (va_up x.2.2.2.2.1 20 (upd (x.2.2.2.2.1 20) x.2.2.2.1.toNatClampNeg x.2.2.1)) x.2.2.2.2.2.1 x.2.2.2.2.2.2) wR_s20 ?_
        refine j_aload_n (pc := 61) C d_Mo_note_61 rfl 0 rfl ?_
        refine j_dup (pc := 62) C d_Mo_note_62 rfl ?_
        refine j_get (pc := 63) C d_Mo_note_63 0 24 wR_o0 rfl (v := .int (x.2.2.2.2.2.1 5)) rfl (by decide) tw966 ?_
        refine j_iconst (pc := 66) C d_Mo_note_66 ck_1 ?_
        refine j_iadd (pc := 67) C d_Mo_note_67 ?_
        refine j_put (pc := 68) C d_Mo_note_68 0 24 wR_o0 rfl (by decide) tw966 pd_I rfl rfl rfl (Nat.le_of_ble_eq_true rfl) (ws' := wR g ar (va_up x.2.2.2.2.1 20 (upd (x.2.2.2.2.1 20) x.2.2.2.1.toNatClampNeg x.2.2.1)) (va_up x.2.2.2.2.2.1 5 ((x.2.2.2.2.2.1 5) + 1)) x.2.2.2.2.2.2) wR_p0_24 ?_
        cases hf
        exact j_vret (pc := 71) C d_Mo_note_71 ⟨rfl, rfl⟩ (Nat.le_of_ble_eq_true rfl) (Nat.le_of_ble_eq_true rfl)
      · rw [if_neg h5] at hf
        refine j_aload_n (pc := 31) C d_Mo_note_31 rfl 0 rfl ?_
        refine j_get (pc := 32) C d_Mo_note_32 0 25 wR_o0 rfl (v := .ref (ar 20)) rfl (by decide) tw967 ?_
        refine j_iload (pc := 35) C d_Mo_note_35 4 rfl ?_
        refine j_aload_n (pc := 37) C d_Mo_note_37 rfl 0 rfl ?_
        refine j_get (pc := 38) C d_Mo_note_38 0 25 wR_o0 rfl (v := .ref (ar 20)) rfl (by decide) tw967 ?_
        refine j_iload (pc := 41) C d_Mo_note_41 4 rfl ?_
        refine j_iconst (pc := 43) C d_Mo_note_43 ck_1 ?_
        refine j_isub (pc := 44) C d_Mo_note_44 ?_
        obtain ⟨b7, hf⟩ := og hf
        refine j_iald (pc := 45) C d_Mo_note_45 20 (inb_in b7) (x := x.2.2.2.2.1 20 (x.2.2.2.1 - 1).toNatClampNeg) wR_a20 rfl ?_
        refine j_topi C (fun v8 ev8 => ?_)
        replace hf := ov ev8 hf
        obtain ⟨b9, hf⟩ := og hf
        refine j_iast (pc := 46) C d_Mo_note_46 20 (inb_in b9) wR_a20 (ws' := wR g ar (va_up x.2.2.2.2.1 20 (upd (x.2.2.2.2.1 20) x.2.2.2.1.toNatClampNeg v8)) x.2.2.2.2.2.1 x.2.2.2.2.2.2) wR_s20 ?_
        refine j_iinc (pc := 47) C d_Mo_note_47 4 rfl (v := x.2.2.2.1 - 1) id_m1 [1, 2, 3, 4, 0] (by decide) (lc' := [(0, .ref (ar 0)), (1, .int x.1), (2, .int x.2.1), (3, .int x.2.2.1), (4, .int (x.2.2.2.1 - 1))]) rfl ?_
        refine j_goto (pc := 50) C d_Mo_note_50 (tgt := 13) rfl ?_
        exact k13_ih (x.1, x.2.1, x.2.2.1, x.2.2.2.1 - 1, ((va_up x.2.2.2.2.1 20 (upd (x.2.2.2.2.1 20) x.2.2.2.1.toNatClampNeg v8)), x.2.2.2.2.2.1, x.2.2.2.2.2.2)) hf
  unfold f_Mo_note at hf
  change 𝒥 0 0 (wR g ar r.1 r.2.1 r.2.2) [(0, .ref (ar 0)), (1, .int a1), (2, .int a2)] [] 0
  refine j_iload_n (pc := 0) C d_Mo_note_0 rfl 1 rfl ?_
  refine j_bipush (pc := 1) C d_Mo_note_1 cb_8 ?_
  refine j_iload_n (pc := 3) C d_Mo_note_3 rfl 2 rfl ?_
  refine j_imul (pc := 4) C d_Mo_note_4 ?_
  refine j_iadd (pc := 5) C d_Mo_note_5 ?_
  refine j_istore_n (pc := 6) C d_Mo_note_6 rfl [1, 2, 3, 0] (by decide) (lc' := [(0, .ref (ar 0)), (1, .int a1), (2, .int a2), (3, .int (a1 + (8 * a2)))]) rfl ?_
  refine j_aload_n (pc := 7) C d_Mo_note_7 rfl 0 rfl ?_
  refine j_get (pc := 8) C d_Mo_note_8 0 24 wR_o0 rfl (v := .int (r.2.1 5)) rfl (by decide) tw966 ?_
  refine j_istore (pc := 11) C d_Mo_note_11 [1, 2, 3, 4, 0] (by decide) (lc' := [(0, .ref (ar 0)), (1, .int a1), (2, .int a2), (3, .int (a1 + (8 * a2))), (4, .int (r.2.1 5))]) rfl ?_
  exact L13 100000 (a1, a2, a1 + (8 * a2), r.2.1 5, r) hf
abbrev rm_Mo_isRepeated : Room := { frames := 0, cells := 0, slots := 0, locals := 0 }
theorem cv_Mo_isRepeated : CV y_Mo_isRepeated b_Mo_isRepeated 5 (some .boolean) 1 := ⟨⟨tw1245, tw10, by decide +kernel⟩, tw1244, (sw_ (q := (y_Mo_isRepeated, 54)) (by decide +kernel) (by decide +kernel))⟩
set_option maxHeartbeats 4000000 in
set_option maxRecDepth 100000 in
theorem c_Mo_isRepeated {g : GT} {ar : Nat → Nat} {a1 : Int32} {r : RS} {q : Int32 × RS} (hf : f_Mo_isRepeated a1 r = some q) : MI g y_Mo_isRepeated b_Mo_isRepeated 5 (some .boolean) rm_Mo_isRepeated [.ref (ar 0), .int a1] (wR g ar r.1 r.2.1 r.2.2) q.1 (wR g ar q.2.1 q.2.2.1 q.2.2.2) := by
  refine MI.of (by decide) (Nat.le_of_ble_eq_true rfl) (fun 𝒥 C => ?_)
  have L4 : ∀ (n : Nat) (x : Int32 × Int32 × Int32 × RS), lpN (BMo_isRepeated_4) n x = some q → 𝒥 0 0 (wR g ar x.2.2.2.1 x.2.2.2.2.1 x.2.2.2.2.2) [(0, .ref (ar 0)), (1, .int x.1), (2, .int x.2.1), (3, .int x.2.2.1)] [] 4 := by
    refine lp_ind (fun k4 k4_ih x hf => ?_)
    unfold BMo_isRepeated_4 at hf
    refine j_iload_n (pc := 4) C d_Mo_isRepeated_4 rfl 3 rfl ?_
    refine j_iload_n (pc := 5) C d_Mo_isRepeated_5 rfl 1 rfl ?_
    refine j_icmp_ge (pc := 6) C d_Mo_isRepeated_6 (tgt := 116) rfl (fun h1 => ?_) (fun h1 => ?_)
    · rw [if_pos h1] at hf
      refine j_iload_n (pc := 116) C d_Mo_isRepeated_116 rfl 2 rfl ?_
      obtain ⟨b2, hf⟩ := og hf
      cases hf
      exact j_zret (pc := 117) C d_Mo_isRepeated_117 (isb_n b2) ⟨rfl, rfl⟩ (Nat.le_of_ble_eq_true rfl) (Nat.le_of_ble_eq_true rfl)
    · rw [if_neg h1] at hf
      refine j_aload_n (pc := 9) C d_Mo_isRepeated_9 rfl 0 rfl ?_
      refine j_get (pc := 10) C d_Mo_isRepeated_10 0 12 wR_o0 rfl (v := .ref (ar 9)) rfl (by decide) tw954 ?_
      refine j_iload_n (pc := 13) C d_Mo_isRepeated_13 rfl 1 rfl ?_
      obtain ⟨b3, hf⟩ := og hf
      refine j_iald (pc := 14) C d_Mo_isRepeated_14 9 (inb_in b3) (x := x.2.2.2.1 9 x.1.toNatClampNeg) wR_a9 rfl ?_
      refine j_iconst (pc := 15) C d_Mo_isRepeated_15 ck_1 ?_
      refine j_icmp_ne (pc := 16) C d_Mo_isRepeated_16 (tgt := 37) rfl (fun h4 => ?_) (fun h4 => ?_)
      · rw [if_neg h4] at hf
        refine j_aload_n (pc := 37) C d_Mo_isRepeated_37 rfl 0 rfl ?_
        refine j_get (pc := 38) C d_Mo_isRepeated_38 0 12 wR_o0 rfl (v := .ref (ar 9)) rfl (by decide) tw954 ?_
        refine j_iload_n (pc := 41) C d_Mo_isRepeated_41 rfl 3 rfl ?_
        obtain ⟨b5, hf⟩ := og hf
        refine j_iald (pc := 42) C d_Mo_isRepeated_42 9 (inb_in b5) (x := x.2.2.2.1 9 x.2.2.1.toNatClampNeg) wR_a9 rfl ?_
        refine j_iconst (pc := 43) C d_Mo_isRepeated_43 ck_2 ?_
        refine j_icmp_eq (pc := 44) C d_Mo_isRepeated_44 (tgt := 57) rfl (fun h6 => ?_) (fun h6 => ?_)
        · rw [if_pos h6] at hf
          refine j_aload_n (pc := 57) C d_Mo_isRepeated_57 rfl 0 rfl ?_
          refine j_get (pc := 58) C d_Mo_isRepeated_58 0 16 wR_o0 rfl (v := .ref (ar 13)) rfl (by decide) tw958 ?_
          refine j_iload_n (pc := 61) C d_Mo_isRepeated_61 rfl 3 rfl ?_
          obtain ⟨b7, hf⟩ := og hf
          refine j_iald (pc := 62) C d_Mo_isRepeated_62 13 (inb_in b7) (x := x.2.2.2.1 13 x.2.2.1.toNatClampNeg) wR_a13 rfl ?_
          refine j_aload_n (pc := 63) C d_Mo_isRepeated_63 rfl 0 rfl ?_
          refine j_get (pc := 64) C d_Mo_isRepeated_64 0 16 wR_o0 rfl (v := .ref (ar 13)) rfl (by decide) tw958 ?_
          refine j_iload_n (pc := 67) C d_Mo_isRepeated_67 rfl 1 rfl ?_
          obtain ⟨b8, hf⟩ := og hf
          refine j_iald (pc := 68) C d_Mo_isRepeated_68 13 (inb_in b8) (x := x.2.2.2.1 13 x.1.toNatClampNeg) wR_a13 rfl ?_
          refine j_icmp_ne (pc := 69) C d_Mo_isRepeated_69 (tgt := 76) rfl (fun h9 => ?_) (fun h9 => ?_)
          · rw [if_neg h9] at hf
            refine j_iconst (pc := 76) C d_Mo_isRepeated_76 ck_0 ?_
            refine j_istore (pc := 77) C d_Mo_isRepeated_77 [1, 2, 3, 4, 0] (by decide) (lc' := [(0, .ref (ar 0)), (1, .int x.1), (2, .int x.2.1), (3, .int x.2.2.1), (4, .int 0)]) rfl ?_
            refine j_iload_n (pc := 79) C d_Mo_isRepeated_79 rfl 2 rfl ?_
            refine j_if_ne (pc := 80) C d_Mo_isRepeated_80 (tgt := 104) rfl (fun h10 => ?_) (fun h10 => ?_)
            · rw [if_neg h10] at hf
              refine j_iconst (pc := 104) C d_Mo_isRepeated_104 ck_1 ?_
              refine j_goto (pc := 105) C d_Mo_isRepeated_105 (tgt := 109) rfl ?_
              refine j_istore_n (pc := 109) C d_Mo_isRepeated_109 rfl [1, 2, 0, 3, 4] (by decide) (lc' := [(0, .ref (ar 0)), (1, .int x.1), (2, .int 1), (3, .int x.2.2.1), (4, .int 0)]) rfl ?_
              refine j_iinc (pc := 110) C d_Mo_isRepeated_110 3 rfl (v := x.2.2.1 + 1) (iv ci_1) [1, 2, 3, 0, 4] (by decide) (lc' := [(0, .ref (ar 0)), (1, .int x.1), (2, .int 1), (3, .int (x.2.2.1 + 1)), (4, .int 0)]) rfl ?_
              refine j_goto (pc := 113) C d_Mo_isRepeated_113 (tgt := 4) rfl ?_
              refine j_lc C (lc' := [(0, .ref (ar 0)), (1, .int x.1), (2, .int 1), (3, .int (x.2.2.1 + 1))]) [0, 1, 2, 3] rfl ?_
              exact k4_ih (x.1, 1, x.2.2.1 + 1, x.2.2.2) hf
            · rw [if_pos h10] at hf
              refine j_iload (pc := 83) C d_Mo_isRepeated_83 4 rfl ?_
              refine j_if_eq (pc := 85) C d_Mo_isRepeated_85 (tgt := 108) rfl (fun _ => ?_) (fun h => absurd h (by decide))
              refine j_iconst (pc := 108) C d_Mo_isRepeated_108 ck_0 ?_
              refine j_istore_n (pc := 109) C d_Mo_isRepeated_109 rfl [1, 2, 0, 3, 4] (by decide) (lc' := [(0, .ref (ar 0)), (1, .int x.1), (2, .int 0), (3, .int x.2.2.1), (4, .int 0)]) rfl ?_
              refine j_iinc (pc := 110) C d_Mo_isRepeated_110 3 rfl (v := x.2.2.1 + 1) (iv ci_1) [1, 2, 3, 0, 4] (by decide) (lc' := [(0, .ref (ar 0)), (1, .int x.1), (2, .int 0), (3, .int (x.2.2.1 + 1)), (4, .int 0)]) rfl ?_
              refine j_goto (pc := 113) C d_Mo_isRepeated_113 (tgt := 4) rfl ?_
              refine j_lc C (lc' := [(0, .ref (ar 0)), (1, .int x.1), (2, .int 0), (3, .int (x.2.2.1 + 1))]) [0, 1, 2, 3] rfl ?_
              exact k4_ih (x.1, 0, x.2.2.1 + 1, x.2.2.2) hf
          · rw [if_pos h9] at hf
            refine j_iconst (pc := 72) C d_Mo_isRepeated_72 ck_1 ?_
            refine j_goto (pc := 73) C d_Mo_isRepeated_73 (tgt := 77) rfl ?_
            refine j_istore (pc := 77) C d_Mo_isRepeated_77 [1, 2, 3, 4, 0] (by decide) (lc' := [(0, .ref (ar 0)), (1, .int x.1), (2, .int x.2.1), (3, .int x.2.2.1), (4, .int 1)]) rfl ?_
            refine j_iload_n (pc := 79) C d_Mo_isRepeated_79 rfl 2 rfl ?_
            refine j_if_ne (pc := 80) C d_Mo_isRepeated_80 (tgt := 104) rfl (fun h11 => ?_) (fun h11 => ?_)
            · rw [if_neg h11] at hf
              refine j_iconst (pc := 104) C d_Mo_isRepeated_104 ck_1 ?_
              refine j_goto (pc := 105) C d_Mo_isRepeated_105 (tgt := 109) rfl ?_
              refine j_istore_n (pc := 109) C d_Mo_isRepeated_109 rfl [1, 2, 0, 3, 4] (by decide) (lc' := [(0, .ref (ar 0)), (1, .int x.1), (2, .int 1), (3, .int x.2.2.1), (4, .int 1)]) rfl ?_
              refine j_iinc (pc := 110) C d_Mo_isRepeated_110 3 rfl (v := x.2.2.1 + 1) (iv ci_1) [1, 2, 3, 0, 4] (by decide) (lc' := [(0, .ref (ar 0)), (1, .int x.1), (2, .int 1), (3, .int (x.2.2.1 + 1)), (4, .int 1)]) rfl ?_
              refine j_goto (pc := 113) C d_Mo_isRepeated_113 (tgt := 4) rfl ?_
              refine j_lc C (lc' := [(0, .ref (ar 0)), (1, .int x.1), (2, .int 1), (3, .int (x.2.2.1 + 1))]) [0, 1, 2, 3] rfl ?_
              exact k4_ih (x.1, 1, x.2.2.1 + 1, x.2.2.2) hf
            · rw [if_pos h11] at hf
              refine j_iload (pc := 83) C d_Mo_isRepeated_83 4 rfl ?_
              refine j_if_eq (pc := 85) C d_Mo_isRepeated_85 (tgt := 108) rfl (fun h => absurd h (by decide)) (fun _ => ?_)
              refine j_aload_n (pc := 88) C d_Mo_isRepeated_88 rfl 0 rfl ?_
              refine j_get (pc := 89) C d_Mo_isRepeated_89 0 11 wR_o0 rfl (v := .ref (ar 8)) rfl (by decide) tw953 ?_
              refine j_iload_n (pc := 92) C d_Mo_isRepeated_92 rfl 3 rfl ?_
              obtain ⟨b12, hf⟩ := og hf
              refine j_lald (pc := 93) C d_Mo_isRepeated_93 8 (inb_in b12) (x := x.2.2.2.2.2 8 x.2.2.1.toNatClampNeg) wR_a8 rfl ?_
              refine j_aload_n (pc := 94) C d_Mo_isRepeated_94 rfl 0 rfl ?_
              refine j_get (pc := 95) C d_Mo_isRepeated_95 0 11 wR_o0 rfl (v := .ref (ar 8)) rfl (by decide) tw953 ?_
              refine j_iload_n (pc := 98) C d_Mo_isRepeated_98 rfl 1 rfl ?_
              obtain ⟨b13, hf⟩ := og hf
              refine j_lald (pc := 99) C d_Mo_isRepeated_99 8 (inb_in b13) (x := x.2.2.2.2.2 8 x.1.toNatClampNeg) wR_a8 rfl ?_
              refine j_lcmp (pc := 100) C d_Mo_isRepeated_100 ?_
              refine j_topi C (fun v14 ev14 => ?_)
              replace hf := ov ev14 hf
              refine j_if_ne (pc := 101) C d_Mo_isRepeated_101 (tgt := 108) rfl (fun h15 => ?_) (fun h15 => ?_)
              · rw [if_neg h15] at hf
                refine j_iconst (pc := 108) C d_Mo_isRepeated_108 ck_0 ?_
                refine j_istore_n (pc := 109) C d_Mo_isRepeated_109 rfl [1, 2, 0, 3, 4] (by decide) (lc' := [(0, .ref (ar 0)), (1, .int x.1), (2, .int 0), (3, .int x.2.2.1), (4, .int 1)]) rfl ?_
                refine j_iinc (pc := 110) C d_Mo_isRepeated_110 3 rfl (v := x.2.2.1 + 1) (iv ci_1) [1, 2, 3, 0, 4] (by decide) (lc' := [(0, .ref (ar 0)), (1, .int x.1), (2, .int 0), (3, .int (x.2.2.1 + 1)), (4, .int 1)]) rfl ?_
                refine j_goto (pc := 113) C d_Mo_isRepeated_113 (tgt := 4) rfl ?_
                refine j_lc C (lc' := [(0, .ref (ar 0)), (1, .int x.1), (2, .int 0), (3, .int (x.2.2.1 + 1))]) [0, 1, 2, 3] rfl ?_
                exact k4_ih (x.1, 0, x.2.2.1 + 1, x.2.2.2) hf
              · rw [if_pos h15] at hf
                refine j_iconst (pc := 104) C d_Mo_isRepeated_104 ck_1 ?_
                refine j_goto (pc := 105) C d_Mo_isRepeated_105 (tgt := 109) rfl ?_
                refine j_istore_n (pc := 109) C d_Mo_isRepeated_109 rfl [1, 2, 0, 3, 4] (by decide) (lc' := [(0, .ref (ar 0)), (1, .int x.1), (2, .int 1), (3, .int x.2.2.1), (4, .int 1)]) rfl ?_
                refine j_iinc (pc := 110) C d_Mo_isRepeated_110 3 rfl (v := x.2.2.1 + 1) (iv ci_1) [1, 2, 3, 0, 4] (by decide) (lc' := [(0, .ref (ar 0)), (1, .int x.1), (2, .int 1), (3, .int (x.2.2.1 + 1)), (4, .int 1)]) rfl ?_
                refine j_goto (pc := 113) C d_Mo_isRepeated_113 (tgt := 4) rfl ?_
                refine j_lc C (lc' := [(0, .ref (ar 0)), (1, .int x.1), (2, .int 1), (3, .int (x.2.2.1 + 1))]) [0, 1, 2, 3] rfl ?_
                exact k4_ih (x.1, 1, x.2.2.1 + 1, x.2.2.2) hf
        · rw [if_neg h6] at hf
          refine j_aload_n (pc := 47) C d_Mo_isRepeated_47 rfl 0 rfl ?_
          refine j_get (pc := 48) C d_Mo_isRepeated_48 0 12 wR_o0 rfl (v := .ref (ar 9)) rfl (by decide) tw954 ?_
          refine j_iload_n (pc := 51) C d_Mo_isRepeated_51 rfl 3 rfl ?_
          obtain ⟨b16, hf⟩ := og hf
          refine j_iald (pc := 52) C d_Mo_isRepeated_52 9 (inb_in b16) (x := x.2.2.2.1 9 x.2.2.1.toNatClampNeg) wR_a9 rfl ?_
          refine j_iconst (pc := 53) C d_Mo_isRepeated_53 ck_3 ?_
          refine j_icmp_ne (pc := 54) C d_Mo_isRepeated_54 (tgt := 76) rfl (fun h17 => ?_) (fun h17 => ?_)
          · rw [if_neg h17] at hf
            refine j_iconst (pc := 76) C d_Mo_isRepeated_76 ck_0 ?_
            refine j_istore (pc := 77) C d_Mo_isRepeated_77 [1, 2, 3, 4, 0] (by decide) (lc' := [(0, .ref (ar 0)), (1, .int x.1), (2, .int x.2.1), (3, .int x.2.2.1), (4, .int 0)]) rfl ?_
            refine j_iload_n (pc := 79) C d_Mo_isRepeated_79 rfl 2 rfl ?_
            refine j_if_ne (pc := 80) C d_Mo_isRepeated_80 (tgt := 104) rfl (fun h18 => ?_) (fun h18 => ?_)
            · rw [if_neg h18] at hf
              refine j_iconst (pc := 104) C d_Mo_isRepeated_104 ck_1 ?_
              refine j_goto (pc := 105) C d_Mo_isRepeated_105 (tgt := 109) rfl ?_
              refine j_istore_n (pc := 109) C d_Mo_isRepeated_109 rfl [1, 2, 0, 3, 4] (by decide) (lc' := [(0, .ref (ar 0)), (1, .int x.1), (2, .int 1), (3, .int x.2.2.1), (4, .int 0)]) rfl ?_
              refine j_iinc (pc := 110) C d_Mo_isRepeated_110 3 rfl (v := x.2.2.1 + 1) (iv ci_1) [1, 2, 3, 0, 4] (by decide) (lc' := [(0, .ref (ar 0)), (1, .int x.1), (2, .int 1), (3, .int (x.2.2.1 + 1)), (4, .int 0)]) rfl ?_
              refine j_goto (pc := 113) C d_Mo_isRepeated_113 (tgt := 4) rfl ?_
              refine j_lc C (lc' := [(0, .ref (ar 0)), (1, .int x.1), (2, .int 1), (3, .int (x.2.2.1 + 1))]) [0, 1, 2, 3] rfl ?_
              exact k4_ih (x.1, 1, x.2.2.1 + 1, x.2.2.2) hf
            · rw [if_pos h18] at hf
              refine j_iload (pc := 83) C d_Mo_isRepeated_83 4 rfl ?_
              refine j_if_eq (pc := 85) C d_Mo_isRepeated_85 (tgt := 108) rfl (fun _ => ?_) (fun h => absurd h (by decide))
              refine j_iconst (pc := 108) C d_Mo_isRepeated_108 ck_0 ?_
              refine j_istore_n (pc := 109) C d_Mo_isRepeated_109 rfl [1, 2, 0, 3, 4] (by decide) (lc' := [(0, .ref (ar 0)), (1, .int x.1), (2, .int 0), (3, .int x.2.2.1), (4, .int 0)]) rfl ?_
              refine j_iinc (pc := 110) C d_Mo_isRepeated_110 3 rfl (v := x.2.2.1 + 1) (iv ci_1) [1, 2, 3, 0, 4] (by decide) (lc' := [(0, .ref (ar 0)), (1, .int x.1), (2, .int 0), (3, .int (x.2.2.1 + 1)), (4, .int 0)]) rfl ?_
              refine j_goto (pc := 113) C d_Mo_isRepeated_113 (tgt := 4) rfl ?_
              refine j_lc C (lc' := [(0, .ref (ar 0)), (1, .int x.1), (2, .int 0), (3, .int (x.2.2.1 + 1))]) [0, 1, 2, 3] rfl ?_
              exact k4_ih (x.1, 0, x.2.2.1 + 1, x.2.2.2) hf
          · rw [if_pos h17] at hf
            refine j_aload_n (pc := 57) C d_Mo_isRepeated_57 rfl 0 rfl ?_
            refine j_get (pc := 58) C d_Mo_isRepeated_58 0 16 wR_o0 rfl (v := .ref (ar 13)) rfl (by decide) tw958 ?_
            refine j_iload_n (pc := 61) C d_Mo_isRepeated_61 rfl 3 rfl ?_
            obtain ⟨b19, hf⟩ := og hf
            refine j_iald (pc := 62) C d_Mo_isRepeated_62 13 (inb_in b19) (x := x.2.2.2.1 13 x.2.2.1.toNatClampNeg) wR_a13 rfl ?_
            refine j_aload_n (pc := 63) C d_Mo_isRepeated_63 rfl 0 rfl ?_
            refine j_get (pc := 64) C d_Mo_isRepeated_64 0 16 wR_o0 rfl (v := .ref (ar 13)) rfl (by decide) tw958 ?_
            refine j_iload_n (pc := 67) C d_Mo_isRepeated_67 rfl 1 rfl ?_
            obtain ⟨b20, hf⟩ := og hf
            refine j_iald (pc := 68) C d_Mo_isRepeated_68 13 (inb_in b20) (x := x.2.2.2.1 13 x.1.toNatClampNeg) wR_a13 rfl ?_
            refine j_icmp_ne (pc := 69) C d_Mo_isRepeated_69 (tgt := 76) rfl (fun h21 => ?_) (fun h21 => ?_)
            · rw [if_neg h21] at hf
              refine j_iconst (pc := 76) C d_Mo_isRepeated_76 ck_0 ?_
              refine j_istore (pc := 77) C d_Mo_isRepeated_77 [1, 2, 3, 4, 0] (by decide) (lc' := [(0, .ref (ar 0)), (1, .int x.1), (2, .int x.2.1), (3, .int x.2.2.1), (4, .int 0)]) rfl ?_
              refine j_iload_n (pc := 79) C d_Mo_isRepeated_79 rfl 2 rfl ?_
              refine j_if_ne (pc := 80) C d_Mo_isRepeated_80 (tgt := 104) rfl (fun h22 => ?_) (fun h22 => ?_)
              · rw [if_neg h22] at hf
                refine j_iconst (pc := 104) C d_Mo_isRepeated_104 ck_1 ?_
                refine j_goto (pc := 105) C d_Mo_isRepeated_105 (tgt := 109) rfl ?_
                refine j_istore_n (pc := 109) C d_Mo_isRepeated_109 rfl [1, 2, 0, 3, 4] (by decide) (lc' := [(0, .ref (ar 0)), (1, .int x.1), (2, .int 1), (3, .int x.2.2.1), (4, .int 0)]) rfl ?_
                refine j_iinc (pc := 110) C d_Mo_isRepeated_110 3 rfl (v := x.2.2.1 + 1) (iv ci_1) [1, 2, 3, 0, 4] (by decide) (lc' := [(0, .ref (ar 0)), (1, .int x.1), (2, .int 1), (3, .int (x.2.2.1 + 1)), (4, .int 0)]) rfl ?_
                refine j_goto (pc := 113) C d_Mo_isRepeated_113 (tgt := 4) rfl ?_
                refine j_lc C (lc' := [(0, .ref (ar 0)), (1, .int x.1), (2, .int 1), (3, .int (x.2.2.1 + 1))]) [0, 1, 2, 3] rfl ?_
                exact k4_ih (x.1, 1, x.2.2.1 + 1, x.2.2.2) hf
              · rw [if_pos h22] at hf
                refine j_iload (pc := 83) C d_Mo_isRepeated_83 4 rfl ?_
                refine j_if_eq (pc := 85) C d_Mo_isRepeated_85 (tgt := 108) rfl (fun _ => ?_) (fun h => absurd h (by decide))
                refine j_iconst (pc := 108) C d_Mo_isRepeated_108 ck_0 ?_
                refine j_istore_n (pc := 109) C d_Mo_isRepeated_109 rfl [1, 2, 0, 3, 4] (by decide) (lc' := [(0, .ref (ar 0)), (1, .int x.1), (2, .int 0), (3, .int x.2.2.1), (4, .int 0)]) rfl ?_
                refine j_iinc (pc := 110) C d_Mo_isRepeated_110 3 rfl (v := x.2.2.1 + 1) (iv ci_1) [1, 2, 3, 0, 4] (by decide) (lc' := [(0, .ref (ar 0)), (1, .int x.1), (2, .int 0), (3, .int (x.2.2.1 + 1)), (4, .int 0)]) rfl ?_
                refine j_goto (pc := 113) C d_Mo_isRepeated_113 (tgt := 4) rfl ?_
                refine j_lc C (lc' := [(0, .ref (ar 0)), (1, .int x.1), (2, .int 0), (3, .int (x.2.2.1 + 1))]) [0, 1, 2, 3] rfl ?_
                exact k4_ih (x.1, 0, x.2.2.1 + 1, x.2.2.2) hf
            · rw [if_pos h21] at hf
              refine j_iconst (pc := 72) C d_Mo_isRepeated_72 ck_1 ?_
              refine j_goto (pc := 73) C d_Mo_isRepeated_73 (tgt := 77) rfl ?_
              refine j_istore (pc := 77) C d_Mo_isRepeated_77 [1, 2, 3, 4, 0] (by decide) (lc' := [(0, .ref (ar 0)), (1, .int x.1), (2, .int x.2.1), (3, .int x.2.2.1), (4, .int 1)]) rfl ?_
              refine j_iload_n (pc := 79) C d_Mo_isRepeated_79 rfl 2 rfl ?_
              refine j_if_ne (pc := 80) C d_Mo_isRepeated_80 (tgt := 104) rfl (fun h23 => ?_) (fun h23 => ?_)
              · rw [if_neg h23] at hf
                refine j_iconst (pc := 104) C d_Mo_isRepeated_104 ck_1 ?_
                refine j_goto (pc := 105) C d_Mo_isRepeated_105 (tgt := 109) rfl ?_
                refine j_istore_n (pc := 109) C d_Mo_isRepeated_109 rfl [1, 2, 0, 3, 4] (by decide) (lc' := [(0, .ref (ar 0)), (1, .int x.1), (2, .int 1), (3, .int x.2.2.1), (4, .int 1)]) rfl ?_
                refine j_iinc (pc := 110) C d_Mo_isRepeated_110 3 rfl (v := x.2.2.1 + 1) (iv ci_1) [1, 2, 3, 0, 4] (by decide) (lc' := [(0, .ref (ar 0)), (1, .int x.1), (2, .int 1), (3, .int (x.2.2.1 + 1)), (4, .int 1)]) rfl ?_
                refine j_goto (pc := 113) C d_Mo_isRepeated_113 (tgt := 4) rfl ?_
                refine j_lc C (lc' := [(0, .ref (ar 0)), (1, .int x.1), (2, .int 1), (3, .int (x.2.2.1 + 1))]) [0, 1, 2, 3] rfl ?_
                exact k4_ih (x.1, 1, x.2.2.1 + 1, x.2.2.2) hf
              · rw [if_pos h23] at hf
                refine j_iload (pc := 83) C d_Mo_isRepeated_83 4 rfl ?_
                refine j_if_eq (pc := 85) C d_Mo_isRepeated_85 (tgt := 108) rfl (fun h => absurd h (by decide)) (fun _ => ?_)
                refine j_aload_n (pc := 88) C d_Mo_isRepeated_88 rfl 0 rfl ?_
                refine j_get (pc := 89) C d_Mo_isRepeated_89 0 11 wR_o0 rfl (v := .ref (ar 8)) rfl (by decide) tw953 ?_
                refine j_iload_n (pc := 92) C d_Mo_isRepeated_92 rfl 3 rfl ?_
                obtain ⟨b24, hf⟩ := og hf
                refine j_lald (pc := 93) C d_Mo_isRepeated_93 8 (inb_in b24) (x := x.2.2.2.2.2 8 x.2.2.1.toNatClampNeg) wR_a8 rfl ?_
                refine j_aload_n (pc := 94) C d_Mo_isRepeated_94 rfl 0 rfl ?_
                refine j_get (pc := 95) C d_Mo_isRepeated_95 0 11 wR_o0 rfl (v := .ref (ar 8)) rfl (by decide) tw953 ?_
                refine j_iload_n (pc := 98) C d_Mo_isRepeated_98 rfl 1 rfl ?_
                obtain ⟨b25, hf⟩ := og hf
                refine j_lald (pc := 99) C d_Mo_isRepeated_99 8 (inb_in b25) (x := x.2.2.2.2.2 8 x.1.toNatClampNeg) wR_a8 rfl ?_
                refine j_lcmp (pc := 100) C d_Mo_isRepeated_100 ?_
                refine j_topi C (fun v26 ev26 => ?_)
                replace hf := ov ev26 hf
                refine j_if_ne (pc := 101) C d_Mo_isRepeated_101 (tgt := 108) rfl (fun h27 => ?_) (fun h27 => ?_)
                · rw [if_neg h27] at hf
                  refine j_iconst (pc := 108) C d_Mo_isRepeated_108 ck_0 ?_
                  refine j_istore_n (pc := 109) C d_Mo_isRepeated_109 rfl [1, 2, 0, 3, 4] (by decide) (lc' := [(0, .ref (ar 0)), (1, .int x.1), (2, .int 0), (3, .int x.2.2.1), (4, .int 1)]) rfl ?_
                  refine j_iinc (pc := 110) C d_Mo_isRepeated_110 3 rfl (v := x.2.2.1 + 1) (iv ci_1) [1, 2, 3, 0, 4] (by decide) (lc' := [(0, .ref (ar 0)), (1, .int x.1), (2, .int 0), (3, .int (x.2.2.1 + 1)), (4, .int 1)]) rfl ?_
                  refine j_goto (pc := 113) C d_Mo_isRepeated_113 (tgt := 4) rfl ?_
                  refine j_lc C (lc' := [(0, .ref (ar 0)), (1, .int x.1), (2, .int 0), (3, .int (x.2.2.1 + 1))]) [0, 1, 2, 3] rfl ?_
                  exact k4_ih (x.1, 0, x.2.2.1 + 1, x.2.2.2) hf
                · rw [if_pos h27] at hf
                  refine j_iconst (pc := 104) C d_Mo_isRepeated_104 ck_1 ?_
                  refine j_goto (pc := 105) C d_Mo_isRepeated_105 (tgt := 109) rfl ?_
                  refine j_istore_n (pc := 109) C d_Mo_isRepeated_109 rfl [1, 2, 0, 3, 4] (by decide) (lc' := [(0, .ref (ar 0)), (1, .int x.1), (2, .int 1), (3, .int x.2.2.1), (4, .int 1)]) rfl ?_
                  refine j_iinc (pc := 110) C d_Mo_isRepeated_110 3 rfl (v := x.2.2.1 + 1) (iv ci_1) [1, 2, 3, 0, 4] (by decide) (lc' := [(0, .ref (ar 0)), (1, .int x.1), (2, .int 1), (3, .int (x.2.2.1 + 1)), (4, .int 1)]) rfl ?_
                  refine j_goto (pc := 113) C d_Mo_isRepeated_113 (tgt := 4) rfl ?_
                  refine j_lc C (lc' := [(0, .ref (ar 0)), (1, .int x.1), (2, .int 1), (3, .int (x.2.2.1 + 1))]) [0, 1, 2, 3] rfl ?_
                  exact k4_ih (x.1, 1, x.2.2.1 + 1, x.2.2.2) hf
      · rw [if_pos h4] at hf
        refine j_aload_n (pc := 19) C d_Mo_isRepeated_19 rfl 0 rfl ?_
        refine j_get (pc := 20) C d_Mo_isRepeated_20 0 12 wR_o0 rfl (v := .ref (ar 9)) rfl (by decide) tw954 ?_
        refine j_iload_n (pc := 23) C d_Mo_isRepeated_23 rfl 3 rfl ?_
        obtain ⟨b28, hf⟩ := og hf
        refine j_iald (pc := 24) C d_Mo_isRepeated_24 9 (inb_in b28) (x := x.2.2.2.1 9 x.2.2.1.toNatClampNeg) wR_a9 rfl ?_
        refine j_iconst (pc := 25) C d_Mo_isRepeated_25 ck_1 ?_
        refine j_icmp_ne (pc := 26) C d_Mo_isRepeated_26 (tgt := 33) rfl (fun h29 => ?_) (fun h29 => ?_)
        · rw [if_neg h29] at hf
          refine j_iconst (pc := 33) C d_Mo_isRepeated_33 ck_0 ?_
          refine j_goto (pc := 34) C d_Mo_isRepeated_34 (tgt := 77) rfl ?_
          refine j_istore (pc := 77) C d_Mo_isRepeated_77 [1, 2, 3, 4, 0] (by decide) (lc' := [(0, .ref (ar 0)), (1, .int x.1), (2, .int x.2.1), (3, .int x.2.2.1), (4, .int 0)]) rfl ?_
          refine j_iload_n (pc := 79) C d_Mo_isRepeated_79 rfl 2 rfl ?_
          refine j_if_ne (pc := 80) C d_Mo_isRepeated_80 (tgt := 104) rfl (fun h30 => ?_) (fun h30 => ?_)
          · rw [if_neg h30] at hf
            refine j_iconst (pc := 104) C d_Mo_isRepeated_104 ck_1 ?_
            refine j_goto (pc := 105) C d_Mo_isRepeated_105 (tgt := 109) rfl ?_
            refine j_istore_n (pc := 109) C d_Mo_isRepeated_109 rfl [1, 2, 0, 3, 4] (by decide) (lc' := [(0, .ref (ar 0)), (1, .int x.1), (2, .int 1), (3, .int x.2.2.1), (4, .int 0)]) rfl ?_
            refine j_iinc (pc := 110) C d_Mo_isRepeated_110 3 rfl (v := x.2.2.1 + 1) (iv ci_1) [1, 2, 3, 0, 4] (by decide) (lc' := [(0, .ref (ar 0)), (1, .int x.1), (2, .int 1), (3, .int (x.2.2.1 + 1)), (4, .int 0)]) rfl ?_
            refine j_goto (pc := 113) C d_Mo_isRepeated_113 (tgt := 4) rfl ?_
            refine j_lc C (lc' := [(0, .ref (ar 0)), (1, .int x.1), (2, .int 1), (3, .int (x.2.2.1 + 1))]) [0, 1, 2, 3] rfl ?_
            exact k4_ih (x.1, 1, x.2.2.1 + 1, x.2.2.2) hf
          · rw [if_pos h30] at hf
            refine j_iload (pc := 83) C d_Mo_isRepeated_83 4 rfl ?_
            refine j_if_eq (pc := 85) C d_Mo_isRepeated_85 (tgt := 108) rfl (fun _ => ?_) (fun h => absurd h (by decide))
            refine j_iconst (pc := 108) C d_Mo_isRepeated_108 ck_0 ?_
            refine j_istore_n (pc := 109) C d_Mo_isRepeated_109 rfl [1, 2, 0, 3, 4] (by decide) (lc' := [(0, .ref (ar 0)), (1, .int x.1), (2, .int 0), (3, .int x.2.2.1), (4, .int 0)]) rfl ?_
            refine j_iinc (pc := 110) C d_Mo_isRepeated_110 3 rfl (v := x.2.2.1 + 1) (iv ci_1) [1, 2, 3, 0, 4] (by decide) (lc' := [(0, .ref (ar 0)), (1, .int x.1), (2, .int 0), (3, .int (x.2.2.1 + 1)), (4, .int 0)]) rfl ?_
            refine j_goto (pc := 113) C d_Mo_isRepeated_113 (tgt := 4) rfl ?_
            refine j_lc C (lc' := [(0, .ref (ar 0)), (1, .int x.1), (2, .int 0), (3, .int (x.2.2.1 + 1))]) [0, 1, 2, 3] rfl ?_
            exact k4_ih (x.1, 0, x.2.2.1 + 1, x.2.2.2) hf
        · rw [if_pos h29] at hf
          refine j_iconst (pc := 29) C d_Mo_isRepeated_29 ck_1 ?_
          refine j_goto (pc := 30) C d_Mo_isRepeated_30 (tgt := 77) rfl ?_
          refine j_istore (pc := 77) C d_Mo_isRepeated_77 [1, 2, 3, 4, 0] (by decide) (lc' := [(0, .ref (ar 0)), (1, .int x.1), (2, .int x.2.1), (3, .int x.2.2.1), (4, .int 1)]) rfl ?_
          refine j_iload_n (pc := 79) C d_Mo_isRepeated_79 rfl 2 rfl ?_
          refine j_if_ne (pc := 80) C d_Mo_isRepeated_80 (tgt := 104) rfl (fun h31 => ?_) (fun h31 => ?_)
          · rw [if_neg h31] at hf
            refine j_iconst (pc := 104) C d_Mo_isRepeated_104 ck_1 ?_
            refine j_goto (pc := 105) C d_Mo_isRepeated_105 (tgt := 109) rfl ?_
            refine j_istore_n (pc := 109) C d_Mo_isRepeated_109 rfl [1, 2, 0, 3, 4] (by decide) (lc' := [(0, .ref (ar 0)), (1, .int x.1), (2, .int 1), (3, .int x.2.2.1), (4, .int 1)]) rfl ?_
            refine j_iinc (pc := 110) C d_Mo_isRepeated_110 3 rfl (v := x.2.2.1 + 1) (iv ci_1) [1, 2, 3, 0, 4] (by decide) (lc' := [(0, .ref (ar 0)), (1, .int x.1), (2, .int 1), (3, .int (x.2.2.1 + 1)), (4, .int 1)]) rfl ?_
            refine j_goto (pc := 113) C d_Mo_isRepeated_113 (tgt := 4) rfl ?_
            refine j_lc C (lc' := [(0, .ref (ar 0)), (1, .int x.1), (2, .int 1), (3, .int (x.2.2.1 + 1))]) [0, 1, 2, 3] rfl ?_
            exact k4_ih (x.1, 1, x.2.2.1 + 1, x.2.2.2) hf
          · rw [if_pos h31] at hf
            refine j_iload (pc := 83) C d_Mo_isRepeated_83 4 rfl ?_
            refine j_if_eq (pc := 85) C d_Mo_isRepeated_85 (tgt := 108) rfl (fun h => absurd h (by decide)) (fun _ => ?_)
            refine j_aload_n (pc := 88) C d_Mo_isRepeated_88 rfl 0 rfl ?_
            refine j_get (pc := 89) C d_Mo_isRepeated_89 0 11 wR_o0 rfl (v := .ref (ar 8)) rfl (by decide) tw953 ?_
            refine j_iload_n (pc := 92) C d_Mo_isRepeated_92 rfl 3 rfl ?_
            obtain ⟨b32, hf⟩ := og hf
            refine j_lald (pc := 93) C d_Mo_isRepeated_93 8 (inb_in b32) (x := x.2.2.2.2.2 8 x.2.2.1.toNatClampNeg) wR_a8 rfl ?_
            refine j_aload_n (pc := 94) C d_Mo_isRepeated_94 rfl 0 rfl ?_
            refine j_get (pc := 95) C d_Mo_isRepeated_95 0 11 wR_o0 rfl (v := .ref (ar 8)) rfl (by decide) tw953 ?_
            refine j_iload_n (pc := 98) C d_Mo_isRepeated_98 rfl 1 rfl ?_
            obtain ⟨b33, hf⟩ := og hf
            refine j_lald (pc := 99) C d_Mo_isRepeated_99 8 (inb_in b33) (x := x.2.2.2.2.2 8 x.1.toNatClampNeg) wR_a8 rfl ?_
            refine j_lcmp (pc := 100) C d_Mo_isRepeated_100 ?_
            refine j_topi C (fun v34 ev34 => ?_)
            replace hf := ov ev34 hf
            refine j_if_ne (pc := 101) C d_Mo_isRepeated_101 (tgt := 108) rfl (fun h35 => ?_) (fun h35 => ?_)
            · rw [if_neg h35] at hf
              refine j_iconst (pc := 108) C d_Mo_isRepeated_108 ck_0 ?_
              refine j_istore_n (pc := 109) C d_Mo_isRepeated_109 rfl [1, 2, 0, 3, 4] (by decide) (lc' := [(0, .ref (ar 0)), (1, .int x.1), (2, .int 0), (3, .int x.2.2.1), (4, .int 1)]) rfl ?_
              refine j_iinc (pc := 110) C d_Mo_isRepeated_110 3 rfl (v := x.2.2.1 + 1) (iv ci_1) [1, 2, 3, 0, 4] (by decide) (lc' := [(0, .ref (ar 0)), (1, .int x.1), (2, .int 0), (3, .int (x.2.2.1 + 1)), (4, .int 1)]) rfl ?_
              refine j_goto (pc := 113) C d_Mo_isRepeated_113 (tgt := 4) rfl ?_
              refine j_lc C (lc' := [(0, .ref (ar 0)), (1, .int x.1), (2, .int 0), (3, .int (x.2.2.1 + 1))]) [0, 1, 2, 3] rfl ?_
              exact k4_ih (x.1, 0, x.2.2.1 + 1, x.2.2.2) hf
            · rw [if_pos h35] at hf
              refine j_iconst (pc := 104) C d_Mo_isRepeated_104 ck_1 ?_
              refine j_goto (pc := 105) C d_Mo_isRepeated_105 (tgt := 109) rfl ?_
              refine j_istore_n (pc := 109) C d_Mo_isRepeated_109 rfl [1, 2, 0, 3, 4] (by decide) (lc' := [(0, .ref (ar 0)), (1, .int x.1), (2, .int 1), (3, .int x.2.2.1), (4, .int 1)]) rfl ?_
              refine j_iinc (pc := 110) C d_Mo_isRepeated_110 3 rfl (v := x.2.2.1 + 1) (iv ci_1) [1, 2, 3, 0, 4] (by decide) (lc' := [(0, .ref (ar 0)), (1, .int x.1), (2, .int 1), (3, .int (x.2.2.1 + 1)), (4, .int 1)]) rfl ?_
              refine j_goto (pc := 113) C d_Mo_isRepeated_113 (tgt := 4) rfl ?_
              refine j_lc C (lc' := [(0, .ref (ar 0)), (1, .int x.1), (2, .int 1), (3, .int (x.2.2.1 + 1))]) [0, 1, 2, 3] rfl ?_
              exact k4_ih (x.1, 1, x.2.2.1 + 1, x.2.2.2) hf
  unfold f_Mo_isRepeated at hf
  change 𝒥 0 0 (wR g ar r.1 r.2.1 r.2.2) [(0, .ref (ar 0)), (1, .int a1)] [] 0
  refine j_iconst (pc := 0) C d_Mo_isRepeated_0 ck_0 ?_
  refine j_istore_n (pc := 1) C d_Mo_isRepeated_1 rfl [1, 2, 0] (by decide) (lc' := [(0, .ref (ar 0)), (1, .int a1), (2, .int 0)]) rfl ?_
  refine j_iconst (pc := 2) C d_Mo_isRepeated_2 ck_0 ?_
  refine j_istore_n (pc := 3) C d_Mo_isRepeated_3 rfl [1, 2, 3, 0] (by decide) (lc' := [(0, .ref (ar 0)), (1, .int a1), (2, .int 0), (3, .int 0)]) rfl ?_
  exact L4 100000 (a1, 0, 0, r) hf
abbrev rm_Mo_meaning : Room := { frames := 0, cells := 0, slots := 0, locals := 0 }
theorem cv_Mo_meaning : CV y_Mo_meaning b_Mo_meaning 7 (some .int) 2 := ⟨⟨tw1249, tw10, by decide +kernel⟩, tw1248, (sw_ (q := (y_Mo_meaning, 54)) (by decide +kernel) (by decide +kernel))⟩
set_option maxHeartbeats 4000000 in
set_option maxRecDepth 100000 in
theorem c_Mo_meaning {g : GT} {ar : Nat → Nat} {a1 : Int64} {a3 : Int32} {r : RS} {q : Int32 × RS} (hf : f_Mo_meaning a1 a3 r = some q) : MI g y_Mo_meaning b_Mo_meaning 7 (some .int) rm_Mo_meaning [.ref (ar 0), .long a1, .int a3] (wR g ar r.1 r.2.1 r.2.2) q.1 (wR g ar q.2.1 q.2.2.1 q.2.2.2) := by
  refine MI.of (by decide) (Nat.le_of_ble_eq_true rfl) (fun 𝒥 C => ?_)
  have L6 : ∀ (n : Nat) (x : Int64 × Int32 × Int32 × Int32 × RS), lpN (BMo_meaning_6) n x = some q → 𝒥 0 0 (wR g ar x.2.2.2.2.1 x.2.2.2.2.2.1 x.2.2.2.2.2.2) [(0, .ref (ar 0)), (1, .long x.1), (3, .int x.2.1), (4, .int x.2.2.1), (5, .int x.2.2.2.1)] [] 6 := by
    refine lp_ind (fun k6 k6_ih x hf => ?_)
    unfold BMo_meaning_6 at hf
    refine j_iload (pc := 6) C d_Mo_meaning_6 4 rfl ?_
    refine j_aload_n (pc := 8) C d_Mo_meaning_8 rfl 0 rfl ?_
    refine j_get (pc := 9) C d_Mo_meaning_9 0 7 wR_o0 rfl (v := .int (x.2.2.2.2.2.1 3)) rfl (by decide) tw949 ?_
    refine j_icmp_ge (pc := 12) C d_Mo_meaning_12 (tgt := 132) rfl (fun h1 => ?_) (fun h1 => ?_)
    · rw [if_pos h1] at hf
      refine j_iload (pc := 132) C d_Mo_meaning_132 3 rfl ?_
      cases hf
      exact j_iret (pc := 134) C d_Mo_meaning_134 ⟨rfl, rfl⟩ (Nat.le_of_ble_eq_true rfl) (Nat.le_of_ble_eq_true rfl)
    · rw [if_neg h1] at hf
      refine j_aload_n (pc := 15) C d_Mo_meaning_15 rfl 0 rfl ?_
      refine j_get (pc := 16) C d_Mo_meaning_16 0 12 wR_o0 rfl (v := .ref (ar 9)) rfl (by decide) tw954 ?_
      refine j_iload (pc := 19) C d_Mo_meaning_19 4 rfl ?_
      obtain ⟨b2, hf⟩ := og hf
      refine j_iald (pc := 21) C d_Mo_meaning_21 9 (inb_in b2) (x := x.2.2.2.2.1 9 x.2.2.2.1.toNatClampNeg) wR_a9 rfl ?_
      refine j_iconst (pc := 22) C d_Mo_meaning_22 ck_2 ?_
      refine j_icmp_eq (pc := 23) C d_Mo_meaning_23 (tgt := 37) rfl (fun h3 => ?_) (fun h3 => ?_)
      · rw [if_pos h3] at hf
        refine j_aload_n (pc := 37) C d_Mo_meaning_37 rfl 0 rfl ?_
        refine j_get (pc := 38) C d_Mo_meaning_38 0 13 wR_o0 rfl (v := .ref (ar 10)) rfl (by decide) tw955 ?_
        refine j_iload (pc := 41) C d_Mo_meaning_41 4 rfl ?_
        obtain ⟨b4, hf⟩ := og hf
        refine j_iald (pc := 43) C d_Mo_meaning_43 10 (inb_in b4) (x := x.2.2.2.2.1 10 x.2.2.2.1.toNatClampNeg) wR_a10 rfl ?_
        refine j_iload (pc := 44) C d_Mo_meaning_44 4 rfl ?_
        refine j_icmp_ne (pc := 46) C d_Mo_meaning_46 (tgt := 87) rfl (fun h5 => ?_) (fun h5 => ?_)
        · rw [if_neg h5] at hf
          refine j_iconst (pc := 87) C d_Mo_meaning_87 ck_0 ?_
          refine j_istore (pc := 88) C d_Mo_meaning_88 [1, 2, 3, 4, 5, 0] (by decide) (lc' := [(0, .ref (ar 0)), (1, .long x.1), (3, .int x.2.1), (4, .int x.2.2.1), (5, .int x.2.2.2.1), (6, .int 0)]) rfl ?_
          refine j_iload (pc := 90) C d_Mo_meaning_90 5 rfl ?_
          refine j_if_eq (pc := 92) C d_Mo_meaning_92 (tgt := 122) rfl (fun _ => ?_) (fun h => absurd h (by decide))
          refine j_iload (pc := 122) C d_Mo_meaning_122 3 rfl ?_
          refine j_istore (pc := 124) C d_Mo_meaning_124 [1, 2, 3, 0, 4, 5] (by decide) (lc' := [(0, .ref (ar 0)), (1, .long x.1), (3, .int x.2.1), (4, .int x.2.2.1), (5, .int x.2.2.2.1), (6, .int 0)]) rfl ?_
          refine j_iinc (pc := 126) C d_Mo_meaning_126 4 rfl (v := x.2.2.2.1 + 1) (iv ci_1) [1, 2, 3, 4, 0, 5] (by decide) (lc' := [(0, .ref (ar 0)), (1, .long x.1), (3, .int x.2.1), (4, .int x.2.2.1), (5, .int (x.2.2.2.1 + 1)), (6, .int 0)]) rfl ?_
          refine j_goto (pc := 129) C d_Mo_meaning_129 (tgt := 6) rfl ?_
          refine j_lc C (lc' := [(0, .ref (ar 0)), (1, .long x.1), (3, .int x.2.1), (4, .int x.2.2.1), (5, .int (x.2.2.2.1 + 1))]) [0, 1, 2, 3, 4] rfl ?_
          exact k6_ih (x.1, x.2.1, x.2.2.1, x.2.2.2.1 + 1, x.2.2.2.2) hf
        · rw [if_pos h5] at hf
          refine j_aload_n (pc := 49) C d_Mo_meaning_49 rfl 0 rfl ?_
          refine j_get (pc := 50) C d_Mo_meaning_50 0 11 wR_o0 rfl (v := .ref (ar 8)) rfl (by decide) tw953 ?_
          refine j_iload (pc := 53) C d_Mo_meaning_53 4 rfl ?_
          obtain ⟨b6, hf⟩ := og hf
          refine j_lald (pc := 55) C d_Mo_meaning_55 8 (inb_in b6) (x := x.2.2.2.2.2.2 8 x.2.2.2.1.toNatClampNeg) wR_a8 rfl ?_
          refine j_lload_n (pc := 56) C d_Mo_meaning_56 rfl 1 rfl ?_
          refine j_lcmp (pc := 57) C d_Mo_meaning_57 ?_
          refine j_topi C (fun v7 ev7 => ?_)
          replace hf := ov ev7 hf
          refine j_if_ne (pc := 58) C d_Mo_meaning_58 (tgt := 87) rfl (fun h8 => ?_) (fun h8 => ?_)
          · rw [if_neg h8] at hf
            refine j_iconst (pc := 87) C d_Mo_meaning_87 ck_0 ?_
            refine j_istore (pc := 88) C d_Mo_meaning_88 [1, 2, 3, 4, 5, 0] (by decide) (lc' := [(0, .ref (ar 0)), (1, .long x.1), (3, .int x.2.1), (4, .int x.2.2.1), (5, .int x.2.2.2.1), (6, .int 0)]) rfl ?_
            refine j_iload (pc := 90) C d_Mo_meaning_90 5 rfl ?_
            refine j_if_eq (pc := 92) C d_Mo_meaning_92 (tgt := 122) rfl (fun _ => ?_) (fun h => absurd h (by decide))
            refine j_iload (pc := 122) C d_Mo_meaning_122 3 rfl ?_
            refine j_istore (pc := 124) C d_Mo_meaning_124 [1, 2, 3, 0, 4, 5] (by decide) (lc' := [(0, .ref (ar 0)), (1, .long x.1), (3, .int x.2.1), (4, .int x.2.2.1), (5, .int x.2.2.2.1), (6, .int 0)]) rfl ?_
            refine j_iinc (pc := 126) C d_Mo_meaning_126 4 rfl (v := x.2.2.2.1 + 1) (iv ci_1) [1, 2, 3, 4, 0, 5] (by decide) (lc' := [(0, .ref (ar 0)), (1, .long x.1), (3, .int x.2.1), (4, .int x.2.2.1), (5, .int (x.2.2.2.1 + 1)), (6, .int 0)]) rfl ?_
            refine j_goto (pc := 129) C d_Mo_meaning_129 (tgt := 6) rfl ?_
            refine j_lc C (lc' := [(0, .ref (ar 0)), (1, .long x.1), (3, .int x.2.1), (4, .int x.2.2.1), (5, .int (x.2.2.2.1 + 1))]) [0, 1, 2, 3, 4] rfl ?_
            exact k6_ih (x.1, x.2.1, x.2.2.1, x.2.2.2.1 + 1, x.2.2.2.2) hf
          · rw [if_pos h8] at hf
            refine j_aload_n (pc := 61) C d_Mo_meaning_61 rfl 0 rfl ?_
            refine j_get (pc := 62) C d_Mo_meaning_62 0 17 wR_o0 rfl (v := .ref (ar 14)) rfl (by decide) tw959 ?_
            refine j_iload (pc := 65) C d_Mo_meaning_65 4 rfl ?_
            obtain ⟨b9, hf⟩ := og hf
            refine j_iald (pc := 67) C d_Mo_meaning_67 14 (inb_in b9) (x := x.2.2.2.2.1 14 x.2.2.2.1.toNatClampNeg) wR_a14 rfl ?_
            refine j_iload_n (pc := 68) C d_Mo_meaning_68 rfl 2 rfl ?_
            refine j_icmp_gt (pc := 69) C d_Mo_meaning_69 (tgt := 87) rfl (fun h10 => ?_) (fun h10 => ?_)
            · rw [if_pos h10] at hf
              refine j_iconst (pc := 87) C d_Mo_meaning_87 ck_0 ?_
              refine j_istore (pc := 88) C d_Mo_meaning_88 [1, 2, 3, 4, 5, 0] (by decide) (lc' := [(0, .ref (ar 0)), (1, .long x.1), (3, .int x.2.1), (4, .int x.2.2.1), (5, .int x.2.2.2.1), (6, .int 0)]) rfl ?_
              refine j_iload (pc := 90) C d_Mo_meaning_90 5 rfl ?_
              refine j_if_eq (pc := 92) C d_Mo_meaning_92 (tgt := 122) rfl (fun _ => ?_) (fun h => absurd h (by decide))
              refine j_iload (pc := 122) C d_Mo_meaning_122 3 rfl ?_
              refine j_istore (pc := 124) C d_Mo_meaning_124 [1, 2, 3, 0, 4, 5] (by decide) (lc' := [(0, .ref (ar 0)), (1, .long x.1), (3, .int x.2.1), (4, .int x.2.2.1), (5, .int x.2.2.2.1), (6, .int 0)]) rfl ?_
              refine j_iinc (pc := 126) C d_Mo_meaning_126 4 rfl (v := x.2.2.2.1 + 1) (iv ci_1) [1, 2, 3, 4, 0, 5] (by decide) (lc' := [(0, .ref (ar 0)), (1, .long x.1), (3, .int x.2.1), (4, .int x.2.2.1), (5, .int (x.2.2.2.1 + 1)), (6, .int 0)]) rfl ?_
              refine j_goto (pc := 129) C d_Mo_meaning_129 (tgt := 6) rfl ?_
              refine j_lc C (lc' := [(0, .ref (ar 0)), (1, .long x.1), (3, .int x.2.1), (4, .int x.2.2.1), (5, .int (x.2.2.2.1 + 1))]) [0, 1, 2, 3, 4] rfl ?_
              exact k6_ih (x.1, x.2.1, x.2.2.1, x.2.2.2.1 + 1, x.2.2.2.2) hf
            · rw [if_neg h10] at hf
              refine j_iload_n (pc := 72) C d_Mo_meaning_72 rfl 2 rfl ?_
              refine j_aload_n (pc := 73) C d_Mo_meaning_73 rfl 0 rfl ?_
              refine j_get (pc := 74) C d_Mo_meaning_74 0 18 wR_o0 rfl (v := .ref (ar 15)) rfl (by decide) tw960 ?_
              refine j_iload (pc := 77) C d_Mo_meaning_77 4 rfl ?_
              obtain ⟨b11, hf⟩ := og hf
              refine j_iald (pc := 79) C d_Mo_meaning_79 15 (inb_in b11) (x := x.2.2.2.2.1 15 x.2.2.2.1.toNatClampNeg) wR_a15 rfl ?_
              refine j_icmp_ge (pc := 80) C d_Mo_meaning_80 (tgt := 87) rfl (fun h12 => ?_) (fun h12 => ?_)
              · rw [if_pos h12] at hf
                refine j_iconst (pc := 87) C d_Mo_meaning_87 ck_0 ?_
                refine j_istore (pc := 88) C d_Mo_meaning_88 [1, 2, 3, 4, 5, 0] (by decide) (lc' := [(0, .ref (ar 0)), (1, .long x.1), (3, .int x.2.1), (4, .int x.2.2.1), (5, .int x.2.2.2.1), (6, .int 0)]) rfl ?_
                refine j_iload (pc := 90) C d_Mo_meaning_90 5 rfl ?_
                refine j_if_eq (pc := 92) C d_Mo_meaning_92 (tgt := 122) rfl (fun _ => ?_) (fun h => absurd h (by decide))
                refine j_iload (pc := 122) C d_Mo_meaning_122 3 rfl ?_
                refine j_istore (pc := 124) C d_Mo_meaning_124 [1, 2, 3, 0, 4, 5] (by decide) (lc' := [(0, .ref (ar 0)), (1, .long x.1), (3, .int x.2.1), (4, .int x.2.2.1), (5, .int x.2.2.2.1), (6, .int 0)]) rfl ?_
                refine j_iinc (pc := 126) C d_Mo_meaning_126 4 rfl (v := x.2.2.2.1 + 1) (iv ci_1) [1, 2, 3, 4, 0, 5] (by decide) (lc' := [(0, .ref (ar 0)), (1, .long x.1), (3, .int x.2.1), (4, .int x.2.2.1), (5, .int (x.2.2.2.1 + 1)), (6, .int 0)]) rfl ?_
                refine j_goto (pc := 129) C d_Mo_meaning_129 (tgt := 6) rfl ?_
                refine j_lc C (lc' := [(0, .ref (ar 0)), (1, .long x.1), (3, .int x.2.1), (4, .int x.2.2.1), (5, .int (x.2.2.2.1 + 1))]) [0, 1, 2, 3, 4] rfl ?_
                exact k6_ih (x.1, x.2.1, x.2.2.1, x.2.2.2.1 + 1, x.2.2.2.2) hf
              · rw [if_neg h12] at hf
                refine j_iconst (pc := 83) C d_Mo_meaning_83 ck_1 ?_
                refine j_goto (pc := 84) C d_Mo_meaning_84 (tgt := 88) rfl ?_
                refine j_istore (pc := 88) C d_Mo_meaning_88 [1, 2, 3, 4, 5, 0] (by decide) (lc' := [(0, .ref (ar 0)), (1, .long x.1), (3, .int x.2.1), (4, .int x.2.2.1), (5, .int x.2.2.2.1), (6, .int 1)]) rfl ?_
                refine j_iload (pc := 90) C d_Mo_meaning_90 5 rfl ?_
                refine j_if_eq (pc := 92) C d_Mo_meaning_92 (tgt := 122) rfl (fun h => absurd h (by decide)) (fun _ => ?_)
                refine j_iload (pc := 95) C d_Mo_meaning_95 3 rfl ?_
                refine j_if_lt (pc := 97) C d_Mo_meaning_97 (tgt := 117) rfl (fun h13 => ?_) (fun h13 => ?_)
                · rw [if_pos h13] at hf
                  refine j_iload (pc := 117) C d_Mo_meaning_117 4 rfl ?_
                  refine j_goto (pc := 119) C d_Mo_meaning_119 (tgt := 124) rfl ?_
                  refine j_istore (pc := 124) C d_Mo_meaning_124 [1, 2, 3, 0, 4, 5] (by decide) (lc' := [(0, .ref (ar 0)), (1, .long x.1), (3, .int x.2.1), (4, .int x.2.2.2.1), (5, .int x.2.2.2.1), (6, .int 1)]) rfl ?_
                  refine j_iinc (pc := 126) C d_Mo_meaning_126 4 rfl (v := x.2.2.2.1 + 1) (iv ci_1) [1, 2, 3, 4, 0, 5] (by decide) (lc' := [(0, .ref (ar 0)), (1, .long x.1), (3, .int x.2.1), (4, .int x.2.2.2.1), (5, .int (x.2.2.2.1 + 1)), (6, .int 1)]) rfl ?_
                  refine j_goto (pc := 129) C d_Mo_meaning_129 (tgt := 6) rfl ?_
                  refine j_lc C (lc' := [(0, .ref (ar 0)), (1, .long x.1), (3, .int x.2.1), (4, .int x.2.2.2.1), (5, .int (x.2.2.2.1 + 1))]) [0, 1, 2, 3, 4] rfl ?_
                  exact k6_ih (x.1, x.2.1, x.2.2.2.1, x.2.2.2.1 + 1, x.2.2.2.2) hf
                · rw [if_neg h13] at hf
                  refine j_aload_n (pc := 100) C d_Mo_meaning_100 rfl 0 rfl ?_
                  refine j_get (pc := 101) C d_Mo_meaning_101 0 17 wR_o0 rfl (v := .ref (ar 14)) rfl (by decide) tw959 ?_
                  refine j_iload (pc := 104) C d_Mo_meaning_104 4 rfl ?_
                  obtain ⟨b14, hf⟩ := og hf
                  refine j_iald (pc := 106) C d_Mo_meaning_106 14 (inb_in b14) (x := x.2.2.2.2.1 14 x.2.2.2.1.toNatClampNeg) wR_a14 rfl ?_
                  refine j_aload_n (pc := 107) C d_Mo_meaning_107 rfl 0 rfl ?_
                  refine j_get (pc := 108) C d_Mo_meaning_108 0 17 wR_o0 rfl (v := .ref (ar 14)) rfl (by decide) tw959 ?_
                  refine j_iload (pc := 111) C d_Mo_meaning_111 3 rfl ?_
                  obtain ⟨b15, hf⟩ := og hf
                  refine j_iald (pc := 113) C d_Mo_meaning_113 14 (inb_in b15) (x := x.2.2.2.2.1 14 x.2.2.1.toNatClampNeg) wR_a14 rfl ?_
                  refine j_icmp_lt (pc := 114) C d_Mo_meaning_114 (tgt := 122) rfl (fun h16 => ?_) (fun h16 => ?_)
                  · rw [if_pos h16] at hf
                    refine j_iload (pc := 122) C d_Mo_meaning_122 3 rfl ?_
                    refine j_istore (pc := 124) C d_Mo_meaning_124 [1, 2, 3, 0, 4, 5] (by decide) (lc' := [(0, .ref (ar 0)), (1, .long x.1), (3, .int x.2.1), (4, .int x.2.2.1), (5, .int x.2.2.2.1), (6, .int 1)]) rfl ?_
                    refine j_iinc (pc := 126) C d_Mo_meaning_126 4 rfl (v := x.2.2.2.1 + 1) (iv ci_1) [1, 2, 3, 4, 0, 5] (by decide) (lc' := [(0, .ref (ar 0)), (1, .long x.1), (3, .int x.2.1), (4, .int x.2.2.1), (5, .int (x.2.2.2.1 + 1)), (6, .int 1)]) rfl ?_
                    refine j_goto (pc := 129) C d_Mo_meaning_129 (tgt := 6) rfl ?_
                    refine j_lc C (lc' := [(0, .ref (ar 0)), (1, .long x.1), (3, .int x.2.1), (4, .int x.2.2.1), (5, .int (x.2.2.2.1 + 1))]) [0, 1, 2, 3, 4] rfl ?_
                    exact k6_ih (x.1, x.2.1, x.2.2.1, x.2.2.2.1 + 1, x.2.2.2.2) hf
                  · rw [if_neg h16] at hf
                    refine j_iload (pc := 117) C d_Mo_meaning_117 4 rfl ?_
                    refine j_goto (pc := 119) C d_Mo_meaning_119 (tgt := 124) rfl ?_
                    refine j_istore (pc := 124) C d_Mo_meaning_124 [1, 2, 3, 0, 4, 5] (by decide) (lc' := [(0, .ref (ar 0)), (1, .long x.1), (3, .int x.2.1), (4, .int x.2.2.2.1), (5, .int x.2.2.2.1), (6, .int 1)]) rfl ?_
                    refine j_iinc (pc := 126) C d_Mo_meaning_126 4 rfl (v := x.2.2.2.1 + 1) (iv ci_1) [1, 2, 3, 4, 0, 5] (by decide) (lc' := [(0, .ref (ar 0)), (1, .long x.1), (3, .int x.2.1), (4, .int x.2.2.2.1), (5, .int (x.2.2.2.1 + 1)), (6, .int 1)]) rfl ?_
                    refine j_goto (pc := 129) C d_Mo_meaning_129 (tgt := 6) rfl ?_
                    refine j_lc C (lc' := [(0, .ref (ar 0)), (1, .long x.1), (3, .int x.2.1), (4, .int x.2.2.2.1), (5, .int (x.2.2.2.1 + 1))]) [0, 1, 2, 3, 4] rfl ?_
                    exact k6_ih (x.1, x.2.1, x.2.2.2.1, x.2.2.2.1 + 1, x.2.2.2.2) hf
      · rw [if_neg h3] at hf
        refine j_aload_n (pc := 26) C d_Mo_meaning_26 rfl 0 rfl ?_
        refine j_get (pc := 27) C d_Mo_meaning_27 0 12 wR_o0 rfl (v := .ref (ar 9)) rfl (by decide) tw954 ?_
        refine j_iload (pc := 30) C d_Mo_meaning_30 4 rfl ?_
        obtain ⟨b17, hf⟩ := og hf
        refine j_iald (pc := 32) C d_Mo_meaning_32 9 (inb_in b17) (x := x.2.2.2.2.1 9 x.2.2.2.1.toNatClampNeg) wR_a9 rfl ?_
        refine j_iconst (pc := 33) C d_Mo_meaning_33 ck_3 ?_
        refine j_icmp_ne (pc := 34) C d_Mo_meaning_34 (tgt := 87) rfl (fun h18 => ?_) (fun h18 => ?_)
        · rw [if_neg h18] at hf
          refine j_iconst (pc := 87) C d_Mo_meaning_87 ck_0 ?_
          refine j_istore (pc := 88) C d_Mo_meaning_88 [1, 2, 3, 4, 5, 0] (by decide) (lc' := [(0, .ref (ar 0)), (1, .long x.1), (3, .int x.2.1), (4, .int x.2.2.1), (5, .int x.2.2.2.1), (6, .int 0)]) rfl ?_
          refine j_iload (pc := 90) C d_Mo_meaning_90 5 rfl ?_
          refine j_if_eq (pc := 92) C d_Mo_meaning_92 (tgt := 122) rfl (fun _ => ?_) (fun h => absurd h (by decide))
          refine j_iload (pc := 122) C d_Mo_meaning_122 3 rfl ?_
          refine j_istore (pc := 124) C d_Mo_meaning_124 [1, 2, 3, 0, 4, 5] (by decide) (lc' := [(0, .ref (ar 0)), (1, .long x.1), (3, .int x.2.1), (4, .int x.2.2.1), (5, .int x.2.2.2.1), (6, .int 0)]) rfl ?_
          refine j_iinc (pc := 126) C d_Mo_meaning_126 4 rfl (v := x.2.2.2.1 + 1) (iv ci_1) [1, 2, 3, 4, 0, 5] (by decide) (lc' := [(0, .ref (ar 0)), (1, .long x.1), (3, .int x.2.1), (4, .int x.2.2.1), (5, .int (x.2.2.2.1 + 1)), (6, .int 0)]) rfl ?_
          refine j_goto (pc := 129) C d_Mo_meaning_129 (tgt := 6) rfl ?_
          refine j_lc C (lc' := [(0, .ref (ar 0)), (1, .long x.1), (3, .int x.2.1), (4, .int x.2.2.1), (5, .int (x.2.2.2.1 + 1))]) [0, 1, 2, 3, 4] rfl ?_
          exact k6_ih (x.1, x.2.1, x.2.2.1, x.2.2.2.1 + 1, x.2.2.2.2) hf
        · rw [if_pos h18] at hf
          refine j_aload_n (pc := 37) C d_Mo_meaning_37 rfl 0 rfl ?_
          refine j_get (pc := 38) C d_Mo_meaning_38 0 13 wR_o0 rfl (v := .ref (ar 10)) rfl (by decide) tw955 ?_
          refine j_iload (pc := 41) C d_Mo_meaning_41 4 rfl ?_
          obtain ⟨b19, hf⟩ := og hf
          refine j_iald (pc := 43) C d_Mo_meaning_43 10 (inb_in b19) (x := x.2.2.2.2.1 10 x.2.2.2.1.toNatClampNeg) wR_a10 rfl ?_
          refine j_iload (pc := 44) C d_Mo_meaning_44 4 rfl ?_
          refine j_icmp_ne (pc := 46) C d_Mo_meaning_46 (tgt := 87) rfl (fun h20 => ?_) (fun h20 => ?_)
          · rw [if_neg h20] at hf
            refine j_iconst (pc := 87) C d_Mo_meaning_87 ck_0 ?_
            refine j_istore (pc := 88) C d_Mo_meaning_88 [1, 2, 3, 4, 5, 0] (by decide) (lc' := [(0, .ref (ar 0)), (1, .long x.1), (3, .int x.2.1), (4, .int x.2.2.1), (5, .int x.2.2.2.1), (6, .int 0)]) rfl ?_
            refine j_iload (pc := 90) C d_Mo_meaning_90 5 rfl ?_
            refine j_if_eq (pc := 92) C d_Mo_meaning_92 (tgt := 122) rfl (fun _ => ?_) (fun h => absurd h (by decide))
            refine j_iload (pc := 122) C d_Mo_meaning_122 3 rfl ?_
            refine j_istore (pc := 124) C d_Mo_meaning_124 [1, 2, 3, 0, 4, 5] (by decide) (lc' := [(0, .ref (ar 0)), (1, .long x.1), (3, .int x.2.1), (4, .int x.2.2.1), (5, .int x.2.2.2.1), (6, .int 0)]) rfl ?_
            refine j_iinc (pc := 126) C d_Mo_meaning_126 4 rfl (v := x.2.2.2.1 + 1) (iv ci_1) [1, 2, 3, 4, 0, 5] (by decide) (lc' := [(0, .ref (ar 0)), (1, .long x.1), (3, .int x.2.1), (4, .int x.2.2.1), (5, .int (x.2.2.2.1 + 1)), (6, .int 0)]) rfl ?_
            refine j_goto (pc := 129) C d_Mo_meaning_129 (tgt := 6) rfl ?_
            refine j_lc C (lc' := [(0, .ref (ar 0)), (1, .long x.1), (3, .int x.2.1), (4, .int x.2.2.1), (5, .int (x.2.2.2.1 + 1))]) [0, 1, 2, 3, 4] rfl ?_
            exact k6_ih (x.1, x.2.1, x.2.2.1, x.2.2.2.1 + 1, x.2.2.2.2) hf
          · rw [if_pos h20] at hf
            refine j_aload_n (pc := 49) C d_Mo_meaning_49 rfl 0 rfl ?_
            refine j_get (pc := 50) C d_Mo_meaning_50 0 11 wR_o0 rfl (v := .ref (ar 8)) rfl (by decide) tw953 ?_
            refine j_iload (pc := 53) C d_Mo_meaning_53 4 rfl ?_
            obtain ⟨b21, hf⟩ := og hf
            refine j_lald (pc := 55) C d_Mo_meaning_55 8 (inb_in b21) (x := x.2.2.2.2.2.2 8 x.2.2.2.1.toNatClampNeg) wR_a8 rfl ?_
            refine j_lload_n (pc := 56) C d_Mo_meaning_56 rfl 1 rfl ?_
            refine j_lcmp (pc := 57) C d_Mo_meaning_57 ?_
            refine j_topi C (fun v22 ev22 => ?_)
            replace hf := ov ev22 hf
            refine j_if_ne (pc := 58) C d_Mo_meaning_58 (tgt := 87) rfl (fun h23 => ?_) (fun h23 => ?_)
            · rw [if_neg h23] at hf
              refine j_iconst (pc := 87) C d_Mo_meaning_87 ck_0 ?_
              refine j_istore (pc := 88) C d_Mo_meaning_88 [1, 2, 3, 4, 5, 0] (by decide) (lc' := [(0, .ref (ar 0)), (1, .long x.1), (3, .int x.2.1), (4, .int x.2.2.1), (5, .int x.2.2.2.1), (6, .int 0)]) rfl ?_
              refine j_iload (pc := 90) C d_Mo_meaning_90 5 rfl ?_
              refine j_if_eq (pc := 92) C d_Mo_meaning_92 (tgt := 122) rfl (fun _ => ?_) (fun h => absurd h (by decide))
              refine j_iload (pc := 122) C d_Mo_meaning_122 3 rfl ?_
              refine j_istore (pc := 124) C d_Mo_meaning_124 [1, 2, 3, 0, 4, 5] (by decide) (lc' := [(0, .ref (ar 0)), (1, .long x.1), (3, .int x.2.1), (4, .int x.2.2.1), (5, .int x.2.2.2.1), (6, .int 0)]) rfl ?_
              refine j_iinc (pc := 126) C d_Mo_meaning_126 4 rfl (v := x.2.2.2.1 + 1) (iv ci_1) [1, 2, 3, 4, 0, 5] (by decide) (lc' := [(0, .ref (ar 0)), (1, .long x.1), (3, .int x.2.1), (4, .int x.2.2.1), (5, .int (x.2.2.2.1 + 1)), (6, .int 0)]) rfl ?_
              refine j_goto (pc := 129) C d_Mo_meaning_129 (tgt := 6) rfl ?_
              refine j_lc C (lc' := [(0, .ref (ar 0)), (1, .long x.1), (3, .int x.2.1), (4, .int x.2.2.1), (5, .int (x.2.2.2.1 + 1))]) [0, 1, 2, 3, 4] rfl ?_
              exact k6_ih (x.1, x.2.1, x.2.2.1, x.2.2.2.1 + 1, x.2.2.2.2) hf
            · rw [if_pos h23] at hf
              refine j_aload_n (pc := 61) C d_Mo_meaning_61 rfl 0 rfl ?_
              refine j_get (pc := 62) C d_Mo_meaning_62 0 17 wR_o0 rfl (v := .ref (ar 14)) rfl (by decide) tw959 ?_
              refine j_iload (pc := 65) C d_Mo_meaning_65 4 rfl ?_
              obtain ⟨b24, hf⟩ := og hf
              refine j_iald (pc := 67) C d_Mo_meaning_67 14 (inb_in b24) (x := x.2.2.2.2.1 14 x.2.2.2.1.toNatClampNeg) wR_a14 rfl ?_
              refine j_iload_n (pc := 68) C d_Mo_meaning_68 rfl 2 rfl ?_
              refine j_icmp_gt (pc := 69) C d_Mo_meaning_69 (tgt := 87) rfl (fun h25 => ?_) (fun h25 => ?_)
              · rw [if_pos h25] at hf
                refine j_iconst (pc := 87) C d_Mo_meaning_87 ck_0 ?_
                refine j_istore (pc := 88) C d_Mo_meaning_88 [1, 2, 3, 4, 5, 0] (by decide) (lc' := [(0, .ref (ar 0)), (1, .long x.1), (3, .int x.2.1), (4, .int x.2.2.1), (5, .int x.2.2.2.1), (6, .int 0)]) rfl ?_
                refine j_iload (pc := 90) C d_Mo_meaning_90 5 rfl ?_
                refine j_if_eq (pc := 92) C d_Mo_meaning_92 (tgt := 122) rfl (fun _ => ?_) (fun h => absurd h (by decide))
                refine j_iload (pc := 122) C d_Mo_meaning_122 3 rfl ?_
                refine j_istore (pc := 124) C d_Mo_meaning_124 [1, 2, 3, 0, 4, 5] (by decide) (lc' := [(0, .ref (ar 0)), (1, .long x.1), (3, .int x.2.1), (4, .int x.2.2.1), (5, .int x.2.2.2.1), (6, .int 0)]) rfl ?_
                refine j_iinc (pc := 126) C d_Mo_meaning_126 4 rfl (v := x.2.2.2.1 + 1) (iv ci_1) [1, 2, 3, 4, 0, 5] (by decide) (lc' := [(0, .ref (ar 0)), (1, .long x.1), (3, .int x.2.1), (4, .int x.2.2.1), (5, .int (x.2.2.2.1 + 1)), (6, .int 0)]) rfl ?_
                refine j_goto (pc := 129) C d_Mo_meaning_129 (tgt := 6) rfl ?_
                refine j_lc C (lc' := [(0, .ref (ar 0)), (1, .long x.1), (3, .int x.2.1), (4, .int x.2.2.1), (5, .int (x.2.2.2.1 + 1))]) [0, 1, 2, 3, 4] rfl ?_
                exact k6_ih (x.1, x.2.1, x.2.2.1, x.2.2.2.1 + 1, x.2.2.2.2) hf
              · rw [if_neg h25] at hf
                refine j_iload_n (pc := 72) C d_Mo_meaning_72 rfl 2 rfl ?_
                refine j_aload_n (pc := 73) C d_Mo_meaning_73 rfl 0 rfl ?_
                refine j_get (pc := 74) C d_Mo_meaning_74 0 18 wR_o0 rfl (v := .ref (ar 15)) rfl (by decide) tw960 ?_
                refine j_iload (pc := 77) C d_Mo_meaning_77 4 rfl ?_
                obtain ⟨b26, hf⟩ := og hf
                refine j_iald (pc := 79) C d_Mo_meaning_79 15 (inb_in b26) (x := x.2.2.2.2.1 15 x.2.2.2.1.toNatClampNeg) wR_a15 rfl ?_
                refine j_icmp_ge (pc := 80) C d_Mo_meaning_80 (tgt := 87) rfl (fun h27 => ?_) (fun h27 => ?_)
                · rw [if_pos h27] at hf
                  refine j_iconst (pc := 87) C d_Mo_meaning_87 ck_0 ?_
                  refine j_istore (pc := 88) C d_Mo_meaning_88 [1, 2, 3, 4, 5, 0] (by decide) (lc' := [(0, .ref (ar 0)), (1, .long x.1), (3, .int x.2.1), (4, .int x.2.2.1), (5, .int x.2.2.2.1), (6, .int 0)]) rfl ?_
                  refine j_iload (pc := 90) C d_Mo_meaning_90 5 rfl ?_
                  refine j_if_eq (pc := 92) C d_Mo_meaning_92 (tgt := 122) rfl (fun _ => ?_) (fun h => absurd h (by decide))
                  refine j_iload (pc := 122) C d_Mo_meaning_122 3 rfl ?_
                  refine j_istore (pc := 124) C d_Mo_meaning_124 [1, 2, 3, 0, 4, 5] (by decide) (lc' := [(0, .ref (ar 0)), (1, .long x.1), (3, .int x.2.1), (4, .int x.2.2.1), (5, .int x.2.2.2.1), (6, .int 0)]) rfl ?_
                  refine j_iinc (pc := 126) C d_Mo_meaning_126 4 rfl (v := x.2.2.2.1 + 1) (iv ci_1) [1, 2, 3, 4, 0, 5] (by decide) (lc' := [(0, .ref (ar 0)), (1, .long x.1), (3, .int x.2.1), (4, .int x.2.2.1), (5, .int (x.2.2.2.1 + 1)), (6, .int 0)]) rfl ?_
                  refine j_goto (pc := 129) C d_Mo_meaning_129 (tgt := 6) rfl ?_
                  refine j_lc C (lc' := [(0, .ref (ar 0)), (1, .long x.1), (3, .int x.2.1), (4, .int x.2.2.1), (5, .int (x.2.2.2.1 + 1))]) [0, 1, 2, 3, 4] rfl ?_
                  exact k6_ih (x.1, x.2.1, x.2.2.1, x.2.2.2.1 + 1, x.2.2.2.2) hf
                · rw [if_neg h27] at hf
                  refine j_iconst (pc := 83) C d_Mo_meaning_83 ck_1 ?_
                  refine j_goto (pc := 84) C d_Mo_meaning_84 (tgt := 88) rfl ?_
                  refine j_istore (pc := 88) C d_Mo_meaning_88 [1, 2, 3, 4, 5, 0] (by decide) (lc' := [(0, .ref (ar 0)), (1, .long x.1), (3, .int x.2.1), (4, .int x.2.2.1), (5, .int x.2.2.2.1), (6, .int 1)]) rfl ?_
                  refine j_iload (pc := 90) C d_Mo_meaning_90 5 rfl ?_
                  refine j_if_eq (pc := 92) C d_Mo_meaning_92 (tgt := 122) rfl (fun h => absurd h (by decide)) (fun _ => ?_)
                  refine j_iload (pc := 95) C d_Mo_meaning_95 3 rfl ?_
                  refine j_if_lt (pc := 97) C d_Mo_meaning_97 (tgt := 117) rfl (fun h28 => ?_) (fun h28 => ?_)
                  · rw [if_pos h28] at hf
                    refine j_iload (pc := 117) C d_Mo_meaning_117 4 rfl ?_
                    refine j_goto (pc := 119) C d_Mo_meaning_119 (tgt := 124) rfl ?_
                    refine j_istore (pc := 124) C d_Mo_meaning_124 [1, 2, 3, 0, 4, 5] (by decide) (lc' := [(0, .ref (ar 0)), (1, .long x.1), (3, .int x.2.1), (4, .int x.2.2.2.1), (5, .int x.2.2.2.1), (6, .int 1)]) rfl ?_
                    refine j_iinc (pc := 126) C d_Mo_meaning_126 4 rfl (v := x.2.2.2.1 + 1) (iv ci_1) [1, 2, 3, 4, 0, 5] (by decide) (lc' := [(0, .ref (ar 0)), (1, .long x.1), (3, .int x.2.1), (4, .int x.2.2.2.1), (5, .int (x.2.2.2.1 + 1)), (6, .int 1)]) rfl ?_
                    refine j_goto (pc := 129) C d_Mo_meaning_129 (tgt := 6) rfl ?_
                    refine j_lc C (lc' := [(0, .ref (ar 0)), (1, .long x.1), (3, .int x.2.1), (4, .int x.2.2.2.1), (5, .int (x.2.2.2.1 + 1))]) [0, 1, 2, 3, 4] rfl ?_
                    exact k6_ih (x.1, x.2.1, x.2.2.2.1, x.2.2.2.1 + 1, x.2.2.2.2) hf
                  · rw [if_neg h28] at hf
                    refine j_aload_n (pc := 100) C d_Mo_meaning_100 rfl 0 rfl ?_
                    refine j_get (pc := 101) C d_Mo_meaning_101 0 17 wR_o0 rfl (v := .ref (ar 14)) rfl (by decide) tw959 ?_
                    refine j_iload (pc := 104) C d_Mo_meaning_104 4 rfl ?_
                    obtain ⟨b29, hf⟩ := og hf
                    refine j_iald (pc := 106) C d_Mo_meaning_106 14 (inb_in b29) (x := x.2.2.2.2.1 14 x.2.2.2.1.toNatClampNeg) wR_a14 rfl ?_
                    refine j_aload_n (pc := 107) C d_Mo_meaning_107 rfl 0 rfl ?_
                    refine j_get (pc := 108) C d_Mo_meaning_108 0 17 wR_o0 rfl (v := .ref (ar 14)) rfl (by decide) tw959 ?_
                    refine j_iload (pc := 111) C d_Mo_meaning_111 3 rfl ?_
                    obtain ⟨b30, hf⟩ := og hf
                    refine j_iald (pc := 113) C d_Mo_meaning_113 14 (inb_in b30) (x := x.2.2.2.2.1 14 x.2.2.1.toNatClampNeg) wR_a14 rfl ?_
                    refine j_icmp_lt (pc := 114) C d_Mo_meaning_114 (tgt := 122) rfl (fun h31 => ?_) (fun h31 => ?_)
                    · rw [if_pos h31] at hf
                      refine j_iload (pc := 122) C d_Mo_meaning_122 3 rfl ?_
                      refine j_istore (pc := 124) C d_Mo_meaning_124 [1, 2, 3, 0, 4, 5] (by decide) (lc' := [(0, .ref (ar 0)), (1, .long x.1), (3, .int x.2.1), (4, .int x.2.2.1), (5, .int x.2.2.2.1), (6, .int 1)]) rfl ?_
                      refine j_iinc (pc := 126) C d_Mo_meaning_126 4 rfl (v := x.2.2.2.1 + 1) (iv ci_1) [1, 2, 3, 4, 0, 5] (by decide) (lc' := [(0, .ref (ar 0)), (1, .long x.1), (3, .int x.2.1), (4, .int x.2.2.1), (5, .int (x.2.2.2.1 + 1)), (6, .int 1)]) rfl ?_
                      refine j_goto (pc := 129) C d_Mo_meaning_129 (tgt := 6) rfl ?_
                      refine j_lc C (lc' := [(0, .ref (ar 0)), (1, .long x.1), (3, .int x.2.1), (4, .int x.2.2.1), (5, .int (x.2.2.2.1 + 1))]) [0, 1, 2, 3, 4] rfl ?_
                      exact k6_ih (x.1, x.2.1, x.2.2.1, x.2.2.2.1 + 1, x.2.2.2.2) hf
                    · rw [if_neg h31] at hf
                      refine j_iload (pc := 117) C d_Mo_meaning_117 4 rfl ?_
                      refine j_goto (pc := 119) C d_Mo_meaning_119 (tgt := 124) rfl ?_
                      refine j_istore (pc := 124) C d_Mo_meaning_124 [1, 2, 3, 0, 4, 5] (by decide) (lc' := [(0, .ref (ar 0)), (1, .long x.1), (3, .int x.2.1), (4, .int x.2.2.2.1), (5, .int x.2.2.2.1), (6, .int 1)]) rfl ?_
                      refine j_iinc (pc := 126) C d_Mo_meaning_126 4 rfl (v := x.2.2.2.1 + 1) (iv ci_1) [1, 2, 3, 4, 0, 5] (by decide) (lc' := [(0, .ref (ar 0)), (1, .long x.1), (3, .int x.2.1), (4, .int x.2.2.2.1), (5, .int (x.2.2.2.1 + 1)), (6, .int 1)]) rfl ?_
                      refine j_goto (pc := 129) C d_Mo_meaning_129 (tgt := 6) rfl ?_
                      refine j_lc C (lc' := [(0, .ref (ar 0)), (1, .long x.1), (3, .int x.2.1), (4, .int x.2.2.2.1), (5, .int (x.2.2.2.1 + 1))]) [0, 1, 2, 3, 4] rfl ?_
                      exact k6_ih (x.1, x.2.1, x.2.2.2.1, x.2.2.2.1 + 1, x.2.2.2.2) hf
  unfold f_Mo_meaning at hf
  change 𝒥 0 0 (wR g ar r.1 r.2.1 r.2.2) [(0, .ref (ar 0)), (1, .long a1), (3, .int a3)] [] 0
  refine j_iconst (pc := 0) C d_Mo_meaning_0 ck_m1 ?_
  refine j_istore (pc := 1) C d_Mo_meaning_1 [1, 2, 3, 0] (by decide) (lc' := [(0, .ref (ar 0)), (1, .long a1), (3, .int a3), (4, .int (-1))]) rfl ?_
  refine j_iconst (pc := 3) C d_Mo_meaning_3 ck_0 ?_
  refine j_istore (pc := 4) C d_Mo_meaning_4 [1, 2, 3, 4, 0] (by decide) (lc' := [(0, .ref (ar 0)), (1, .long a1), (3, .int a3), (4, .int (-1)), (5, .int 0)]) rfl ?_
  exact L6 100000 (a1, a3, (-1), 0, r) hf
