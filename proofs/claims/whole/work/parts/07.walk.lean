theorem cv_Gr_readCall : CV y_Gr_readCall b_Gr_readCall 5 (some .boolean) 2 := ⟨⟨tw545, tw9, by decide +kernel⟩, tw544, (sw_ (q := (y_Gr_readCall, 10)) (by decide +kernel) (by decide +kernel))⟩
set_option maxHeartbeats 4000000 in
set_option maxRecDepth 100000 in
theorem c_Gr_readCall {g : GT} {ad : Nat → Nat} {a1 : Int32} {a2 : Int32} {d : DS} {E : Int32 × DS → Option (Int32 × DS)} {n : Nat} (hE : EP g ad n E) {q : Int32 × DS} (hf : f_Gr_readCall E a1 a2 d = some q) : MI g y_Gr_readCall b_Gr_readCall 5 (some .boolean) (rm_Gr_readCall n) [.ref (ad 23), .int a1, .int a2] (wD g ad d.1 d.2) q.1 (wD g ad q.2.1 q.2.2) := by
  refine MI.of (by decide) (Nat.le_of_ble_eq_true rfl) (fun 𝒥 C => ?_)
  have L31 : ∀ (n : Nat) (x : Int32 × Int32 × Int32 × Int32 × DS), lpN (BGr_readCall_31 E) n x = some q → 𝒥 0 0 (wD g ad x.2.2.2.2.1 x.2.2.2.2.2) [(0, .ref (ad 23)), (1, .int x.1), (2, .int x.2.1), (3, .int x.2.2.1), (4, .int x.2.2.2.1)] [] 31 := by
    refine lp_ind (fun k31 k31_ih x hf => ?_)
    unfold BGr_readCall_31 at hf
    refine j_iload (pc := 31) C d_Gr_readCall_31 4 rfl ?_
    refine j_sipush (pc := 33) C d_Gr_readCall_33 cs_240 ?_
    refine j_icmp_gt (pc := 36) C d_Gr_readCall_36 (tgt := 92) rfl (fun h4 => ?_) (fun h4 => ?_)
    · rw [if_pos h4] at hf
      refine j_aload_n (pc := 92) C d_Gr_readCall_92 rfl 0 rfl ?_
      refine j_get (pc := 93) C d_Gr_readCall_93 23 9 wD_o23 rfl (v := .ref (ad 20)) rfl (by decide) tw247 ?_
      refine j_iconst (pc := 96) C d_Gr_readCall_96 ck_3 ?_
      refine j_iload_n (pc := 97) C d_Gr_readCall_97 rfl 1 rfl ?_
      obtain ⟨q5, eq5, hf⟩ := ob hf
      refine j_callVv (pc := 98) C (rest := []) d_Gr_readCall_98 (c_Cd_add (g := g) (ad := ad) eq5) cv_Cd_add tw506 20 rfl rfl cut_same rfl rfl (Nat.le_of_ble_eq_true rfl) (kc2 := 0) (ks2 := 0) (by refine ⟨⟨?_, ?_⟩, ⟨?_, ?_⟩, ?_, ?_⟩ <;> (try dsimp only) <;> omega) ?_
      refine j_iload_n (pc := 101) C d_Gr_readCall_101 rfl 3 rfl ?_
      obtain ⟨b6, hf⟩ := og hf
      cases hf
      exact j_zret (pc := 102) C d_Gr_readCall_102 (isb_n b6) ⟨rfl, rfl⟩ (Nat.le_of_ble_eq_true rfl) (Nat.le_of_ble_eq_true rfl)
    · rw [if_neg h4] at hf
      refine j_iload_n (pc := 39) C d_Gr_readCall_39 rfl 3 rfl ?_
      refine j_if_ne (pc := 40) C d_Gr_readCall_40 (tgt := 92) rfl (fun h7 => ?_) (fun h7 => ?_)
      · rw [if_neg h7] at hf
        refine j_aload_n (pc := 92) C d_Gr_readCall_92 rfl 0 rfl ?_
        refine j_get (pc := 93) C d_Gr_readCall_93 23 9 wD_o23 rfl (v := .ref (ad 20)) rfl (by decide) tw247 ?_
        refine j_iconst (pc := 96) C d_Gr_readCall_96 ck_3 ?_
        refine j_iload_n (pc := 97) C d_Gr_readCall_97 rfl 1 rfl ?_
        obtain ⟨q8, eq8, hf⟩ := ob hf
        refine j_callVv (pc := 98) C (rest := []) d_Gr_readCall_98 (c_Cd_add (g := g) (ad := ad) eq8) cv_Cd_add tw506 20 rfl rfl cut_same rfl rfl (Nat.le_of_ble_eq_true rfl) (kc2 := 0) (ks2 := 0) (by refine ⟨⟨?_, ?_⟩, ⟨?_, ?_⟩, ?_, ?_⟩ <;> (try dsimp only) <;> omega) ?_
        refine j_iload_n (pc := 101) C d_Gr_readCall_101 rfl 3 rfl ?_
        obtain ⟨b9, hf⟩ := og hf
        cases hf
        exact j_zret (pc := 102) C d_Gr_readCall_102 (isb_n b9) ⟨rfl, rfl⟩ (Nat.le_of_ble_eq_true rfl) (Nat.le_of_ble_eq_true rfl)
      · rw [if_pos h7] at hf
        refine j_aload_n (pc := 43) C d_Gr_readCall_43 rfl 0 rfl ?_
        refine j_iload_n (pc := 44) C d_Gr_readCall_44 rfl 2 rfl ?_
        obtain ⟨q10, eq10, hf⟩ := ob hf
        refine j_callVi (pc := 45) C (rest := []) d_Gr_readCall_45 (hE _ _ eq10) cv_Gr_readExpression tw526 23 rfl rfl cut_same rfl rfl (Nat.le_of_ble_eq_true rfl) (kc2 := 0) (ks2 := 0) (by refine ⟨⟨?_, ?_⟩, ⟨?_, ?_⟩, ?_, ?_⟩ <;> (try dsimp only) <;> omega) ?_
        refine j_if_ne (pc := 48) C d_Gr_readCall_48 (tgt := 53) rfl (fun h11 => ?_) (fun h11 => ?_)
        · rw [if_neg h11] at hf
          refine j_aload_n (pc := 53) C d_Gr_readCall_53 rfl 0 rfl ?_
          refine j_get (pc := 54) C d_Gr_readCall_54 23 7 wD_o23 rfl (v := .ref (ad 12)) rfl (by decide) tw245 ?_
          refine j_get (pc := 57) C d_Gr_readCall_57 12 6 wD_o12 rfl (v := .ref (ad 19)) rfl (by decide) tw188 ?_
          refine j_iload_n (pc := 60) C d_Gr_readCall_60 rfl 1 rfl ?_
          refine j_iload (pc := 61) C d_Gr_readCall_61 4 rfl ?_
          obtain ⟨b12, hf⟩ := og hf
          refine j_iast (pc := 63) C d_Gr_readCall_63 19 (inb_in b12) wD_a19 (ws' := wD g ad (va_up q10.2.1 19 (upd (q10.2.1 19) x.1.toNatClampNeg x.2.2.2.1)) q10.2.2) wD_s19 ?_
          refine j_aload_n (pc := 64) C d_Gr_readCall_64 rfl 0 rfl ?_
          refine j_bipush (pc := 65) C d_Gr_readCall_65 cb_41 ?_
          obtain ⟨q13, eq13, hf⟩ := ob hf
          refine j_callVi (pc := 67) C (rest := []) d_Gr_readCall_67 (c_Gr_takeSign (g := g) (ad := ad) eq13) cv_Gr_takeSign tw498 23 rfl rfl cut_same rfl rfl (Nat.le_of_ble_eq_true rfl) (kc2 := 0) (ks2 := 0) (by refine ⟨⟨?_, ?_⟩, ⟨?_, ?_⟩, ?_, ?_⟩ <;> (try dsimp only) <;> omega) ?_
          refine j_istore_n (pc := 70) C d_Gr_readCall_70 rfl [1, 2, 3, 0, 4] (by decide) (lc' := [(0, .ref (ad 23)), (1, .int x.1), (2, .int x.2.1), (3, .int q13.1), (4, .int x.2.2.2.1)]) rfl ?_
          refine j_iload_n (pc := 71) C d_Gr_readCall_71 rfl 3 rfl ?_
          refine j_if_ne (pc := 72) C d_Gr_readCall_72 (tgt := 86) rfl (fun h14 => ?_) (fun h14 => ?_)
          · rw [if_neg h14] at hf
            refine j_iinc (pc := 86) C d_Gr_readCall_86 4 rfl (v := x.2.2.2.1 + 1) (iv ci_1) [1, 2, 3, 4, 0] (by decide) (lc' := [(0, .ref (ad 23)), (1, .int x.1), (2, .int x.2.1), (3, .int q13.1), (4, .int (x.2.2.2.1 + 1))]) rfl ?_
            refine j_goto (pc := 89) C d_Gr_readCall_89 (tgt := 31) rfl ?_
            exact k31_ih (x.1, x.2.1, q13.1, x.2.2.2.1 + 1, q13.2) hf
          · rw [if_pos h14] at hf
            refine j_aload_n (pc := 75) C d_Gr_readCall_75 rfl 0 rfl ?_
            refine j_bipush (pc := 76) C d_Gr_readCall_76 cb_44 ?_
            obtain ⟨q15, eq15, hf⟩ := ob hf
            refine j_callVi (pc := 78) C (rest := []) d_Gr_readCall_78 (c_Gr_takeSign (g := g) (ad := ad) eq15) cv_Gr_takeSign tw498 23 rfl rfl cut_same rfl rfl (Nat.le_of_ble_eq_true rfl) (kc2 := 0) (ks2 := 0) (by refine ⟨⟨?_, ?_⟩, ⟨?_, ?_⟩, ?_, ?_⟩ <;> (try dsimp only) <;> omega) ?_
            refine j_if_ne (pc := 81) C d_Gr_readCall_81 (tgt := 86) rfl (fun h16 => ?_) (fun h16 => ?_)
            · rw [if_neg h16] at hf
              refine j_iinc (pc := 86) C d_Gr_readCall_86 4 rfl (v := x.2.2.2.1 + 1) (iv ci_1) [1, 2, 3, 4, 0] (by decide) (lc' := [(0, .ref (ad 23)), (1, .int x.1), (2, .int x.2.1), (3, .int q13.1), (4, .int (x.2.2.2.1 + 1))]) rfl ?_
              refine j_goto (pc := 89) C d_Gr_readCall_89 (tgt := 31) rfl ?_
              exact k31_ih (x.1, x.2.1, q13.1, x.2.2.2.1 + 1, q15.2) hf
            · rw [if_pos h16] at hf
              refine j_iconst (pc := 84) C d_Gr_readCall_84 ck_0 ?_
              cases hf
              exact j_zret (pc := 85) C d_Gr_readCall_85 rfl ⟨rfl, rfl⟩ (Nat.le_of_ble_eq_true rfl) (Nat.le_of_ble_eq_true rfl)
        · rw [if_pos h11] at hf
          refine j_iconst (pc := 51) C d_Gr_readCall_51 ck_0 ?_
          cases hf
          exact j_zret (pc := 52) C d_Gr_readCall_52 rfl ⟨rfl, rfl⟩ (Nat.le_of_ble_eq_true rfl) (Nat.le_of_ble_eq_true rfl)
  unfold f_Gr_readCall at hf
  change 𝒥 0 0 (wD g ad d.1 d.2) [(0, .ref (ad 23)), (1, .int a1), (2, .int a2)] [] 0
  refine j_aload_n (pc := 0) C d_Gr_readCall_0 rfl 0 rfl ?_
  refine j_get (pc := 1) C d_Gr_readCall_1 23 7 wD_o23 rfl (v := .ref (ad 12)) rfl (by decide) tw245 ?_
  refine j_get (pc := 4) C d_Gr_readCall_4 12 0 wD_o12 rfl (v := .ref (ad 13)) rfl (by decide) tw173 ?_
  refine j_iload_n (pc := 7) C d_Gr_readCall_7 rfl 1 rfl ?_
  refine j_bipush (pc := 8) C d_Gr_readCall_8 cb_6 ?_
  obtain ⟨b1, hf⟩ := og hf
  refine j_iast (pc := 10) C d_Gr_readCall_10 13 (inb_in b1) wD_a13 (ws' := wD g ad (va_up d.1 13 (upd (d.1 13) a1.toNatClampNeg 6)) d.2) wD_s13 ?_
  refine j_aload_n (pc := 11) C d_Gr_readCall_11 rfl 0 rfl ?_
  refine j_get (pc := 12) C d_Gr_readCall_12 23 7 wD_o23 rfl (v := .ref (ad 12)) rfl (by decide) tw245 ?_
  refine j_get (pc := 15) C d_Gr_readCall_15 12 6 wD_o12 rfl (v := .ref (ad 19)) rfl (by decide) tw188 ?_
  refine j_iload_n (pc := 18) C d_Gr_readCall_18 rfl 1 rfl ?_
  refine j_iconst (pc := 19) C d_Gr_readCall_19 ck_0 ?_
  obtain ⟨b2, hf⟩ := og hf
  refine j_iast (pc := 20) C d_Gr_readCall_20 19 (inb_in b2) wD_a19 (ws' := wD g ad (va_up (va_up d.1 13 (upd (d.1 13) a1.toNatClampNeg 6)) 19 (upd (d.1 19) a1.toNatClampNeg 0)) d.2) wD_s19 ?_
  refine j_aload_n (pc := 21) C d_Gr_readCall_21 rfl 0 rfl ?_
  refine j_bipush (pc := 22) C d_Gr_readCall_22 cb_41 ?_
  obtain ⟨q3, eq3, hf⟩ := ob hf
  refine j_callVi (pc := 24) C (rest := []) d_Gr_readCall_24 (c_Gr_takeSign (g := g) (ad := ad) eq3) cv_Gr_takeSign tw498 23 rfl rfl cut_same rfl rfl (Nat.le_of_ble_eq_true rfl) (kc2 := 0) (ks2 := 0) (by refine ⟨⟨?_, ?_⟩, ⟨?_, ?_⟩, ?_, ?_⟩ <;> (try dsimp only) <;> omega) ?_
  refine j_istore_n (pc := 27) C d_Gr_readCall_27 rfl [1, 2, 3, 0] (by decide) (lc' := [(0, .ref (ad 23)), (1, .int a1), (2, .int a2), (3, .int q3.1)]) rfl ?_
  refine j_iconst (pc := 28) C d_Gr_readCall_28 ck_1 ?_
  refine j_istore (pc := 29) C d_Gr_readCall_29 [1, 2, 3, 4, 0] (by decide) (lc' := [(0, .ref (ad 23)), (1, .int a1), (2, .int a2), (3, .int q3.1), (4, .int 1)]) rfl ?_
  exact L31 100000 (a1, a2, q3.1, 1, q3.2) hf
theorem cv_Gr_readFactor : CV y_Gr_readFactor b_Gr_readFactor 4 (some .boolean) 1 := ⟨⟨tw541, tw9, by decide +kernel⟩, tw540, (sw_ (q := (y_Gr_readFactor, 10)) (by decide +kernel) (by decide +kernel))⟩
set_option maxHeartbeats 4000000 in
set_option maxRecDepth 100000 in
theorem c_Gr_readFactor {g : GT} {ad : Nat → Nat} {a1 : Int32} {d : DS} {E : Int32 × DS → Option (Int32 × DS)} {n : Nat} (hE : EP g ad n E) {q : Int32 × DS} (hf : f_Gr_readFactor E a1 d = some q) : MI g y_Gr_readFactor b_Gr_readFactor 4 (some .boolean) (rm_Gr_readFactor n) [.ref (ad 23), .int a1] (wD g ad d.1 d.2) q.1 (wD g ad q.2.1 q.2.2) := by
  refine MI.of (by decide) (Nat.le_of_ble_eq_true rfl) (fun 𝒥 C => ?_)
  unfold f_Gr_readFactor at hf
  change 𝒥 0 0 (wD g ad d.1 d.2) [(0, .ref (ad 23)), (1, .int a1)] [] 0
  refine j_aload_n (pc := 0) C d_Gr_readFactor_0 rfl 0 rfl ?_
  refine j_get (pc := 1) C d_Gr_readFactor_1 23 0 wD_o23 rfl (v := .int (d.2 7)) rfl (by decide) tw237 ?_
  refine j_istore_n (pc := 4) C d_Gr_readFactor_4 rfl [1, 2, 0] (by decide) (lc' := [(0, .ref (ad 23)), (1, .int a1), (2, .int (d.2 7))]) rfl ?_
  refine j_iload_n (pc := 5) C d_Gr_readFactor_5 rfl 2 rfl ?_
  refine j_aload_n (pc := 6) C d_Gr_readFactor_6 rfl 0 rfl ?_
  refine j_get (pc := 7) C d_Gr_readFactor_7 23 1 wD_o23 rfl (v := .int (d.2 8)) rfl (by decide) tw239 ?_
  refine j_icmp_ge (pc := 10) C d_Gr_readFactor_10 (tgt := 55) rfl (fun h1 => ?_) (fun h1 => ?_)
  · rw [if_pos h1] at hf
    refine j_aload_n (pc := 55) C d_Gr_readFactor_55 rfl 0 rfl ?_
    refine j_iconst (pc := 56) C d_Gr_readFactor_56 ck_4 ?_
    obtain ⟨q2, eq2, hf⟩ := ob hf
    refine j_callVi (pc := 57) C (rest := []) d_Gr_readFactor_57 (c_Gr_takeName (g := g) (ad := ad) eq2) cv_Gr_takeName tw490 23 rfl rfl cut_same rfl rfl (Nat.le_of_ble_eq_true rfl) (kc2 := 0) (ks2 := 0) (by refine ⟨⟨?_, ?_⟩, ⟨?_, ?_⟩, ?_, ?_⟩ <;> (try dsimp only) <;> omega) ?_
    refine j_istore_n (pc := 60) C d_Gr_readFactor_60 rfl [1, 2, 3, 0] (by decide) (lc' := [(0, .ref (ad 23)), (1, .int a1), (2, .int (d.2 7)), (3, .int q2.1)]) rfl ?_
    refine j_iload_n (pc := 61) C d_Gr_readFactor_61 rfl 1 rfl ?_
    refine j_iconst (pc := 62) C d_Gr_readFactor_62 ck_4 ?_
    refine j_icmp_ge (pc := 63) C d_Gr_readFactor_63 (tgt := 115) rfl (fun h3 => ?_) (fun h3 => ?_)
    · rw [if_pos h3] at hf
      refine j_iload_n (pc := 115) C d_Gr_readFactor_115 rfl 3 rfl ?_
      refine j_if_eq (pc := 116) C d_Gr_readFactor_116 (tgt := 128) rfl (fun h4 => ?_) (fun h4 => ?_)
      · rw [if_pos h4] at hf
        refine j_iload_n (pc := 128) C d_Gr_readFactor_128 rfl 3 rfl ?_
        obtain ⟨b5, hf⟩ := og hf
        cases hf
        exact j_zret (pc := 129) C d_Gr_readFactor_129 (isb_n b5) ⟨rfl, rfl⟩ (Nat.le_of_ble_eq_true rfl) (Nat.le_of_ble_eq_true rfl)
      · rw [if_neg h4] at hf
        refine j_aload_n (pc := 119) C d_Gr_readFactor_119 rfl 0 rfl ?_
        refine j_get (pc := 120) C d_Gr_readFactor_120 23 9 wD_o23 rfl (v := .ref (ad 20)) rfl (by decide) tw247 ?_
        refine j_iconst (pc := 123) C d_Gr_readFactor_123 ck_1 ?_
        refine j_iload_n (pc := 124) C d_Gr_readFactor_124 rfl 2 rfl ?_
        obtain ⟨q6, eq6, hf⟩ := ob hf
        refine j_callVv (pc := 125) C (rest := []) d_Gr_readFactor_125 (c_Cd_add (g := g) (ad := ad) eq6) cv_Cd_add tw506 20 rfl rfl cut_same rfl rfl (Nat.le_of_ble_eq_true rfl) (kc2 := 0) (ks2 := 0) (by refine ⟨⟨?_, ?_⟩, ⟨?_, ?_⟩, ?_, ?_⟩ <;> (try dsimp only) <;> omega) ?_
        refine j_iload_n (pc := 128) C d_Gr_readFactor_128 rfl 3 rfl ?_
        obtain ⟨b7, hf⟩ := og hf
        cases hf
        exact j_zret (pc := 129) C d_Gr_readFactor_129 (isb_n b7) ⟨rfl, rfl⟩ (Nat.le_of_ble_eq_true rfl) (Nat.le_of_ble_eq_true rfl)
    · rw [if_neg h3] at hf
      refine j_aload_n (pc := 66) C d_Gr_readFactor_66 rfl 0 rfl ?_
      refine j_bipush (pc := 67) C d_Gr_readFactor_67 cb_40 ?_
      obtain ⟨q8, eq8, hf⟩ := ob hf
      refine j_callVi (pc := 69) C (rest := []) d_Gr_readFactor_69 (c_Gr_takeSign (g := g) (ad := ad) eq8) cv_Gr_takeSign tw498 23 rfl rfl cut_same rfl rfl (Nat.le_of_ble_eq_true rfl) (kc2 := 0) (ks2 := 0) (by refine ⟨⟨?_, ?_⟩, ⟨?_, ?_⟩, ?_, ?_⟩ <;> (try dsimp only) <;> omega) ?_
      refine j_if_eq (pc := 72) C d_Gr_readFactor_72 (tgt := 115) rfl (fun h9 => ?_) (fun h9 => ?_)
      · rw [if_pos h9] at hf
        refine j_iload_n (pc := 115) C d_Gr_readFactor_115 rfl 3 rfl ?_
        refine j_if_eq (pc := 116) C d_Gr_readFactor_116 (tgt := 128) rfl (fun h10 => ?_) (fun h10 => ?_)
        · rw [if_pos h10] at hf
          refine j_iload_n (pc := 128) C d_Gr_readFactor_128 rfl 3 rfl ?_
          obtain ⟨b11, hf⟩ := og hf
          cases hf
          exact j_zret (pc := 129) C d_Gr_readFactor_129 (isb_n b11) ⟨rfl, rfl⟩ (Nat.le_of_ble_eq_true rfl) (Nat.le_of_ble_eq_true rfl)
        · rw [if_neg h10] at hf
          refine j_aload_n (pc := 119) C d_Gr_readFactor_119 rfl 0 rfl ?_
          refine j_get (pc := 120) C d_Gr_readFactor_120 23 9 wD_o23 rfl (v := .ref (ad 20)) rfl (by decide) tw247 ?_
          refine j_iconst (pc := 123) C d_Gr_readFactor_123 ck_1 ?_
          refine j_iload_n (pc := 124) C d_Gr_readFactor_124 rfl 2 rfl ?_
          obtain ⟨q12, eq12, hf⟩ := ob hf
          refine j_callVv (pc := 125) C (rest := []) d_Gr_readFactor_125 (c_Cd_add (g := g) (ad := ad) eq12) cv_Cd_add tw506 20 rfl rfl cut_same rfl rfl (Nat.le_of_ble_eq_true rfl) (kc2 := 0) (ks2 := 0) (by refine ⟨⟨?_, ?_⟩, ⟨?_, ?_⟩, ?_, ?_⟩ <;> (try dsimp only) <;> omega) ?_
          refine j_iload_n (pc := 128) C d_Gr_readFactor_128 rfl 3 rfl ?_
          obtain ⟨b13, hf⟩ := og hf
          cases hf
          exact j_zret (pc := 129) C d_Gr_readFactor_129 (isb_n b13) ⟨rfl, rfl⟩ (Nat.le_of_ble_eq_true rfl) (Nat.le_of_ble_eq_true rfl)
      · rw [if_neg h9] at hf
        refine j_iload_n (pc := 75) C d_Gr_readFactor_75 rfl 3 rfl ?_
        refine j_if_eq (pc := 76) C d_Gr_readFactor_76 (tgt := 90) rfl (fun h14 => ?_) (fun h14 => ?_)
        · rw [if_pos h14] at hf
          refine j_aload_n (pc := 90) C d_Gr_readFactor_90 rfl 0 rfl ?_
          refine j_iload_n (pc := 91) C d_Gr_readFactor_91 rfl 1 rfl ?_
          refine j_iconst (pc := 92) C d_Gr_readFactor_92 ck_1 ?_
          refine j_iadd (pc := 93) C d_Gr_readFactor_93 ?_
          obtain ⟨q15, eq15, hf⟩ := ob hf
          refine j_callVi (pc := 94) C (rest := []) d_Gr_readFactor_94 (hE _ _ eq15) cv_Gr_readExpression tw526 23 rfl rfl cut_same rfl rfl (Nat.le_of_ble_eq_true rfl) (kc2 := 0) (ks2 := 0) (by refine ⟨⟨?_, ?_⟩, ⟨?_, ?_⟩, ?_, ?_⟩ <;> (try dsimp only) <;> omega) ?_
          refine j_if_eq (pc := 97) C d_Gr_readFactor_97 (tgt := 113) rfl (fun h16 => ?_) (fun h16 => ?_)
          · rw [if_pos h16] at hf
            refine j_iconst (pc := 113) C d_Gr_readFactor_113 ck_0 ?_
            cases hf
            exact j_zret (pc := 114) C d_Gr_readFactor_114 rfl ⟨rfl, rfl⟩ (Nat.le_of_ble_eq_true rfl) (Nat.le_of_ble_eq_true rfl)
          · rw [if_neg h16] at hf
            refine j_aload_n (pc := 100) C d_Gr_readFactor_100 rfl 0 rfl ?_
            refine j_bipush (pc := 101) C d_Gr_readFactor_101 cb_41 ?_
            obtain ⟨q17, eq17, hf⟩ := ob hf
            refine j_callVi (pc := 103) C (rest := []) d_Gr_readFactor_103 (c_Gr_takeSign (g := g) (ad := ad) eq17) cv_Gr_takeSign tw498 23 rfl rfl cut_same rfl rfl (Nat.le_of_ble_eq_true rfl) (kc2 := 0) (ks2 := 0) (by refine ⟨⟨?_, ?_⟩, ⟨?_, ?_⟩, ?_, ?_⟩ <;> (try dsimp only) <;> omega) ?_
            refine j_if_eq (pc := 106) C d_Gr_readFactor_106 (tgt := 113) rfl (fun h18 => ?_) (fun h18 => ?_)
            · rw [if_pos h18] at hf
              refine j_iconst (pc := 113) C d_Gr_readFactor_113 ck_0 ?_
              cases hf
              exact j_zret (pc := 114) C d_Gr_readFactor_114 rfl ⟨rfl, rfl⟩ (Nat.le_of_ble_eq_true rfl) (Nat.le_of_ble_eq_true rfl)
            · rw [if_neg h18] at hf
              refine j_iconst (pc := 109) C d_Gr_readFactor_109 ck_1 ?_
              refine j_goto (pc := 110) C d_Gr_readFactor_110 (tgt := 114) rfl ?_
              cases hf
              exact j_zret (pc := 114) C d_Gr_readFactor_114 rfl ⟨rfl, rfl⟩ (Nat.le_of_ble_eq_true rfl) (Nat.le_of_ble_eq_true rfl)
        · rw [if_neg h14] at hf
          refine j_aload_n (pc := 79) C d_Gr_readFactor_79 rfl 0 rfl ?_
          refine j_iload_n (pc := 80) C d_Gr_readFactor_80 rfl 2 rfl ?_
          refine j_iload_n (pc := 81) C d_Gr_readFactor_81 rfl 1 rfl ?_
          refine j_iconst (pc := 82) C d_Gr_readFactor_82 ck_1 ?_
          refine j_iadd (pc := 83) C d_Gr_readFactor_83 ?_
          obtain ⟨q19, eq19, hf⟩ := ob hf
          refine j_callVi (pc := 84) C (rest := []) d_Gr_readFactor_84 (c_Gr_readCall (g := g) (ad := ad) hE eq19) cv_Gr_readCall tw542 23 rfl rfl cut_same rfl rfl (Nat.le_of_ble_eq_true rfl) (kc2 := 0) (ks2 := 0) (by refine ⟨⟨?_, ?_⟩, ⟨?_, ?_⟩, ?_, ?_⟩ <;> (try dsimp only) <;> omega) ?_
          refine j_goto (pc := 87) C d_Gr_readFactor_87 (tgt := 114) rfl ?_
          obtain ⟨b20, hf⟩ := og hf
          cases hf
          exact j_zret (pc := 114) C d_Gr_readFactor_114 (isb_n b20) ⟨rfl, rfl⟩ (Nat.le_of_ble_eq_true rfl) (Nat.le_of_ble_eq_true rfl)
  · rw [if_neg h1] at hf
    refine j_aload_n (pc := 13) C d_Gr_readFactor_13 rfl 0 rfl ?_
    refine j_get (pc := 14) C d_Gr_readFactor_14 23 6 wD_o23 rfl (v := .ref (ad 3)) rfl (by decide) tw244 ?_
    refine j_get (pc := 17) C d_Gr_readFactor_17 3 0 wD_o3 rfl (v := .ref (ad 4)) rfl (by decide) tw109 ?_
    refine j_iload_n (pc := 20) C d_Gr_readFactor_20 rfl 2 rfl ?_
    obtain ⟨b21, hf⟩ := og hf
    refine j_iald (pc := 21) C d_Gr_readFactor_21 4 (inb_in b21) (x := d.1 4 (d.2 7).toNatClampNeg) wD_a4 rfl ?_
    refine j_iconst (pc := 22) C d_Gr_readFactor_22 ck_3 ?_
    refine j_icmp_ne (pc := 23) C d_Gr_readFactor_23 (tgt := 55) rfl (fun h22 => ?_) (fun h22 => ?_)
    · rw [if_neg h22] at hf
      refine j_aload_n (pc := 55) C d_Gr_readFactor_55 rfl 0 rfl ?_
      refine j_iconst (pc := 56) C d_Gr_readFactor_56 ck_4 ?_
      obtain ⟨q23, eq23, hf⟩ := ob hf
      refine j_callVi (pc := 57) C (rest := []) d_Gr_readFactor_57 (c_Gr_takeName (g := g) (ad := ad) eq23) cv_Gr_takeName tw490 23 rfl rfl cut_same rfl rfl (Nat.le_of_ble_eq_true rfl) (kc2 := 0) (ks2 := 0) (by refine ⟨⟨?_, ?_⟩, ⟨?_, ?_⟩, ?_, ?_⟩ <;> (try dsimp only) <;> omega) ?_
      refine j_istore_n (pc := 60) C d_Gr_readFactor_60 rfl [1, 2, 3, 0] (by decide) (lc' := [(0, .ref (ad 23)), (1, .int a1), (2, .int (d.2 7)), (3, .int q23.1)]) rfl ?_
      refine j_iload_n (pc := 61) C d_Gr_readFactor_61 rfl 1 rfl ?_
      refine j_iconst (pc := 62) C d_Gr_readFactor_62 ck_4 ?_
      refine j_icmp_ge (pc := 63) C d_Gr_readFactor_63 (tgt := 115) rfl (fun h24 => ?_) (fun h24 => ?_)
      · rw [if_pos h24] at hf
        refine j_iload_n (pc := 115) C d_Gr_readFactor_115 rfl 3 rfl ?_
        refine j_if_eq (pc := 116) C d_Gr_readFactor_116 (tgt := 128) rfl (fun h25 => ?_) (fun h25 => ?_)
        · rw [if_pos h25] at hf
          refine j_iload_n (pc := 128) C d_Gr_readFactor_128 rfl 3 rfl ?_
          obtain ⟨b26, hf⟩ := og hf
          cases hf
          exact j_zret (pc := 129) C d_Gr_readFactor_129 (isb_n b26) ⟨rfl, rfl⟩ (Nat.le_of_ble_eq_true rfl) (Nat.le_of_ble_eq_true rfl)
        · rw [if_neg h25] at hf
          refine j_aload_n (pc := 119) C d_Gr_readFactor_119 rfl 0 rfl ?_
          refine j_get (pc := 120) C d_Gr_readFactor_120 23 9 wD_o23 rfl (v := .ref (ad 20)) rfl (by decide) tw247 ?_
          refine j_iconst (pc := 123) C d_Gr_readFactor_123 ck_1 ?_
          refine j_iload_n (pc := 124) C d_Gr_readFactor_124 rfl 2 rfl ?_
          obtain ⟨q27, eq27, hf⟩ := ob hf
          refine j_callVv (pc := 125) C (rest := []) d_Gr_readFactor_125 (c_Cd_add (g := g) (ad := ad) eq27) cv_Cd_add tw506 20 rfl rfl cut_same rfl rfl (Nat.le_of_ble_eq_true rfl) (kc2 := 0) (ks2 := 0) (by refine ⟨⟨?_, ?_⟩, ⟨?_, ?_⟩, ?_, ?_⟩ <;> (try dsimp only) <;> omega) ?_
          refine j_iload_n (pc := 128) C d_Gr_readFactor_128 rfl 3 rfl ?_
          obtain ⟨b28, hf⟩ := og hf
          cases hf
          exact j_zret (pc := 129) C d_Gr_readFactor_129 (isb_n b28) ⟨rfl, rfl⟩ (Nat.le_of_ble_eq_true rfl) (Nat.le_of_ble_eq_true rfl)
      · rw [if_neg h24] at hf
        refine j_aload_n (pc := 66) C d_Gr_readFactor_66 rfl 0 rfl ?_
        refine j_bipush (pc := 67) C d_Gr_readFactor_67 cb_40 ?_
        obtain ⟨q29, eq29, hf⟩ := ob hf
        refine j_callVi (pc := 69) C (rest := []) d_Gr_readFactor_69 (c_Gr_takeSign (g := g) (ad := ad) eq29) cv_Gr_takeSign tw498 23 rfl rfl cut_same rfl rfl (Nat.le_of_ble_eq_true rfl) (kc2 := 0) (ks2 := 0) (by refine ⟨⟨?_, ?_⟩, ⟨?_, ?_⟩, ?_, ?_⟩ <;> (try dsimp only) <;> omega) ?_
        refine j_if_eq (pc := 72) C d_Gr_readFactor_72 (tgt := 115) rfl (fun h30 => ?_) (fun h30 => ?_)
        · rw [if_pos h30] at hf
          refine j_iload_n (pc := 115) C d_Gr_readFactor_115 rfl 3 rfl ?_
          refine j_if_eq (pc := 116) C d_Gr_readFactor_116 (tgt := 128) rfl (fun h31 => ?_) (fun h31 => ?_)
          · rw [if_pos h31] at hf
            refine j_iload_n (pc := 128) C d_Gr_readFactor_128 rfl 3 rfl ?_
            obtain ⟨b32, hf⟩ := og hf
            cases hf
            exact j_zret (pc := 129) C d_Gr_readFactor_129 (isb_n b32) ⟨rfl, rfl⟩ (Nat.le_of_ble_eq_true rfl) (Nat.le_of_ble_eq_true rfl)
          · rw [if_neg h31] at hf
            refine j_aload_n (pc := 119) C d_Gr_readFactor_119 rfl 0 rfl ?_
            refine j_get (pc := 120) C d_Gr_readFactor_120 23 9 wD_o23 rfl (v := .ref (ad 20)) rfl (by decide) tw247 ?_
            refine j_iconst (pc := 123) C d_Gr_readFactor_123 ck_1 ?_
            refine j_iload_n (pc := 124) C d_Gr_readFactor_124 rfl 2 rfl ?_
            obtain ⟨q33, eq33, hf⟩ := ob hf
            refine j_callVv (pc := 125) C (rest := []) d_Gr_readFactor_125 (c_Cd_add (g := g) (ad := ad) eq33) cv_Cd_add tw506 20 rfl rfl cut_same rfl rfl (Nat.le_of_ble_eq_true rfl) (kc2 := 0) (ks2 := 0) (by refine ⟨⟨?_, ?_⟩, ⟨?_, ?_⟩, ?_, ?_⟩ <;> (try dsimp only) <;> omega) ?_
            refine j_iload_n (pc := 128) C d_Gr_readFactor_128 rfl 3 rfl ?_
            obtain ⟨b34, hf⟩ := og hf
            cases hf
            exact j_zret (pc := 129) C d_Gr_readFactor_129 (isb_n b34) ⟨rfl, rfl⟩ (Nat.le_of_ble_eq_true rfl) (Nat.le_of_ble_eq_true rfl)
        · rw [if_neg h30] at hf
          refine j_iload_n (pc := 75) C d_Gr_readFactor_75 rfl 3 rfl ?_
          refine j_if_eq (pc := 76) C d_Gr_readFactor_76 (tgt := 90) rfl (fun h35 => ?_) (fun h35 => ?_)
          · rw [if_pos h35] at hf
            refine j_aload_n (pc := 90) C d_Gr_readFactor_90 rfl 0 rfl ?_
            refine j_iload_n (pc := 91) C d_Gr_readFactor_91 rfl 1 rfl ?_
            refine j_iconst (pc := 92) C d_Gr_readFactor_92 ck_1 ?_
            refine j_iadd (pc := 93) C d_Gr_readFactor_93 ?_
            obtain ⟨q36, eq36, hf⟩ := ob hf
            refine j_callVi (pc := 94) C (rest := []) d_Gr_readFactor_94 (hE _ _ eq36) cv_Gr_readExpression tw526 23 rfl rfl cut_same rfl rfl (Nat.le_of_ble_eq_true rfl) (kc2 := 0) (ks2 := 0) (by refine ⟨⟨?_, ?_⟩, ⟨?_, ?_⟩, ?_, ?_⟩ <;> (try dsimp only) <;> omega) ?_
            refine j_if_eq (pc := 97) C d_Gr_readFactor_97 (tgt := 113) rfl (fun h37 => ?_) (fun h37 => ?_)
            · rw [if_pos h37] at hf
              refine j_iconst (pc := 113) C d_Gr_readFactor_113 ck_0 ?_
              cases hf
              exact j_zret (pc := 114) C d_Gr_readFactor_114 rfl ⟨rfl, rfl⟩ (Nat.le_of_ble_eq_true rfl) (Nat.le_of_ble_eq_true rfl)
            · rw [if_neg h37] at hf
              refine j_aload_n (pc := 100) C d_Gr_readFactor_100 rfl 0 rfl ?_
              refine j_bipush (pc := 101) C d_Gr_readFactor_101 cb_41 ?_
              obtain ⟨q38, eq38, hf⟩ := ob hf
              refine j_callVi (pc := 103) C (rest := []) d_Gr_readFactor_103 (c_Gr_takeSign (g := g) (ad := ad) eq38) cv_Gr_takeSign tw498 23 rfl rfl cut_same rfl rfl (Nat.le_of_ble_eq_true rfl) (kc2 := 0) (ks2 := 0) (by refine ⟨⟨?_, ?_⟩, ⟨?_, ?_⟩, ?_, ?_⟩ <;> (try dsimp only) <;> omega) ?_
              refine j_if_eq (pc := 106) C d_Gr_readFactor_106 (tgt := 113) rfl (fun h39 => ?_) (fun h39 => ?_)
              · rw [if_pos h39] at hf
                refine j_iconst (pc := 113) C d_Gr_readFactor_113 ck_0 ?_
                cases hf
                exact j_zret (pc := 114) C d_Gr_readFactor_114 rfl ⟨rfl, rfl⟩ (Nat.le_of_ble_eq_true rfl) (Nat.le_of_ble_eq_true rfl)
              · rw [if_neg h39] at hf
                refine j_iconst (pc := 109) C d_Gr_readFactor_109 ck_1 ?_
                refine j_goto (pc := 110) C d_Gr_readFactor_110 (tgt := 114) rfl ?_
                cases hf
                exact j_zret (pc := 114) C d_Gr_readFactor_114 rfl ⟨rfl, rfl⟩ (Nat.le_of_ble_eq_true rfl) (Nat.le_of_ble_eq_true rfl)
          · rw [if_neg h35] at hf
            refine j_aload_n (pc := 79) C d_Gr_readFactor_79 rfl 0 rfl ?_
            refine j_iload_n (pc := 80) C d_Gr_readFactor_80 rfl 2 rfl ?_
            refine j_iload_n (pc := 81) C d_Gr_readFactor_81 rfl 1 rfl ?_
            refine j_iconst (pc := 82) C d_Gr_readFactor_82 ck_1 ?_
            refine j_iadd (pc := 83) C d_Gr_readFactor_83 ?_
            obtain ⟨q40, eq40, hf⟩ := ob hf
            refine j_callVi (pc := 84) C (rest := []) d_Gr_readFactor_84 (c_Gr_readCall (g := g) (ad := ad) hE eq40) cv_Gr_readCall tw542 23 rfl rfl cut_same rfl rfl (Nat.le_of_ble_eq_true rfl) (kc2 := 0) (ks2 := 0) (by refine ⟨⟨?_, ?_⟩, ⟨?_, ?_⟩, ?_, ?_⟩ <;> (try dsimp only) <;> omega) ?_
            refine j_goto (pc := 87) C d_Gr_readFactor_87 (tgt := 114) rfl ?_
            obtain ⟨b41, hf⟩ := og hf
            cases hf
            exact j_zret (pc := 114) C d_Gr_readFactor_114 (isb_n b41) ⟨rfl, rfl⟩ (Nat.le_of_ble_eq_true rfl) (Nat.le_of_ble_eq_true rfl)
    · rw [if_pos h22] at hf
      refine j_aload_n (pc := 26) C d_Gr_readFactor_26 rfl 0 rfl ?_
      refine j_dup (pc := 27) C d_Gr_readFactor_27 rfl ?_
      refine j_get (pc := 28) C d_Gr_readFactor_28 23 0 wD_o23 rfl (v := .int (d.2 7)) rfl (by decide) tw237 ?_
      refine j_iconst (pc := 31) C d_Gr_readFactor_31 ck_1 ?_
      refine j_iadd (pc := 32) C d_Gr_readFactor_32 ?_
      refine j_put (pc := 33) C d_Gr_readFactor_33 23 0 wD_o23 rfl (by decide) tw237 pd_I rfl rfl rfl (Nat.le_of_ble_eq_true rfl) (ws' := wD g ad d.1 (va_up d.2 7 ((d.2 7) + 1))) wD_p23_0 ?_
      refine j_aload_n (pc := 36) C d_Gr_readFactor_36 rfl 0 rfl ?_
      refine j_get (pc := 37) C d_Gr_readFactor_37 23 9 wD_o23 rfl (v := .ref (ad 20)) rfl (by decide) tw247 ?_
      refine j_iconst (pc := 40) C d_Gr_readFactor_40 ck_0 ?_
      refine j_aload_n (pc := 41) C d_Gr_readFactor_41 rfl 0 rfl ?_
      refine j_get (pc := 42) C d_Gr_readFactor_42 23 6 wD_o23 rfl (v := .ref (ad 3)) rfl (by decide) tw244 ?_
      refine j_get (pc := 45) C d_Gr_readFactor_45 3 1 wD_o3 rfl (v := .ref (ad 5)) rfl (by decide) tw115 ?_
      refine j_iload_n (pc := 48) C d_Gr_readFactor_48 rfl 2 rfl ?_
      obtain ⟨b42, hf⟩ := og hf
      refine j_iald (pc := 49) C d_Gr_readFactor_49 5 (inb_in b42) (x := d.1 5 (d.2 7).toNatClampNeg) wD_a5 rfl ?_
      obtain ⟨q43, eq43, hf⟩ := ob hf
      refine j_callVv (pc := 50) C (rest := []) d_Gr_readFactor_50 (c_Cd_add (g := g) (ad := ad) eq43) cv_Cd_add tw506 20 rfl rfl cut_same rfl rfl (Nat.le_of_ble_eq_true rfl) (kc2 := 0) (ks2 := 0) (by refine ⟨⟨?_, ?_⟩, ⟨?_, ?_⟩, ?_, ?_⟩ <;> (try dsimp only) <;> omega) ?_
      refine j_iconst (pc := 53) C d_Gr_readFactor_53 ck_1 ?_
      cases hf
      exact j_zret (pc := 54) C d_Gr_readFactor_54 rfl ⟨rfl, rfl⟩ (Nat.le_of_ble_eq_true rfl) (Nat.le_of_ble_eq_true rfl)
theorem cv_Gr_readTerm : CV y_Gr_readTerm b_Gr_readTerm 3 (some .boolean) 1 := ⟨⟨tw537, tw9, by decide +kernel⟩, tw536, (sw_ (q := (y_Gr_readTerm, 10)) (by decide +kernel) (by decide +kernel))⟩
set_option maxHeartbeats 4000000 in
set_option maxRecDepth 100000 in
theorem c_Gr_readTerm {g : GT} {ad : Nat → Nat} {a1 : Int32} {d : DS} {E : Int32 × DS → Option (Int32 × DS)} {n : Nat} (hE : EP g ad n E) {q : Int32 × DS} (hf : f_Gr_readTerm E a1 d = some q) : MI g y_Gr_readTerm b_Gr_readTerm 3 (some .boolean) (rm_Gr_readTerm n) [.ref (ad 23), .int a1] (wD g ad d.1 d.2) q.1 (wD g ad q.2.1 q.2.2) := by
  refine MI.of (by decide) (Nat.le_of_ble_eq_true rfl) (fun 𝒥 C => ?_)
  have L12 : ∀ (n : Nat) (x : Int32 × Int32 × DS), lpN (BGr_readTerm_12 E) n x = some q → 𝒥 0 0 (wD g ad x.2.2.1 x.2.2.2) [(0, .ref (ad 23)), (1, .int x.1), (2, .int x.2.1)] [] 12 := by
    refine lp_ind (fun k12 k12_ih x hf => ?_)
    unfold BGr_readTerm_12 at hf
    refine j_iload_n (pc := 12) C d_Gr_readTerm_12 rfl 2 rfl ?_
    refine j_sipush (pc := 13) C d_Gr_readTerm_13 cs_240 ?_
    refine j_icmp_ge (pc := 16) C d_Gr_readTerm_16 (tgt := 54) rfl (fun h3 => ?_) (fun h3 => ?_)
    · rw [if_pos h3] at hf
      refine j_iconst (pc := 54) C d_Gr_readTerm_54 ck_1 ?_
      cases hf
      exact j_zret (pc := 55) C d_Gr_readTerm_55 rfl ⟨rfl, rfl⟩ (Nat.le_of_ble_eq_true rfl) (Nat.le_of_ble_eq_true rfl)
    · rw [if_neg h3] at hf
      refine j_aload_n (pc := 19) C d_Gr_readTerm_19 rfl 0 rfl ?_
      refine j_bipush (pc := 20) C d_Gr_readTerm_20 cb_42 ?_
      obtain ⟨q4, eq4, hf⟩ := ob hf
      refine j_callVi (pc := 22) C (rest := []) d_Gr_readTerm_22 (c_Gr_takeSign (g := g) (ad := ad) eq4) cv_Gr_takeSign tw498 23 rfl rfl cut_same rfl rfl (Nat.le_of_ble_eq_true rfl) (kc2 := 0) (ks2 := 0) (by refine ⟨⟨?_, ?_⟩, ⟨?_, ?_⟩, ?_, ?_⟩ <;> (try dsimp only) <;> omega) ?_
      refine j_if_eq (pc := 25) C d_Gr_readTerm_25 (tgt := 54) rfl (fun h5 => ?_) (fun h5 => ?_)
      · rw [if_pos h5] at hf
        refine j_iconst (pc := 54) C d_Gr_readTerm_54 ck_1 ?_
        cases hf
        exact j_zret (pc := 55) C d_Gr_readTerm_55 rfl ⟨rfl, rfl⟩ (Nat.le_of_ble_eq_true rfl) (Nat.le_of_ble_eq_true rfl)
      · rw [if_neg h5] at hf
        refine j_aload_n (pc := 28) C d_Gr_readTerm_28 rfl 0 rfl ?_
        refine j_iload_n (pc := 29) C d_Gr_readTerm_29 rfl 1 rfl ?_
        obtain ⟨q6, eq6, hf⟩ := ob hf
        refine j_callVi (pc := 30) C (rest := []) d_Gr_readTerm_30 (c_Gr_readFactor (g := g) (ad := ad) hE eq6) cv_Gr_readFactor tw538 23 rfl rfl cut_same rfl rfl (Nat.le_of_ble_eq_true rfl) (kc2 := 0) (ks2 := 0) (by refine ⟨⟨?_, ?_⟩, ⟨?_, ?_⟩, ?_, ?_⟩ <;> (try dsimp only) <;> omega) ?_
        refine j_if_ne (pc := 33) C d_Gr_readTerm_33 (tgt := 38) rfl (fun h7 => ?_) (fun h7 => ?_)
        · rw [if_neg h7] at hf
          refine j_aload_n (pc := 38) C d_Gr_readTerm_38 rfl 0 rfl ?_
          refine j_get (pc := 39) C d_Gr_readTerm_39 23 9 wD_o23 rfl (v := .ref (ad 20)) rfl (by decide) tw247 ?_
          refine j_bipush (pc := 42) C d_Gr_readTerm_42 cb_42 ?_
          refine j_iconst (pc := 44) C d_Gr_readTerm_44 ck_0 ?_
          obtain ⟨q8, eq8, hf⟩ := ob hf
          refine j_callVv (pc := 45) C (rest := []) d_Gr_readTerm_45 (c_Cd_add (g := g) (ad := ad) eq8) cv_Cd_add tw506 20 rfl rfl cut_same rfl rfl (Nat.le_of_ble_eq_true rfl) (kc2 := 0) (ks2 := 0) (by refine ⟨⟨?_, ?_⟩, ⟨?_, ?_⟩, ?_, ?_⟩ <;> (try dsimp only) <;> omega) ?_
          refine j_iinc (pc := 48) C d_Gr_readTerm_48 2 rfl (v := x.2.1 + 1) (iv ci_1) [1, 2, 0] (by decide) (lc' := [(0, .ref (ad 23)), (1, .int x.1), (2, .int (x.2.1 + 1))]) rfl ?_
          refine j_goto (pc := 51) C d_Gr_readTerm_51 (tgt := 12) rfl ?_
          exact k12_ih (x.1, x.2.1 + 1, q8) hf
        · rw [if_pos h7] at hf
          refine j_iconst (pc := 36) C d_Gr_readTerm_36 ck_0 ?_
          cases hf
          exact j_zret (pc := 37) C d_Gr_readTerm_37 rfl ⟨rfl, rfl⟩ (Nat.le_of_ble_eq_true rfl) (Nat.le_of_ble_eq_true rfl)
  unfold f_Gr_readTerm at hf
  change 𝒥 0 0 (wD g ad d.1 d.2) [(0, .ref (ad 23)), (1, .int a1)] [] 0
  refine j_aload_n (pc := 0) C d_Gr_readTerm_0 rfl 0 rfl ?_
  refine j_iload_n (pc := 1) C d_Gr_readTerm_1 rfl 1 rfl ?_
  obtain ⟨q1, eq1, hf⟩ := ob hf
  refine j_callVi (pc := 2) C (rest := []) d_Gr_readTerm_2 (c_Gr_readFactor (g := g) (ad := ad) hE eq1) cv_Gr_readFactor tw538 23 rfl rfl cut_same rfl rfl (Nat.le_of_ble_eq_true rfl) (kc2 := 0) (ks2 := 0) (by refine ⟨⟨?_, ?_⟩, ⟨?_, ?_⟩, ?_, ?_⟩ <;> (try dsimp only) <;> omega) ?_
  refine j_if_ne (pc := 5) C d_Gr_readTerm_5 (tgt := 10) rfl (fun h2 => ?_) (fun h2 => ?_)
  · rw [if_neg h2] at hf
    refine j_iconst (pc := 10) C d_Gr_readTerm_10 ck_0 ?_
    refine j_istore_n (pc := 11) C d_Gr_readTerm_11 rfl [1, 2, 0] (by decide) (lc' := [(0, .ref (ad 23)), (1, .int a1), (2, .int 0)]) rfl ?_
    exact L12 100000 (a1, 0, q1.2) hf
  · rw [if_pos h2] at hf
    refine j_iconst (pc := 8) C d_Gr_readTerm_8 ck_0 ?_
    cases hf
    exact j_zret (pc := 9) C d_Gr_readTerm_9 rfl ⟨rfl, rfl⟩ (Nat.le_of_ble_eq_true rfl) (Nat.le_of_ble_eq_true rfl)
theorem cv_Gr_readSum : CV y_Gr_readSum b_Gr_readSum 4 (some .boolean) 1 := ⟨⟨tw533, tw9, by decide +kernel⟩, tw532, (sw_ (q := (y_Gr_readSum, 10)) (by decide +kernel) (by decide +kernel))⟩
set_option maxHeartbeats 4000000 in
set_option maxRecDepth 100000 in
theorem c_Gr_readSum {g : GT} {ad : Nat → Nat} {a1 : Int32} {d : DS} {E : Int32 × DS → Option (Int32 × DS)} {n : Nat} (hE : EP g ad n E) {q : Int32 × DS} (hf : f_Gr_readSum E a1 d = some q) : MI g y_Gr_readSum b_Gr_readSum 4 (some .boolean) (rm_Gr_readSum n) [.ref (ad 23), .int a1] (wD g ad d.1 d.2) q.1 (wD g ad q.2.1 q.2.2) := by
  refine MI.of (by decide) (Nat.le_of_ble_eq_true rfl) (fun 𝒥 C => ?_)
  have L12 : ∀ (n : Nat) (x : Int32 × Int32 × DS), lpN (BGr_readSum_12 E) n x = some q → 𝒥 0 0 (wD g ad x.2.2.1 x.2.2.2) [(0, .ref (ad 23)), (1, .int x.1), (2, .int x.2.1)] [] 12 := by
    refine lp_ind (fun k12 k12_ih x hf => ?_)
    unfold BGr_readSum_12 at hf
    refine j_iload_n (pc := 12) C d_Gr_readSum_12 rfl 2 rfl ?_
    refine j_sipush (pc := 13) C d_Gr_readSum_13 cs_240 ?_
    refine j_icmp_ge (pc := 16) C d_Gr_readSum_16 (tgt := 78) rfl (fun h3 => ?_) (fun h3 => ?_)
    · rw [if_pos h3] at hf
      refine j_iconst (pc := 78) C d_Gr_readSum_78 ck_1 ?_
      cases hf
      exact j_zret (pc := 79) C d_Gr_readSum_79 rfl ⟨rfl, rfl⟩ (Nat.le_of_ble_eq_true rfl) (Nat.le_of_ble_eq_true rfl)
    · rw [if_neg h3] at hf
      refine j_aload_n (pc := 19) C d_Gr_readSum_19 rfl 0 rfl ?_
      refine j_bipush (pc := 20) C d_Gr_readSum_20 cb_43 ?_
      obtain ⟨q4, eq4, hf⟩ := ob hf
      refine j_callVi (pc := 22) C (rest := []) d_Gr_readSum_22 (c_Gr_takeSign (g := g) (ad := ad) eq4) cv_Gr_takeSign tw498 23 rfl rfl cut_same rfl rfl (Nat.le_of_ble_eq_true rfl) (kc2 := 0) (ks2 := 0) (by refine ⟨⟨?_, ?_⟩, ⟨?_, ?_⟩, ?_, ?_⟩ <;> (try dsimp only) <;> omega) ?_
      refine j_if_eq (pc := 25) C d_Gr_readSum_25 (tgt := 33) rfl (fun h5 => ?_) (fun h5 => ?_)
      · rw [if_pos h5] at hf
        refine j_bipush (pc := 33) C d_Gr_readSum_33 cb_45 ?_
        refine j_istore_n (pc := 35) C d_Gr_readSum_35 rfl [1, 2, 3, 0] (by decide) (lc' := [(0, .ref (ad 23)), (1, .int x.1), (2, .int x.2.1), (3, .int 45)]) rfl ?_
        refine j_iload_n (pc := 36) C d_Gr_readSum_36 rfl 3 rfl ?_
        refine j_bipush (pc := 37) C d_Gr_readSum_37 cb_45 ?_
        refine j_icmp_ne (pc := 39) C d_Gr_readSum_39 (tgt := 53) rfl (fun h => absurd h (by decide)) (fun _ => ?_)
        refine j_aload_n (pc := 42) C d_Gr_readSum_42 rfl 0 rfl ?_
        refine j_bipush (pc := 43) C d_Gr_readSum_43 cb_45 ?_
        obtain ⟨q6, eq6, hf⟩ := ob hf
        refine j_callVi (pc := 45) C (rest := []) d_Gr_readSum_45 (c_Gr_takeSign (g := g) (ad := ad) eq6) cv_Gr_takeSign tw498 23 rfl rfl cut_same rfl rfl (Nat.le_of_ble_eq_true rfl) (kc2 := 0) (ks2 := 0) (by refine ⟨⟨?_, ?_⟩, ⟨?_, ?_⟩, ?_, ?_⟩ <;> (try dsimp only) <;> omega) ?_
        refine j_if_ne (pc := 48) C d_Gr_readSum_48 (tgt := 53) rfl (fun h7 => ?_) (fun h7 => ?_)
        · rw [if_neg h7] at hf
          refine j_aload_n (pc := 53) C d_Gr_readSum_53 rfl 0 rfl ?_
          refine j_iload_n (pc := 54) C d_Gr_readSum_54 rfl 1 rfl ?_
          obtain ⟨q8, eq8, hf⟩ := ob hf
          refine j_callVi (pc := 55) C (rest := []) d_Gr_readSum_55 (c_Gr_readTerm (g := g) (ad := ad) hE eq8) cv_Gr_readTerm tw534 23 rfl rfl cut_same rfl rfl (Nat.le_of_ble_eq_true rfl) (kc2 := 0) (ks2 := 0) (by refine ⟨⟨?_, ?_⟩, ⟨?_, ?_⟩, ?_, ?_⟩ <;> (try dsimp only) <;> omega) ?_
          refine j_if_ne (pc := 58) C d_Gr_readSum_58 (tgt := 63) rfl (fun h9 => ?_) (fun h9 => ?_)
          · rw [if_neg h9] at hf
            refine j_aload_n (pc := 63) C d_Gr_readSum_63 rfl 0 rfl ?_
            refine j_get (pc := 64) C d_Gr_readSum_64 23 9 wD_o23 rfl (v := .ref (ad 20)) rfl (by decide) tw247 ?_
            refine j_iload_n (pc := 67) C d_Gr_readSum_67 rfl 3 rfl ?_
            refine j_iconst (pc := 68) C d_Gr_readSum_68 ck_0 ?_
            obtain ⟨q10, eq10, hf⟩ := ob hf
            refine j_callVv (pc := 69) C (rest := []) d_Gr_readSum_69 (c_Cd_add (g := g) (ad := ad) eq10) cv_Cd_add tw506 20 rfl rfl cut_same rfl rfl (Nat.le_of_ble_eq_true rfl) (kc2 := 0) (ks2 := 0) (by refine ⟨⟨?_, ?_⟩, ⟨?_, ?_⟩, ?_, ?_⟩ <;> (try dsimp only) <;> omega) ?_
            refine j_iinc (pc := 72) C d_Gr_readSum_72 2 rfl (v := x.2.1 + 1) (iv ci_1) [1, 2, 0, 3] (by decide) (lc' := [(0, .ref (ad 23)), (1, .int x.1), (2, .int (x.2.1 + 1)), (3, .int 45)]) rfl ?_
            refine j_goto (pc := 75) C d_Gr_readSum_75 (tgt := 12) rfl ?_
            refine j_lc C (lc' := [(0, .ref (ad 23)), (1, .int x.1), (2, .int (x.2.1 + 1))]) [0, 1, 2] rfl ?_
            exact k12_ih (x.1, x.2.1 + 1, q10) hf
          · rw [if_pos h9] at hf
            refine j_iconst (pc := 61) C d_Gr_readSum_61 ck_0 ?_
            cases hf
            exact j_zret (pc := 62) C d_Gr_readSum_62 rfl ⟨rfl, rfl⟩ (Nat.le_of_ble_eq_true rfl) (Nat.le_of_ble_eq_true rfl)
        · rw [if_pos h7] at hf
          refine j_iconst (pc := 51) C d_Gr_readSum_51 ck_1 ?_
          cases hf
          exact j_zret (pc := 52) C d_Gr_readSum_52 rfl ⟨rfl, rfl⟩ (Nat.le_of_ble_eq_true rfl) (Nat.le_of_ble_eq_true rfl)
      · rw [if_neg h5] at hf
        refine j_bipush (pc := 28) C d_Gr_readSum_28 cb_43 ?_
        refine j_goto (pc := 30) C d_Gr_readSum_30 (tgt := 35) rfl ?_
        refine j_istore_n (pc := 35) C d_Gr_readSum_35 rfl [1, 2, 3, 0] (by decide) (lc' := [(0, .ref (ad 23)), (1, .int x.1), (2, .int x.2.1), (3, .int 43)]) rfl ?_
        refine j_iload_n (pc := 36) C d_Gr_readSum_36 rfl 3 rfl ?_
        refine j_bipush (pc := 37) C d_Gr_readSum_37 cb_45 ?_
        refine j_icmp_ne (pc := 39) C d_Gr_readSum_39 (tgt := 53) rfl (fun _ => ?_) (fun h => absurd h (by decide))
        refine j_aload_n (pc := 53) C d_Gr_readSum_53 rfl 0 rfl ?_
        refine j_iload_n (pc := 54) C d_Gr_readSum_54 rfl 1 rfl ?_
        obtain ⟨q11, eq11, hf⟩ := ob hf
        refine j_callVi (pc := 55) C (rest := []) d_Gr_readSum_55 (c_Gr_readTerm (g := g) (ad := ad) hE eq11) cv_Gr_readTerm tw534 23 rfl rfl cut_same rfl rfl (Nat.le_of_ble_eq_true rfl) (kc2 := 0) (ks2 := 0) (by refine ⟨⟨?_, ?_⟩, ⟨?_, ?_⟩, ?_, ?_⟩ <;> (try dsimp only) <;> omega) ?_
        refine j_if_ne (pc := 58) C d_Gr_readSum_58 (tgt := 63) rfl (fun h12 => ?_) (fun h12 => ?_)
        · rw [if_neg h12] at hf
          refine j_aload_n (pc := 63) C d_Gr_readSum_63 rfl 0 rfl ?_
          refine j_get (pc := 64) C d_Gr_readSum_64 23 9 wD_o23 rfl (v := .ref (ad 20)) rfl (by decide) tw247 ?_
          refine j_iload_n (pc := 67) C d_Gr_readSum_67 rfl 3 rfl ?_
          refine j_iconst (pc := 68) C d_Gr_readSum_68 ck_0 ?_
          obtain ⟨q13, eq13, hf⟩ := ob hf
          refine j_callVv (pc := 69) C (rest := []) d_Gr_readSum_69 (c_Cd_add (g := g) (ad := ad) eq13) cv_Cd_add tw506 20 rfl rfl cut_same rfl rfl (Nat.le_of_ble_eq_true rfl) (kc2 := 0) (ks2 := 0) (by refine ⟨⟨?_, ?_⟩, ⟨?_, ?_⟩, ?_, ?_⟩ <;> (try dsimp only) <;> omega) ?_
          refine j_iinc (pc := 72) C d_Gr_readSum_72 2 rfl (v := x.2.1 + 1) (iv ci_1) [1, 2, 0, 3] (by decide) (lc' := [(0, .ref (ad 23)), (1, .int x.1), (2, .int (x.2.1 + 1)), (3, .int 43)]) rfl ?_
          refine j_goto (pc := 75) C d_Gr_readSum_75 (tgt := 12) rfl ?_
          refine j_lc C (lc' := [(0, .ref (ad 23)), (1, .int x.1), (2, .int (x.2.1 + 1))]) [0, 1, 2] rfl ?_
          exact k12_ih (x.1, x.2.1 + 1, q13) hf
        · rw [if_pos h12] at hf
          refine j_iconst (pc := 61) C d_Gr_readSum_61 ck_0 ?_
          cases hf
          exact j_zret (pc := 62) C d_Gr_readSum_62 rfl ⟨rfl, rfl⟩ (Nat.le_of_ble_eq_true rfl) (Nat.le_of_ble_eq_true rfl)
  unfold f_Gr_readSum at hf
  change 𝒥 0 0 (wD g ad d.1 d.2) [(0, .ref (ad 23)), (1, .int a1)] [] 0
  refine j_aload_n (pc := 0) C d_Gr_readSum_0 rfl 0 rfl ?_
  refine j_iload_n (pc := 1) C d_Gr_readSum_1 rfl 1 rfl ?_
  obtain ⟨q1, eq1, hf⟩ := ob hf
  refine j_callVi (pc := 2) C (rest := []) d_Gr_readSum_2 (c_Gr_readTerm (g := g) (ad := ad) hE eq1) cv_Gr_readTerm tw534 23 rfl rfl cut_same rfl rfl (Nat.le_of_ble_eq_true rfl) (kc2 := 0) (ks2 := 0) (by refine ⟨⟨?_, ?_⟩, ⟨?_, ?_⟩, ?_, ?_⟩ <;> (try dsimp only) <;> omega) ?_
  refine j_if_ne (pc := 5) C d_Gr_readSum_5 (tgt := 10) rfl (fun h2 => ?_) (fun h2 => ?_)
  · rw [if_neg h2] at hf
    refine j_iconst (pc := 10) C d_Gr_readSum_10 ck_0 ?_
    refine j_istore_n (pc := 11) C d_Gr_readSum_11 rfl [1, 2, 0] (by decide) (lc' := [(0, .ref (ad 23)), (1, .int a1), (2, .int 0)]) rfl ?_
    exact L12 100000 (a1, 0, q1.2) hf
  · rw [if_pos h2] at hf
    refine j_iconst (pc := 8) C d_Gr_readSum_8 ck_0 ?_
    cases hf
    exact j_zret (pc := 9) C d_Gr_readSum_9 rfl ⟨rfl, rfl⟩ (Nat.le_of_ble_eq_true rfl) (Nat.le_of_ble_eq_true rfl)

set_option maxHeartbeats 4000000 in
set_option maxRecDepth 100000 in
theorem c_Gr_readExpression {g : GT} {ad : Nat → Nat} {a1 : Int32} {d : DS} {E : Int32 × DS → Option (Int32 × DS)} {n : Nat} (hE : EP g ad n E) {q : Int32 × DS} (hf : f_Gr_readExpression E a1 d = some q) : MI g y_Gr_readExpression b_Gr_readExpression 2 (some .boolean) (rm_Gr_readExpression n) [.ref (ad 23), .int a1] (wD g ad d.1 d.2) q.1 (wD g ad q.2.1 q.2.2) := by
  refine MI.of (by decide) (Nat.le_of_ble_eq_true rfl) (fun 𝒥 C => ?_)
  unfold f_Gr_readExpression at hf
  change 𝒥 0 0 (wD g ad d.1 d.2) [(0, .ref (ad 23)), (1, .int a1)] [] 0
  refine j_aload_n (pc := 0) C d_Gr_readExpression_0 rfl 0 rfl ?_
  refine j_iload_n (pc := 1) C d_Gr_readExpression_1 rfl 1 rfl ?_
  obtain ⟨q1, eq1, hf⟩ := ob hf
  refine j_callVi (pc := 2) C (rest := []) d_Gr_readExpression_2 (c_Gr_readSum (g := g) (ad := ad) hE eq1) cv_Gr_readSum tw530 23 rfl rfl cut_same rfl rfl (Nat.le_of_ble_eq_true rfl) (kc2 := 0) (ks2 := 0) (by refine ⟨⟨?_, ?_⟩, ⟨?_, ?_⟩, ?_, ?_⟩ <;> (try dsimp only) <;> omega) ?_
  refine j_if_ne (pc := 5) C d_Gr_readExpression_5 (tgt := 10) rfl (fun h2 => ?_) (fun h2 => ?_)
  · rw [if_neg h2] at hf
    refine j_aload_n (pc := 10) C d_Gr_readExpression_10 rfl 0 rfl ?_
    refine j_bipush (pc := 11) C d_Gr_readExpression_11 cb_60 ?_
    obtain ⟨q3, eq3, hf⟩ := ob hf
    refine j_callVi (pc := 13) C (rest := []) d_Gr_readExpression_13 (c_Gr_takeSign (g := g) (ad := ad) eq3) cv_Gr_takeSign tw498 23 rfl rfl cut_same rfl rfl (Nat.le_of_ble_eq_true rfl) (kc2 := 0) (ks2 := 0) (by refine ⟨⟨?_, ?_⟩, ⟨?_, ?_⟩, ?_, ?_⟩ <;> (try dsimp only) <;> omega) ?_
    refine j_if_ne (pc := 16) C d_Gr_readExpression_16 (tgt := 21) rfl (fun h4 => ?_) (fun h4 => ?_)
    · rw [if_neg h4] at hf
      refine j_aload_n (pc := 21) C d_Gr_readExpression_21 rfl 0 rfl ?_
      refine j_iload_n (pc := 22) C d_Gr_readExpression_22 rfl 1 rfl ?_
      obtain ⟨q5, eq5, hf⟩ := ob hf
      refine j_callVi (pc := 23) C (rest := []) d_Gr_readExpression_23 (c_Gr_readSum (g := g) (ad := ad) hE eq5) cv_Gr_readSum tw530 23 rfl rfl cut_same rfl rfl (Nat.le_of_ble_eq_true rfl) (kc2 := 0) (ks2 := 0) (by refine ⟨⟨?_, ?_⟩, ⟨?_, ?_⟩, ?_, ?_⟩ <;> (try dsimp only) <;> omega) ?_
      refine j_if_ne (pc := 26) C d_Gr_readExpression_26 (tgt := 31) rfl (fun h6 => ?_) (fun h6 => ?_)
      · rw [if_neg h6] at hf
        refine j_aload_n (pc := 31) C d_Gr_readExpression_31 rfl 0 rfl ?_
        refine j_get (pc := 32) C d_Gr_readExpression_32 23 9 wD_o23 rfl (v := .ref (ad 20)) rfl (by decide) tw247 ?_
        refine j_bipush (pc := 35) C d_Gr_readExpression_35 cb_60 ?_
        refine j_iconst (pc := 37) C d_Gr_readExpression_37 ck_0 ?_
        obtain ⟨q7, eq7, hf⟩ := ob hf
        refine j_callVv (pc := 38) C (rest := []) d_Gr_readExpression_38 (c_Cd_add (g := g) (ad := ad) eq7) cv_Cd_add tw506 20 rfl rfl cut_same rfl rfl (Nat.le_of_ble_eq_true rfl) (kc2 := 0) (ks2 := 0) (by refine ⟨⟨?_, ?_⟩, ⟨?_, ?_⟩, ?_, ?_⟩ <;> (try dsimp only) <;> omega) ?_
        refine j_iconst (pc := 41) C d_Gr_readExpression_41 ck_1 ?_
        cases hf
        exact j_zret (pc := 42) C d_Gr_readExpression_42 rfl ⟨rfl, rfl⟩ (Nat.le_of_ble_eq_true rfl) (Nat.le_of_ble_eq_true rfl)
      · rw [if_pos h6] at hf
        refine j_iconst (pc := 29) C d_Gr_readExpression_29 ck_0 ?_
        cases hf
        exact j_zret (pc := 30) C d_Gr_readExpression_30 rfl ⟨rfl, rfl⟩ (Nat.le_of_ble_eq_true rfl) (Nat.le_of_ble_eq_true rfl)
    · rw [if_pos h4] at hf
      refine j_iconst (pc := 19) C d_Gr_readExpression_19 ck_1 ?_
      cases hf
      exact j_zret (pc := 20) C d_Gr_readExpression_20 rfl ⟨rfl, rfl⟩ (Nat.le_of_ble_eq_true rfl) (Nat.le_of_ble_eq_true rfl)
  · rw [if_pos h2] at hf
    refine j_iconst (pc := 8) C d_Gr_readExpression_8 ck_0 ?_
    cases hf
    exact j_zret (pc := 9) C d_Gr_readExpression_9 rfl ⟨rfl, rfl⟩ (Nat.le_of_ble_eq_true rfl) (Nat.le_of_ble_eq_true rfl)
theorem hElv {g : GT} {ad : Nat → Nat} : ∀ n, EP g ad n (Elv n)
  | 0 => fun x q h => by cases h
  | n + 1 => fun x q h => c_Gr_readExpression (hElv n) h
theorem hE {g : GT} {ad : Nat → Nat} : EP g ad 6 E := hElv 6
abbrev rm_Gr_readStore : Room := { frames := 37, cells := 0, slots := 0, locals := 1071 }
theorem cv_Gr_readStore : CV y_Gr_readStore b_Gr_readStore 3 (some .boolean) 1 := ⟨⟨tw525, tw9, by decide +kernel⟩, tw524, (sw_ (q := (y_Gr_readStore, 10)) (by decide +kernel) (by decide +kernel))⟩
set_option maxHeartbeats 4000000 in
set_option maxRecDepth 100000 in
theorem c_Gr_readStore {g : GT} {ad : Nat → Nat} {a1 : Int32} {d : DS} {q : Int32 × DS} (hf : f_Gr_readStore a1 d = some q) : MI g y_Gr_readStore b_Gr_readStore 3 (some .boolean) rm_Gr_readStore [.ref (ad 23), .int a1] (wD g ad d.1 d.2) q.1 (wD g ad q.2.1 q.2.2) := by
  refine MI.of (by decide) (Nat.le_of_ble_eq_true rfl) (fun 𝒥 C => ?_)
  unfold f_Gr_readStore at hf
  change 𝒥 0 0 (wD g ad d.1 d.2) [(0, .ref (ad 23)), (1, .int a1)] [] 0
  refine j_aload_n (pc := 0) C d_Gr_readStore_0 rfl 0 rfl ?_
  refine j_get (pc := 1) C d_Gr_readStore_1 23 0 wD_o23 rfl (v := .int (d.2 7)) rfl (by decide) tw237 ?_
  refine j_istore_n (pc := 4) C d_Gr_readStore_4 rfl [1, 2, 0] (by decide) (lc' := [(0, .ref (ad 23)), (1, .int a1), (2, .int (d.2 7))]) rfl ?_
  refine j_aload_n (pc := 5) C d_Gr_readStore_5 rfl 0 rfl ?_
  refine j_iload_n (pc := 6) C d_Gr_readStore_6 rfl 1 rfl ?_
  obtain ⟨q1, eq1, hf⟩ := ob hf
  refine j_callVi (pc := 7) C (rest := []) d_Gr_readStore_7 (c_Gr_takeName (g := g) (ad := ad) eq1) cv_Gr_takeName tw490 23 rfl rfl cut_same rfl rfl (Nat.le_of_ble_eq_true rfl) (kc2 := 0) (ks2 := 0) (by decide) ?_
  refine j_if_eq (pc := 10) C d_Gr_readStore_10 (tgt := 39) rfl (fun h2 => ?_) (fun h2 => ?_)
  · rw [if_pos h2] at hf
    refine j_iconst (pc := 39) C d_Gr_readStore_39 ck_0 ?_
    cases hf
    exact j_zret (pc := 40) C d_Gr_readStore_40 rfl ⟨rfl, rfl⟩ (Nat.le_of_ble_eq_true rfl) (Nat.le_of_ble_eq_true rfl)
  · rw [if_neg h2] at hf
    refine j_aload_n (pc := 13) C d_Gr_readStore_13 rfl 0 rfl ?_
    refine j_bipush (pc := 14) C d_Gr_readStore_14 cb_61 ?_
    obtain ⟨q3, eq3, hf⟩ := ob hf
    refine j_callVi (pc := 16) C (rest := []) d_Gr_readStore_16 (c_Gr_takeSign (g := g) (ad := ad) eq3) cv_Gr_takeSign tw498 23 rfl rfl cut_same rfl rfl (Nat.le_of_ble_eq_true rfl) (kc2 := 0) (ks2 := 0) (by decide) ?_
    refine j_if_eq (pc := 19) C d_Gr_readStore_19 (tgt := 39) rfl (fun h4 => ?_) (fun h4 => ?_)
    · rw [if_pos h4] at hf
      refine j_iconst (pc := 39) C d_Gr_readStore_39 ck_0 ?_
      cases hf
      exact j_zret (pc := 40) C d_Gr_readStore_40 rfl ⟨rfl, rfl⟩ (Nat.le_of_ble_eq_true rfl) (Nat.le_of_ble_eq_true rfl)
    · rw [if_neg h4] at hf
      refine j_aload_n (pc := 22) C d_Gr_readStore_22 rfl 0 rfl ?_
      refine j_iconst (pc := 23) C d_Gr_readStore_23 ck_0 ?_
      obtain ⟨q5, eq5, hf⟩ := ob hf
      refine j_callVi (pc := 24) C (rest := []) d_Gr_readStore_24 (hE _ _ eq5) cv_Gr_readExpression tw526 23 rfl rfl cut_same rfl rfl (Nat.le_of_ble_eq_true rfl) (kc2 := 0) (ks2 := 0) (by decide) ?_
      refine j_if_eq (pc := 27) C d_Gr_readStore_27 (tgt := 39) rfl (fun h6 => ?_) (fun h6 => ?_)
      · rw [if_pos h6] at hf
        refine j_iconst (pc := 39) C d_Gr_readStore_39 ck_0 ?_
        cases hf
        exact j_zret (pc := 40) C d_Gr_readStore_40 rfl ⟨rfl, rfl⟩ (Nat.le_of_ble_eq_true rfl) (Nat.le_of_ble_eq_true rfl)
      · rw [if_neg h6] at hf
        refine j_aload_n (pc := 30) C d_Gr_readStore_30 rfl 0 rfl ?_
        refine j_bipush (pc := 31) C d_Gr_readStore_31 cb_59 ?_
        obtain ⟨q7, eq7, hf⟩ := ob hf
        refine j_callVi (pc := 33) C (rest := []) d_Gr_readStore_33 (c_Gr_takeSign (g := g) (ad := ad) eq7) cv_Gr_takeSign tw498 23 rfl rfl cut_same rfl rfl (Nat.le_of_ble_eq_true rfl) (kc2 := 0) (ks2 := 0) (by decide) ?_
        refine j_if_ne (pc := 36) C d_Gr_readStore_36 (tgt := 41) rfl (fun h8 => ?_) (fun h8 => ?_)
        · rw [if_neg h8] at hf
          refine j_iload_n (pc := 41) C d_Gr_readStore_41 rfl 1 rfl ?_
          refine j_iconst (pc := 42) C d_Gr_readStore_42 ck_3 ?_
          refine j_icmp_ne (pc := 43) C d_Gr_readStore_43 (tgt := 86) rfl (fun h9 => ?_) (fun h9 => ?_)
          · rw [if_neg h9] at hf
            refine j_aload_n (pc := 86) C d_Gr_readStore_86 rfl 0 rfl ?_
            refine j_get (pc := 87) C d_Gr_readStore_87 23 9 wD_o23 rfl (v := .ref (ad 20)) rfl (by decide) tw247 ?_
            refine j_iconst (pc := 90) C d_Gr_readStore_90 ck_2 ?_
            refine j_iload_n (pc := 91) C d_Gr_readStore_91 rfl 2 rfl ?_
            obtain ⟨q10, eq10, hf⟩ := ob hf
            refine j_callVv (pc := 92) C (rest := []) d_Gr_readStore_92 (c_Cd_add (g := g) (ad := ad) eq10) cv_Cd_add tw506 20 rfl rfl cut_same rfl rfl (Nat.le_of_ble_eq_true rfl) (kc2 := 0) (ks2 := 0) (by decide) ?_
            refine j_iconst (pc := 95) C d_Gr_readStore_95 ck_1 ?_
            cases hf
            exact j_zret (pc := 96) C d_Gr_readStore_96 rfl ⟨rfl, rfl⟩ (Nat.le_of_ble_eq_true rfl) (Nat.le_of_ble_eq_true rfl)
          · rw [if_pos h9] at hf
            refine j_aload_n (pc := 46) C d_Gr_readStore_46 rfl 0 rfl ?_
            refine j_get (pc := 47) C d_Gr_readStore_47 23 2 wD_o23 rfl (v := .int (q7.2.2 9)) rfl (by decide) tw240 ?_
            refine j_if_le (pc := 50) C d_Gr_readStore_50 (tgt := 86) rfl (fun h11 => ?_) (fun h11 => ?_)
            · rw [if_pos h11] at hf
              refine j_aload_n (pc := 86) C d_Gr_readStore_86 rfl 0 rfl ?_
              refine j_get (pc := 87) C d_Gr_readStore_87 23 9 wD_o23 rfl (v := .ref (ad 20)) rfl (by decide) tw247 ?_
              refine j_iconst (pc := 90) C d_Gr_readStore_90 ck_2 ?_
              refine j_iload_n (pc := 91) C d_Gr_readStore_91 rfl 2 rfl ?_
              obtain ⟨q12, eq12, hf⟩ := ob hf
              refine j_callVv (pc := 92) C (rest := []) d_Gr_readStore_92 (c_Cd_add (g := g) (ad := ad) eq12) cv_Cd_add tw506 20 rfl rfl cut_same rfl rfl (Nat.le_of_ble_eq_true rfl) (kc2 := 0) (ks2 := 0) (by decide) ?_
              refine j_iconst (pc := 95) C d_Gr_readStore_95 ck_1 ?_
              cases hf
              exact j_zret (pc := 96) C d_Gr_readStore_96 rfl ⟨rfl, rfl⟩ (Nat.le_of_ble_eq_true rfl) (Nat.le_of_ble_eq_true rfl)
            · rw [if_neg h11] at hf
              refine j_aload_n (pc := 53) C d_Gr_readStore_53 rfl 0 rfl ?_
              refine j_get (pc := 54) C d_Gr_readStore_54 23 7 wD_o23 rfl (v := .ref (ad 12)) rfl (by decide) tw245 ?_
              refine j_get (pc := 57) C d_Gr_readStore_57 12 3 wD_o12 rfl (v := .ref (ad 16)) rfl (by decide) tw182 ?_
              refine j_iload_n (pc := 60) C d_Gr_readStore_60 rfl 2 rfl ?_
              refine j_aload_n (pc := 61) C d_Gr_readStore_61 rfl 0 rfl ?_
              refine j_get (pc := 62) C d_Gr_readStore_62 23 3 wD_o23 rfl (v := .ref (ad 24)) rfl (by decide) tw241 ?_
              refine j_aload_n (pc := 65) C d_Gr_readStore_65 rfl 0 rfl ?_
              refine j_get (pc := 66) C d_Gr_readStore_66 23 2 wD_o23 rfl (v := .int (q7.2.2 9)) rfl (by decide) tw240 ?_
              refine j_iconst (pc := 69) C d_Gr_readStore_69 ck_1 ?_
              refine j_isub (pc := 70) C d_Gr_readStore_70 ?_
              obtain ⟨b13, hf⟩ := og hf
              refine j_iald (pc := 71) C d_Gr_readStore_71 24 (inb_in b13) (x := q7.2.1 24 ((q7.2.2 9) - 1).toNatClampNeg) wD_a24 rfl ?_
              obtain ⟨b14, hf⟩ := og hf
              refine j_iast (pc := 72) C d_Gr_readStore_72 16 (inb_in b14) wD_a16 (ws' := wD g ad (va_up q7.2.1 16 (upd (q7.2.1 16) (d.2 7).toNatClampNeg (q7.2.1 24 ((q7.2.2 9) - 1).toNatClampNeg))) q7.2.2) wD_s16 ?_
              refine j_aload_n (pc := 73) C d_Gr_readStore_73 rfl 0 rfl ?_
              refine j_get (pc := 74) C d_Gr_readStore_74 23 7 wD_o23 rfl (v := .ref (ad 12)) rfl (by decide) tw245 ?_
              refine j_get (pc := 77) C d_Gr_readStore_77 12 4 wD_o12 rfl (v := .ref (ad 17)) rfl (by decide) tw184 ?_
              refine j_iload_n (pc := 80) C d_Gr_readStore_80 rfl 2 rfl ?_
              refine j_aload_n (pc := 81) C d_Gr_readStore_81 rfl 0 rfl ?_
              refine j_get (pc := 82) C d_Gr_readStore_82 23 0 wD_o23 rfl (v := .int (q7.2.2 7)) rfl (by decide) tw237 ?_
              obtain ⟨b15, hf⟩ := og hf
              refine j_iast (pc := 85) C d_Gr_readStore_85 17 (inb_in b15) wD_a17 (ws' := wD g ad (va_up (va_up q7.2.1 16 (upd (q7.2.1 16) (d.2 7).toNatClampNeg (q7.2.1 24 ((q7.2.2 9) - 1).toNatClampNeg))) 17 (upd (q7.2.1 17) (d.2 7).toNatClampNeg (q7.2.2 7))) q7.2.2) wD_s17 ?_
              refine j_aload_n (pc := 86) C d_Gr_readStore_86 rfl 0 rfl ?_
              refine j_get (pc := 87) C d_Gr_readStore_87 23 9 wD_o23 rfl (v := .ref (ad 20)) rfl (by decide) tw247 ?_
              refine j_iconst (pc := 90) C d_Gr_readStore_90 ck_2 ?_
              refine j_iload_n (pc := 91) C d_Gr_readStore_91 rfl 2 rfl ?_
              obtain ⟨q16, eq16, hf⟩ := ob hf
              refine j_callVv (pc := 92) C (rest := []) d_Gr_readStore_92 (c_Cd_add (g := g) (ad := ad) eq16) cv_Cd_add tw506 20 rfl rfl cut_same rfl rfl (Nat.le_of_ble_eq_true rfl) (kc2 := 0) (ks2 := 0) (by decide) ?_
              refine j_iconst (pc := 95) C d_Gr_readStore_95 ck_1 ?_
              cases hf
              exact j_zret (pc := 96) C d_Gr_readStore_96 rfl ⟨rfl, rfl⟩ (Nat.le_of_ble_eq_true rfl) (Nat.le_of_ble_eq_true rfl)
        · rw [if_pos h8] at hf
          refine j_iconst (pc := 39) C d_Gr_readStore_39 ck_0 ?_
          cases hf
          exact j_zret (pc := 40) C d_Gr_readStore_40 rfl ⟨rfl, rfl⟩ (Nat.le_of_ble_eq_true rfl) (Nat.le_of_ble_eq_true rfl)
abbrev rm_Gr_readUse : Room := { frames := 37, cells := 0, slots := 0, locals := 1071 }
theorem cv_Gr_readUse : CV y_Gr_readUse b_Gr_readUse 2 (some .boolean) 1 := ⟨⟨tw549, tw9, by decide +kernel⟩, tw548, (sw_ (q := (y_Gr_readUse, 10)) (by decide +kernel) (by decide +kernel))⟩
set_option maxHeartbeats 4000000 in
set_option maxRecDepth 100000 in
theorem c_Gr_readUse {g : GT} {ad : Nat → Nat} {a1 : Int32} {d : DS} {q : Int32 × DS} (hf : f_Gr_readUse a1 d = some q) : MI g y_Gr_readUse b_Gr_readUse 2 (some .boolean) rm_Gr_readUse [.ref (ad 23), .int a1] (wD g ad d.1 d.2) q.1 (wD g ad q.2.1 q.2.2) := by
  refine MI.of (by decide) (Nat.le_of_ble_eq_true rfl) (fun 𝒥 C => ?_)
  unfold f_Gr_readUse at hf
  change 𝒥 0 0 (wD g ad d.1 d.2) [(0, .ref (ad 23)), (1, .int a1)] [] 0
  refine j_aload_n (pc := 0) C d_Gr_readUse_0 rfl 0 rfl ?_
  refine j_iconst (pc := 1) C d_Gr_readUse_1 ck_0 ?_
  obtain ⟨q1, eq1, hf⟩ := ob hf
  refine j_callVi (pc := 2) C (rest := []) d_Gr_readUse_2 (hE _ _ eq1) cv_Gr_readExpression tw526 23 rfl rfl cut_same rfl rfl (Nat.le_of_ble_eq_true rfl) (kc2 := 0) (ks2 := 0) (by decide) ?_
  refine j_if_eq (pc := 5) C d_Gr_readUse_5 (tgt := 17) rfl (fun h2 => ?_) (fun h2 => ?_)
  · rw [if_pos h2] at hf
    refine j_iconst (pc := 17) C d_Gr_readUse_17 ck_0 ?_
    cases hf
    exact j_zret (pc := 18) C d_Gr_readUse_18 rfl ⟨rfl, rfl⟩ (Nat.le_of_ble_eq_true rfl) (Nat.le_of_ble_eq_true rfl)
  · rw [if_neg h2] at hf
    refine j_aload_n (pc := 8) C d_Gr_readUse_8 rfl 0 rfl ?_
    refine j_bipush (pc := 9) C d_Gr_readUse_9 cb_59 ?_
    obtain ⟨q3, eq3, hf⟩ := ob hf
    refine j_callVi (pc := 11) C (rest := []) d_Gr_readUse_11 (c_Gr_takeSign (g := g) (ad := ad) eq3) cv_Gr_takeSign tw498 23 rfl rfl cut_same rfl rfl (Nat.le_of_ble_eq_true rfl) (kc2 := 0) (ks2 := 0) (by decide) ?_
    refine j_if_ne (pc := 14) C d_Gr_readUse_14 (tgt := 19) rfl (fun h4 => ?_) (fun h4 => ?_)
    · rw [if_neg h4] at hf
      refine j_aload_n (pc := 19) C d_Gr_readUse_19 rfl 0 rfl ?_
      refine j_get (pc := 20) C d_Gr_readUse_20 23 9 wD_o23 rfl (v := .ref (ad 20)) rfl (by decide) tw247 ?_
      refine j_iload_n (pc := 23) C d_Gr_readUse_23 rfl 1 rfl ?_
      refine j_iconst (pc := 24) C d_Gr_readUse_24 ck_0 ?_
      obtain ⟨q5, eq5, hf⟩ := ob hf
      refine j_callVv (pc := 25) C (rest := []) d_Gr_readUse_25 (c_Cd_add (g := g) (ad := ad) eq5) cv_Cd_add tw506 20 rfl rfl cut_same rfl rfl (Nat.le_of_ble_eq_true rfl) (kc2 := 0) (ks2 := 0) (by decide) ?_
      refine j_iconst (pc := 28) C d_Gr_readUse_28 ck_1 ?_
      cases hf
      exact j_zret (pc := 29) C d_Gr_readUse_29 rfl ⟨rfl, rfl⟩ (Nat.le_of_ble_eq_true rfl) (Nat.le_of_ble_eq_true rfl)
    · rw [if_pos h4] at hf
      refine j_iconst (pc := 17) C d_Gr_readUse_17 ck_0 ?_
      cases hf
      exact j_zret (pc := 18) C d_Gr_readUse_18 rfl ⟨rfl, rfl⟩ (Nat.le_of_ble_eq_true rfl) (Nat.le_of_ble_eq_true rfl)
abbrev rm_Gr_readStatement : Room := { frames := 38, cells := 0, slots := 0, locals := 1093 }
theorem cv_Gr_readStatement : CV y_Gr_readStatement b_Gr_readStatement 3 (some .boolean) 0 := ⟨⟨tw513, tw9, by decide +kernel⟩, tw512, (sw_ (q := (y_Gr_readStatement, 10)) (by decide +kernel) (by decide +kernel))⟩
set_option maxHeartbeats 4000000 in
set_option maxRecDepth 100000 in
theorem c_Gr_readStatement {g : GT} {ad : Nat → Nat} {d : DS} {q : Int32 × DS} (hf : f_Gr_readStatement d = some q) : MI g y_Gr_readStatement b_Gr_readStatement 3 (some .boolean) rm_Gr_readStatement [.ref (ad 23)] (wD g ad d.1 d.2) q.1 (wD g ad q.2.1 q.2.2) := by
  refine MI.of (by decide) (Nat.le_of_ble_eq_true rfl) (fun 𝒥 C => ?_)
  unfold f_Gr_readStatement at hf
  change 𝒥 0 0 (wD g ad d.1 d.2) [(0, .ref (ad 23))] [] 0
  refine j_aload_n (pc := 0) C d_Gr_readStatement_0 rfl 0 rfl ?_
  refine j_bipush (pc := 1) C d_Gr_readStatement_1 cb_125 ?_
  obtain ⟨q1, eq1, hf⟩ := ob hf
  refine j_callVi (pc := 3) C (rest := []) d_Gr_readStatement_3 (c_Gr_takeSign (g := g) (ad := ad) eq1) cv_Gr_takeSign tw498 23 rfl rfl cut_same rfl rfl (Nat.le_of_ble_eq_true rfl) (kc2 := 0) (ks2 := 0) (by decide) ?_
  refine j_if_eq (pc := 6) C d_Gr_readStatement_6 (tgt := 15) rfl (fun h2 => ?_) (fun h2 => ?_)
  · rw [if_pos h2] at hf
    refine j_aload_n (pc := 15) C d_Gr_readStatement_15 rfl 0 rfl ?_
    refine j_get (pc := 16) C d_Gr_readStatement_16 23 0 wD_o23 rfl (v := .int (q1.2.2 7)) rfl (by decide) tw237 ?_
    refine j_aload_n (pc := 19) C d_Gr_readStatement_19 rfl 0 rfl ?_
    refine j_get (pc := 20) C d_Gr_readStatement_20 23 1 wD_o23 rfl (v := .int (q1.2.2 8)) rfl (by decide) tw239 ?_
    refine j_icmp_lt (pc := 23) C d_Gr_readStatement_23 (tgt := 28) rfl (fun h3 => ?_) (fun h3 => ?_)
    · rw [if_pos h3] at hf
      refine j_aload_n (pc := 28) C d_Gr_readStatement_28 rfl 0 rfl ?_
      refine j_get (pc := 29) C d_Gr_readStatement_29 23 6 wD_o23 rfl (v := .ref (ad 3)) rfl (by decide) tw244 ?_
      refine j_get (pc := 32) C d_Gr_readStatement_32 3 0 wD_o3 rfl (v := .ref (ad 4)) rfl (by decide) tw109 ?_
      refine j_aload_n (pc := 35) C d_Gr_readStatement_35 rfl 0 rfl ?_
      refine j_get (pc := 36) C d_Gr_readStatement_36 23 0 wD_o23 rfl (v := .int (q1.2.2 7)) rfl (by decide) tw237 ?_
      obtain ⟨b4, hf⟩ := og hf
      refine j_iald (pc := 39) C d_Gr_readStatement_39 4 (inb_in b4) (x := q1.2.1 4 (q1.2.2 7).toNatClampNeg) wD_a4 rfl ?_
      refine j_iconst (pc := 40) C d_Gr_readStatement_40 ck_2 ?_
      refine j_icmp_ne (pc := 41) C d_Gr_readStatement_41 (tgt := 50) rfl (fun h5 => ?_) (fun h5 => ?_)
      · rw [if_neg h5] at hf
        refine j_aload_n (pc := 50) C d_Gr_readStatement_50 rfl 0 rfl ?_
        refine j_get (pc := 51) C d_Gr_readStatement_51 23 6 wD_o23 rfl (v := .ref (ad 3)) rfl (by decide) tw244 ?_
        refine j_get (pc := 54) C d_Gr_readStatement_54 3 0 wD_o3 rfl (v := .ref (ad 4)) rfl (by decide) tw109 ?_
        refine j_aload_n (pc := 57) C d_Gr_readStatement_57 rfl 0 rfl ?_
        refine j_get (pc := 58) C d_Gr_readStatement_58 23 0 wD_o23 rfl (v := .int (q1.2.2 7)) rfl (by decide) tw237 ?_
        obtain ⟨b6, hf⟩ := og hf
        refine j_iald (pc := 61) C d_Gr_readStatement_61 4 (inb_in b6) (x := q1.2.1 4 (q1.2.2 7).toNatClampNeg) wD_a4 rfl ?_
        refine j_iconst (pc := 62) C d_Gr_readStatement_62 ck_1 ?_
        refine j_icmp_eq (pc := 63) C d_Gr_readStatement_63 (tgt := 73) rfl (fun h7 => ?_) (fun h7 => ?_)
        · rw [if_pos h7] at hf
          refine j_aload_n (pc := 73) C d_Gr_readStatement_73 rfl 0 rfl ?_
          refine j_get (pc := 74) C d_Gr_readStatement_74 23 6 wD_o23 rfl (v := .ref (ad 3)) rfl (by decide) tw244 ?_
          refine j_aload_n (pc := 77) C d_Gr_readStatement_77 rfl 0 rfl ?_
          refine j_get (pc := 78) C d_Gr_readStatement_78 23 0 wD_o23 rfl (v := .int (q1.2.2 7)) rfl (by decide) tw237 ?_
          obtain ⟨q8, eq8, hf⟩ := ob hf
          refine j_callVi (pc := 81) C (rest := []) d_Gr_readStatement_81 (c_To_isFn (g := g) (ad := ad) eq8) cv_To_isFn tw489 3 rfl rfl cut_same rfl rfl (Nat.le_of_ble_eq_true rfl) (kc2 := 0) (ks2 := 0) (by decide) ?_
          refine j_if_eq (pc := 84) C d_Gr_readStatement_84 (tgt := 89) rfl (fun h9 => ?_) (fun h9 => ?_)
          · rw [if_pos h9] at hf
            refine j_aload_n (pc := 89) C d_Gr_readStatement_89 rfl 0 rfl ?_
            refine j_get (pc := 90) C d_Gr_readStatement_90 23 6 wD_o23 rfl (v := .ref (ad 3)) rfl (by decide) tw244 ?_
            refine j_get (pc := 93) C d_Gr_readStatement_93 3 1 wD_o3 rfl (v := .ref (ad 5)) rfl (by decide) tw115 ?_
            refine j_aload_n (pc := 96) C d_Gr_readStatement_96 rfl 0 rfl ?_
            refine j_get (pc := 97) C d_Gr_readStatement_97 23 0 wD_o23 rfl (v := .int (q8.2.2 7)) rfl (by decide) tw237 ?_
            obtain ⟨b10, hf⟩ := og hf
            refine j_iald (pc := 100) C d_Gr_readStatement_100 5 (inb_in b10) (x := q8.2.1 5 (q8.2.2 7).toNatClampNeg) wD_a5 rfl ?_
            refine j_istore_n (pc := 101) C d_Gr_readStatement_101 rfl [1, 0] (by decide) (lc' := [(0, .ref (ad 23)), (1, .int (q8.2.1 5 (q8.2.2 7).toNatClampNeg))]) rfl ?_
            refine j_aload_n (pc := 102) C d_Gr_readStatement_102 rfl 0 rfl ?_
            refine j_get (pc := 103) C d_Gr_readStatement_103 23 9 wD_o23 rfl (v := .ref (ad 20)) rfl (by decide) tw247 ?_
            refine j_get (pc := 106) C d_Gr_readStatement_106 20 2 wD_o20 rfl (v := .int (q8.2.2 6)) rfl (by decide) tw221 ?_
            refine j_istore_n (pc := 109) C d_Gr_readStatement_109 rfl [1, 2, 0] (by decide) (lc' := [(0, .ref (ad 23)), (1, .int (q8.2.1 5 (q8.2.2 7).toNatClampNeg)), (2, .int (q8.2.2 6))]) rfl ?_
            refine j_aload_n (pc := 110) C d_Gr_readStatement_110 rfl 0 rfl ?_
            refine j_dup (pc := 111) C d_Gr_readStatement_111 rfl ?_
            refine j_get (pc := 112) C d_Gr_readStatement_112 23 0 wD_o23 rfl (v := .int (q8.2.2 7)) rfl (by decide) tw237 ?_
            refine j_iconst (pc := 115) C d_Gr_readStatement_115 ck_1 ?_
            refine j_iadd (pc := 116) C d_Gr_readStatement_116 ?_
            refine j_put (pc := 117) C d_Gr_readStatement_117 23 0 wD_o23 rfl (by decide) tw237 pd_I rfl rfl rfl (Nat.le_of_ble_eq_true rfl) (ws' := wD g ad q8.2.1 (va_up q8.2.2 7 ((q8.2.2 7) + 1))) wD_p23_0 ?_
            refine j_iload_n (pc := 120) C d_Gr_readStatement_120 rfl 1 rfl ?_
            refine j_case (pc := 121) C d_Gr_readStatement_121 (z := 1) (off := 27) (tgt := 148) (by decide) rfl (fun h11 => ?_) (fun h11 => ?_)
            · rw [if_pos h11] at hf
              refine j_aload_n (pc := 148) C d_Gr_readStatement_148 rfl 0 rfl ?_
              refine j_iconst (pc := 149) C d_Gr_readStatement_149 ck_3 ?_
              obtain ⟨q12, eq12, hf⟩ := ob hf
              refine j_callVi (pc := 150) C (rest := []) d_Gr_readStatement_150 (c_Gr_readStore (g := g) (ad := ad) eq12) cv_Gr_readStore tw522 23 rfl rfl cut_same rfl rfl (Nat.le_of_ble_eq_true rfl) (kc2 := 0) (ks2 := 0) (by decide) ?_
              obtain ⟨b13, hf⟩ := og hf
              cases hf
              exact j_zret (pc := 153) C d_Gr_readStatement_153 (isb_n b13) ⟨rfl, rfl⟩ (Nat.le_of_ble_eq_true rfl) (Nat.le_of_ble_eq_true rfl)
            rw [if_neg h11] at hf
            refine j_case (pc := 121) C d_Gr_readStatement_121 (z := 2) (off := 33) (tgt := 154) (by decide) rfl (fun h14 => ?_) (fun h14 => ?_)
            · rw [if_pos h14] at hf
              refine j_aload_n (pc := 154) C d_Gr_readStatement_154 rfl 0 rfl ?_
              refine j_iconst (pc := 155) C d_Gr_readStatement_155 ck_0 ?_
              obtain ⟨q15, eq15, hf⟩ := ob hf
              refine j_callVi (pc := 156) C (rest := []) d_Gr_readStatement_156 (hE _ _ eq15) cv_Gr_readExpression tw526 23 rfl rfl cut_same rfl rfl (Nat.le_of_ble_eq_true rfl) (kc2 := 0) (ks2 := 0) (by decide) ?_
              refine j_if_eq (pc := 159) C d_Gr_readStatement_159 (tgt := 175) rfl (fun h16 => ?_) (fun h16 => ?_)
              · rw [if_pos h16] at hf
                refine j_iconst (pc := 175) C d_Gr_readStatement_175 ck_0 ?_
                cases hf
                exact j_zret (pc := 176) C d_Gr_readStatement_176 rfl ⟨rfl, rfl⟩ (Nat.le_of_ble_eq_true rfl) (Nat.le_of_ble_eq_true rfl)
              · rw [if_neg h16] at hf
                refine j_aload_n (pc := 162) C d_Gr_readStatement_162 rfl 0 rfl ?_
                refine j_iconst (pc := 163) C d_Gr_readStatement_163 ck_1 ?_
                refine j_iconst (pc := 164) C d_Gr_readStatement_164 ck_m1 ?_
                obtain ⟨q17, eq17, hf⟩ := ob hf
                refine j_callVi (pc := 165) C (rest := []) d_Gr_readStatement_165 (c_Gr_openBlock (g := g) (ad := ad) eq17) cv_Gr_openBlock tw502 23 rfl rfl cut_same rfl rfl (Nat.le_of_ble_eq_true rfl) (kc2 := 0) (ks2 := 0) (by decide) ?_
                refine j_if_eq (pc := 168) C d_Gr_readStatement_168 (tgt := 175) rfl (fun h18 => ?_) (fun h18 => ?_)
                · rw [if_pos h18] at hf
                  refine j_iconst (pc := 175) C d_Gr_readStatement_175 ck_0 ?_
                  cases hf
                  exact j_zret (pc := 176) C d_Gr_readStatement_176 rfl ⟨rfl, rfl⟩ (Nat.le_of_ble_eq_true rfl) (Nat.le_of_ble_eq_true rfl)
                · rw [if_neg h18] at hf
                  refine j_iconst (pc := 171) C d_Gr_readStatement_171 ck_1 ?_
                  refine j_goto (pc := 172) C d_Gr_readStatement_172 (tgt := 176) rfl ?_
                  cases hf
                  exact j_zret (pc := 176) C d_Gr_readStatement_176 rfl ⟨rfl, rfl⟩ (Nat.le_of_ble_eq_true rfl) (Nat.le_of_ble_eq_true rfl)
            rw [if_neg h14] at hf
            refine j_case (pc := 121) C d_Gr_readStatement_121 (z := 3) (off := 56) (tgt := 177) (by decide) rfl (fun h19 => ?_) (fun h19 => ?_)
            · rw [if_pos h19] at hf
              refine j_aload_n (pc := 177) C d_Gr_readStatement_177 rfl 0 rfl ?_
              refine j_iconst (pc := 178) C d_Gr_readStatement_178 ck_0 ?_
              obtain ⟨q20, eq20, hf⟩ := ob hf
              refine j_callVi (pc := 179) C (rest := []) d_Gr_readStatement_179 (hE _ _ eq20) cv_Gr_readExpression tw526 23 rfl rfl cut_same rfl rfl (Nat.le_of_ble_eq_true rfl) (kc2 := 0) (ks2 := 0) (by decide) ?_
              refine j_if_eq (pc := 182) C d_Gr_readStatement_182 (tgt := 198) rfl (fun h21 => ?_) (fun h21 => ?_)
              · rw [if_pos h21] at hf
                refine j_iconst (pc := 198) C d_Gr_readStatement_198 ck_0 ?_
                cases hf
                exact j_zret (pc := 199) C d_Gr_readStatement_199 rfl ⟨rfl, rfl⟩ (Nat.le_of_ble_eq_true rfl) (Nat.le_of_ble_eq_true rfl)
              · rw [if_neg h21] at hf
                refine j_aload_n (pc := 185) C d_Gr_readStatement_185 rfl 0 rfl ?_
                refine j_iconst (pc := 186) C d_Gr_readStatement_186 ck_1 ?_
                refine j_iload_n (pc := 187) C d_Gr_readStatement_187 rfl 2 rfl ?_
                obtain ⟨q22, eq22, hf⟩ := ob hf
                refine j_callVi (pc := 188) C (rest := []) d_Gr_readStatement_188 (c_Gr_openBlock (g := g) (ad := ad) eq22) cv_Gr_openBlock tw502 23 rfl rfl cut_same rfl rfl (Nat.le_of_ble_eq_true rfl) (kc2 := 0) (ks2 := 0) (by decide) ?_
                refine j_if_eq (pc := 191) C d_Gr_readStatement_191 (tgt := 198) rfl (fun h23 => ?_) (fun h23 => ?_)
                · rw [if_pos h23] at hf
                  refine j_iconst (pc := 198) C d_Gr_readStatement_198 ck_0 ?_
                  cases hf
                  exact j_zret (pc := 199) C d_Gr_readStatement_199 rfl ⟨rfl, rfl⟩ (Nat.le_of_ble_eq_true rfl) (Nat.le_of_ble_eq_true rfl)
                · rw [if_neg h23] at hf
                  refine j_iconst (pc := 194) C d_Gr_readStatement_194 ck_1 ?_
                  refine j_goto (pc := 195) C d_Gr_readStatement_195 (tgt := 199) rfl ?_
                  cases hf
                  exact j_zret (pc := 199) C d_Gr_readStatement_199 rfl ⟨rfl, rfl⟩ (Nat.le_of_ble_eq_true rfl) (Nat.le_of_ble_eq_true rfl)
            rw [if_neg h19] at hf
            have ih11 := ine 1 (by decide) h11
            have ih14 := ine 2 (by decide) h14
            have ih19 := ine 3 (by decide) h19
            refine j_dflt C d_Gr_readStatement_121 (tgt := 200) (by omega) rfl ?_
            refine j_aload_n (pc := 200) C d_Gr_readStatement_200 rfl 0 rfl ?_
            refine j_iload_n (pc := 201) C d_Gr_readStatement_201 rfl 1 rfl ?_
            refine j_iconst (pc := 202) C d_Gr_readStatement_202 ck_4 ?_
            refine j_icmp_ne (pc := 203) C d_Gr_readStatement_203 (tgt := 211) rfl (fun h24 => ?_) (fun h24 => ?_)
            · rw [if_neg h24] at hf
              refine j_bipush (pc := 211) C d_Gr_readStatement_211 cb_8 ?_
              obtain ⟨q25, eq25, hf⟩ := ob hf
              refine j_callVi (pc := 213) C (rest := []) d_Gr_readStatement_213 (c_Gr_readUse (g := g) (ad := ad) eq25) cv_Gr_readUse tw546 23 rfl rfl cut_same rfl rfl (Nat.le_of_ble_eq_true rfl) (kc2 := 0) (ks2 := 0) (by decide) ?_
              obtain ⟨b26, hf⟩ := og hf
              cases hf
              exact j_zret (pc := 216) C d_Gr_readStatement_216 (isb_n b26) ⟨rfl, rfl⟩ (Nat.le_of_ble_eq_true rfl) (Nat.le_of_ble_eq_true rfl)
            · rw [if_pos h24] at hf
              refine j_bipush (pc := 206) C d_Gr_readStatement_206 cb_7 ?_
              refine j_goto (pc := 208) C d_Gr_readStatement_208 (tgt := 213) rfl ?_
              obtain ⟨q27, eq27, hf⟩ := ob hf
              refine j_callVi (pc := 213) C (rest := []) d_Gr_readStatement_213 (c_Gr_readUse (g := g) (ad := ad) eq27) cv_Gr_readUse tw546 23 rfl rfl cut_same rfl rfl (Nat.le_of_ble_eq_true rfl) (kc2 := 0) (ks2 := 0) (by decide) ?_
              obtain ⟨b28, hf⟩ := og hf
              cases hf
              exact j_zret (pc := 216) C d_Gr_readStatement_216 (isb_n b28) ⟨rfl, rfl⟩ (Nat.le_of_ble_eq_true rfl) (Nat.le_of_ble_eq_true rfl)
          · rw [if_neg h9] at hf
            refine j_iconst (pc := 87) C d_Gr_readStatement_87 ck_0 ?_
            cases hf
            exact j_zret (pc := 88) C d_Gr_readStatement_88 rfl ⟨rfl, rfl⟩ (Nat.le_of_ble_eq_true rfl) (Nat.le_of_ble_eq_true rfl)
        · rw [if_neg h7] at hf
          refine j_aload_n (pc := 66) C d_Gr_readStatement_66 rfl 0 rfl ?_
          refine j_iconst (pc := 67) C d_Gr_readStatement_67 ck_0 ?_
          refine j_iconst (pc := 68) C d_Gr_readStatement_68 ck_m1 ?_
          obtain ⟨q29, eq29, hf⟩ := ob hf
          refine j_callVi (pc := 69) C (rest := []) d_Gr_readStatement_69 (c_Gr_openBlock (g := g) (ad := ad) eq29) cv_Gr_openBlock tw502 23 rfl rfl cut_same rfl rfl (Nat.le_of_ble_eq_true rfl) (kc2 := 0) (ks2 := 0) (by decide) ?_
          obtain ⟨b30, hf⟩ := og hf
          cases hf
          exact j_zret (pc := 72) C d_Gr_readStatement_72 (isb_n b30) ⟨rfl, rfl⟩ (Nat.le_of_ble_eq_true rfl) (Nat.le_of_ble_eq_true rfl)
      · rw [if_pos h5] at hf
        refine j_aload_n (pc := 44) C d_Gr_readStatement_44 rfl 0 rfl ?_
        refine j_iconst (pc := 45) C d_Gr_readStatement_45 ck_5 ?_
        obtain ⟨q31, eq31, hf⟩ := ob hf
        refine j_callVi (pc := 46) C (rest := []) d_Gr_readStatement_46 (c_Gr_readStore (g := g) (ad := ad) eq31) cv_Gr_readStore tw522 23 rfl rfl cut_same rfl rfl (Nat.le_of_ble_eq_true rfl) (kc2 := 0) (ks2 := 0) (by decide) ?_
        obtain ⟨b32, hf⟩ := og hf
        cases hf
        exact j_zret (pc := 49) C d_Gr_readStatement_49 (isb_n b32) ⟨rfl, rfl⟩ (Nat.le_of_ble_eq_true rfl) (Nat.le_of_ble_eq_true rfl)
    · rw [if_neg h3] at hf
      refine j_iconst (pc := 26) C d_Gr_readStatement_26 ck_0 ?_
      cases hf
      exact j_zret (pc := 27) C d_Gr_readStatement_27 rfl ⟨rfl, rfl⟩ (Nat.le_of_ble_eq_true rfl) (Nat.le_of_ble_eq_true rfl)
  · rw [if_neg h2] at hf
    refine j_aload_n (pc := 9) C d_Gr_readStatement_9 rfl 0 rfl ?_
    obtain ⟨q33, eq33, hf⟩ := ob hf
    refine j_callVv (pc := 10) C (rest := []) d_Gr_readStatement_10 (c_Gr_closeBlock (g := g) (ad := ad) eq33) cv_Gr_closeBlock tw514 23 rfl rfl cut_same rfl rfl (Nat.le_of_ble_eq_true rfl) (kc2 := 0) (ks2 := 0) (by decide) ?_
    refine j_iconst (pc := 13) C d_Gr_readStatement_13 ck_1 ?_
    cases hf
    exact j_zret (pc := 14) C d_Gr_readStatement_14 rfl ⟨rfl, rfl⟩ (Nat.le_of_ble_eq_true rfl) (Nat.le_of_ble_eq_true rfl)
abbrev rm_Gr_readFunction : Room := { frames := 39, cells := 0, slots := 0, locals := 1115 }
theorem cv_Gr_readFunction : CV y_Gr_readFunction b_Gr_readFunction 6 (some .boolean) 2 := ⟨⟨tw488, tw9, by decide +kernel⟩, tw486, tw487⟩
set_option maxHeartbeats 4000000 in
set_option maxRecDepth 100000 in
theorem c_Gr_readFunction {g : GT} {ad : Nat → Nat} {a1 : Int32} {a2 : Int32} {d : DS} {q : Int32 × DS} (hf : f_Gr_readFunction a1 a2 d = some q) : MI g y_Gr_readFunction b_Gr_readFunction 6 (some .boolean) rm_Gr_readFunction [.ref (ad 23), .int a1, .int a2] (wD g ad d.1 d.2) q.1 (wD g ad q.2.1 q.2.2) := by
  refine MI.of (by decide) (Nat.le_of_ble_eq_true rfl) (fun 𝒥 C => ?_)
  have L82 : ∀ (n : Nat) (x : Int32 × Int32 × Int32 × Int32 × Int32 × DS), lpN (BGr_readFunction_82) n x = some q → 𝒥 0 0 (wD g ad x.2.2.2.2.2.1 x.2.2.2.2.2.2) [(0, .ref (ad 23)), (1, .int x.1), (2, .int x.2.1), (3, .int x.2.2.1), (4, .int x.2.2.2.1), (5, .int x.2.2.2.2.1)] [] 82 := by
    refine lp_ind (fun k82 k82_ih x hf => ?_)
    unfold BGr_readFunction_82 at hf
    refine j_iload (pc := 82) C d_Gr_readFunction_82 5 rfl ?_
    refine j_sipush (pc := 84) C d_Gr_readFunction_84 cs_240 ?_
    refine j_icmp_ge (pc := 87) C d_Gr_readFunction_87 (tgt := 112) rfl (fun h9 => ?_) (fun h9 => ?_)
    · rw [if_pos h9] at hf
      refine j_aload_n (pc := 112) C d_Gr_readFunction_112 rfl 0 rfl ?_
      refine j_get (pc := 113) C d_Gr_readFunction_113 23 2 wD_o23 rfl (v := .int (x.2.2.2.2.2.2 9)) rfl (by decide) tw240 ?_
      refine j_if_gt (pc := 116) C d_Gr_readFunction_116 (tgt := 130) rfl (fun h10 => ?_) (fun h10 => ?_)
      · rw [if_pos h10] at hf
        refine j_iconst (pc := 130) C d_Gr_readFunction_130 ck_0 ?_
        cases hf
        exact j_zret (pc := 131) C d_Gr_readFunction_131 rfl ⟨rfl, rfl⟩ (Nat.le_of_ble_eq_true rfl) (Nat.le_of_ble_eq_true rfl)
      · rw [if_neg h10] at hf
        refine j_aload_n (pc := 119) C d_Gr_readFunction_119 rfl 0 rfl ?_
        refine j_get (pc := 120) C d_Gr_readFunction_120 23 0 wD_o23 rfl (v := .int (x.2.2.2.2.2.2 7)) rfl (by decide) tw237 ?_
        refine j_aload_n (pc := 123) C d_Gr_readFunction_123 rfl 0 rfl ?_
        refine j_get (pc := 124) C d_Gr_readFunction_124 23 1 wD_o23 rfl (v := .int (x.2.2.2.2.2.2 8)) rfl (by decide) tw239 ?_
        refine j_icmp_ge (pc := 127) C d_Gr_readFunction_127 (tgt := 132) rfl (fun h11 => ?_) (fun h11 => ?_)
        · rw [if_pos h11] at hf
          refine j_aload_n (pc := 132) C d_Gr_readFunction_132 rfl 0 rfl ?_
          refine j_get (pc := 133) C d_Gr_readFunction_133 23 9 wD_o23 rfl (v := .ref (ad 20)) rfl (by decide) tw247 ?_
          refine j_iconst (pc := 136) C d_Gr_readFunction_136 ck_0 ?_
          refine j_iconst (pc := 137) C d_Gr_readFunction_137 ck_0 ?_
          obtain ⟨q12, eq12, hf⟩ := ob hf
          refine j_callVv (pc := 138) C (rest := []) d_Gr_readFunction_138 (c_Cd_add (g := g) (ad := ad) eq12) cv_Cd_add tw506 20 rfl rfl cut_same rfl rfl (Nat.le_of_ble_eq_true rfl) (kc2 := 0) (ks2 := 0) (by decide) ?_
          refine j_aload_n (pc := 141) C d_Gr_readFunction_141 rfl 0 rfl ?_
          refine j_get (pc := 142) C d_Gr_readFunction_142 23 9 wD_o23 rfl (v := .ref (ad 20)) rfl (by decide) tw247 ?_
          refine j_bipush (pc := 145) C d_Gr_readFunction_145 cb_8 ?_
          refine j_iconst (pc := 147) C d_Gr_readFunction_147 ck_0 ?_
          obtain ⟨q13, eq13, hf⟩ := ob hf
          refine j_callVv (pc := 148) C (rest := []) d_Gr_readFunction_148 (c_Cd_add (g := g) (ad := ad) eq13) cv_Cd_add tw506 20 rfl rfl cut_same rfl rfl (Nat.le_of_ble_eq_true rfl) (kc2 := 0) (ks2 := 0) (by decide) ?_
          refine j_aload_n (pc := 151) C d_Gr_readFunction_151 rfl 0 rfl ?_
          refine j_get (pc := 152) C d_Gr_readFunction_152 23 8 wD_o23 rfl (v := .ref (ad 8)) rfl (by decide) tw246 ?_
          refine j_iload_n (pc := 155) C d_Gr_readFunction_155 rfl 1 rfl ?_
          refine j_iconst (pc := 156) C d_Gr_readFunction_156 ck_1 ?_
          refine j_iadd (pc := 157) C d_Gr_readFunction_157 ?_
          refine j_iload (pc := 158) C d_Gr_readFunction_158 4 rfl ?_
          refine j_iload_n (pc := 160) C d_Gr_readFunction_160 rfl 3 rfl ?_
          obtain ⟨q14, eq14, hf⟩ := ob hf
          refine j_callVv (pc := 161) C (rest := []) d_Gr_readFunction_161 (c_Fn_add (g := g) (ad := ad) eq14) cv_Fn_add tw550 8 rfl rfl cut_same rfl rfl (Nat.le_of_ble_eq_true rfl) (kc2 := 0) (ks2 := 0) (by decide) ?_
          refine j_iconst (pc := 164) C d_Gr_readFunction_164 ck_1 ?_
          cases hf
          exact j_zret (pc := 165) C d_Gr_readFunction_165 rfl ⟨rfl, rfl⟩ (Nat.le_of_ble_eq_true rfl) (Nat.le_of_ble_eq_true rfl)
        · rw [if_neg h11] at hf
          refine j_iconst (pc := 130) C d_Gr_readFunction_130 ck_0 ?_
          cases hf
          exact j_zret (pc := 131) C d_Gr_readFunction_131 rfl ⟨rfl, rfl⟩ (Nat.le_of_ble_eq_true rfl) (Nat.le_of_ble_eq_true rfl)
    · rw [if_neg h9] at hf
      refine j_aload_n (pc := 90) C d_Gr_readFunction_90 rfl 0 rfl ?_
      refine j_get (pc := 91) C d_Gr_readFunction_91 23 2 wD_o23 rfl (v := .int (x.2.2.2.2.2.2 9)) rfl (by decide) tw240 ?_
      refine j_if_le (pc := 94) C d_Gr_readFunction_94 (tgt := 112) rfl (fun h15 => ?_) (fun h15 => ?_)
      · rw [if_pos h15] at hf
        refine j_aload_n (pc := 112) C d_Gr_readFunction_112 rfl 0 rfl ?_
        refine j_get (pc := 113) C d_Gr_readFunction_113 23 2 wD_o23 rfl (v := .int (x.2.2.2.2.2.2 9)) rfl (by decide) tw240 ?_
        refine j_if_gt (pc := 116) C d_Gr_readFunction_116 (tgt := 130) rfl (fun h16 => ?_) (fun h16 => ?_)
        · rw [if_pos h16] at hf
          refine j_iconst (pc := 130) C d_Gr_readFunction_130 ck_0 ?_
          cases hf
          exact j_zret (pc := 131) C d_Gr_readFunction_131 rfl ⟨rfl, rfl⟩ (Nat.le_of_ble_eq_true rfl) (Nat.le_of_ble_eq_true rfl)
        · rw [if_neg h16] at hf
          refine j_aload_n (pc := 119) C d_Gr_readFunction_119 rfl 0 rfl ?_
          refine j_get (pc := 120) C d_Gr_readFunction_120 23 0 wD_o23 rfl (v := .int (x.2.2.2.2.2.2 7)) rfl (by decide) tw237 ?_
          refine j_aload_n (pc := 123) C d_Gr_readFunction_123 rfl 0 rfl ?_
          refine j_get (pc := 124) C d_Gr_readFunction_124 23 1 wD_o23 rfl (v := .int (x.2.2.2.2.2.2 8)) rfl (by decide) tw239 ?_
          refine j_icmp_ge (pc := 127) C d_Gr_readFunction_127 (tgt := 132) rfl (fun h17 => ?_) (fun h17 => ?_)
          · rw [if_pos h17] at hf
            refine j_aload_n (pc := 132) C d_Gr_readFunction_132 rfl 0 rfl ?_
            refine j_get (pc := 133) C d_Gr_readFunction_133 23 9 wD_o23 rfl (v := .ref (ad 20)) rfl (by decide) tw247 ?_
            refine j_iconst (pc := 136) C d_Gr_readFunction_136 ck_0 ?_
            refine j_iconst (pc := 137) C d_Gr_readFunction_137 ck_0 ?_
            obtain ⟨q18, eq18, hf⟩ := ob hf
            refine j_callVv (pc := 138) C (rest := []) d_Gr_readFunction_138 (c_Cd_add (g := g) (ad := ad) eq18) cv_Cd_add tw506 20 rfl rfl cut_same rfl rfl (Nat.le_of_ble_eq_true rfl) (kc2 := 0) (ks2 := 0) (by decide) ?_
            refine j_aload_n (pc := 141) C d_Gr_readFunction_141 rfl 0 rfl ?_
            refine j_get (pc := 142) C d_Gr_readFunction_142 23 9 wD_o23 rfl (v := .ref (ad 20)) rfl (by decide) tw247 ?_
            refine j_bipush (pc := 145) C d_Gr_readFunction_145 cb_8 ?_
            refine j_iconst (pc := 147) C d_Gr_readFunction_147 ck_0 ?_
            obtain ⟨q19, eq19, hf⟩ := ob hf
            refine j_callVv (pc := 148) C (rest := []) d_Gr_readFunction_148 (c_Cd_add (g := g) (ad := ad) eq19) cv_Cd_add tw506 20 rfl rfl cut_same rfl rfl (Nat.le_of_ble_eq_true rfl) (kc2 := 0) (ks2 := 0) (by decide) ?_
            refine j_aload_n (pc := 151) C d_Gr_readFunction_151 rfl 0 rfl ?_
            refine j_get (pc := 152) C d_Gr_readFunction_152 23 8 wD_o23 rfl (v := .ref (ad 8)) rfl (by decide) tw246 ?_
            refine j_iload_n (pc := 155) C d_Gr_readFunction_155 rfl 1 rfl ?_
            refine j_iconst (pc := 156) C d_Gr_readFunction_156 ck_1 ?_
            refine j_iadd (pc := 157) C d_Gr_readFunction_157 ?_
            refine j_iload (pc := 158) C d_Gr_readFunction_158 4 rfl ?_
            refine j_iload_n (pc := 160) C d_Gr_readFunction_160 rfl 3 rfl ?_
            obtain ⟨q20, eq20, hf⟩ := ob hf
            refine j_callVv (pc := 161) C (rest := []) d_Gr_readFunction_161 (c_Fn_add (g := g) (ad := ad) eq20) cv_Fn_add tw550 8 rfl rfl cut_same rfl rfl (Nat.le_of_ble_eq_true rfl) (kc2 := 0) (ks2 := 0) (by decide) ?_
            refine j_iconst (pc := 164) C d_Gr_readFunction_164 ck_1 ?_
            cases hf
            exact j_zret (pc := 165) C d_Gr_readFunction_165 rfl ⟨rfl, rfl⟩ (Nat.le_of_ble_eq_true rfl) (Nat.le_of_ble_eq_true rfl)
          · rw [if_neg h17] at hf
            refine j_iconst (pc := 130) C d_Gr_readFunction_130 ck_0 ?_
            cases hf
            exact j_zret (pc := 131) C d_Gr_readFunction_131 rfl ⟨rfl, rfl⟩ (Nat.le_of_ble_eq_true rfl) (Nat.le_of_ble_eq_true rfl)
      · rw [if_neg h15] at hf
        refine j_aload_n (pc := 97) C d_Gr_readFunction_97 rfl 0 rfl ?_
        obtain ⟨q21, eq21, hf⟩ := ob hf
        refine j_callVi (pc := 98) C (rest := []) d_Gr_readFunction_98 (c_Gr_readStatement (g := g) (ad := ad) eq21) cv_Gr_readStatement tw510 23 rfl rfl cut_same rfl rfl (Nat.le_of_ble_eq_true rfl) (kc2 := 0) (ks2 := 0) (by decide) ?_
        refine j_if_ne (pc := 101) C d_Gr_readFunction_101 (tgt := 106) rfl (fun h22 => ?_) (fun h22 => ?_)
        · rw [if_neg h22] at hf
          refine j_iinc (pc := 106) C d_Gr_readFunction_106 5 rfl (v := x.2.2.2.2.1 + 1) (iv ci_1) [1, 2, 3, 4, 5, 0] (by decide) (lc' := [(0, .ref (ad 23)), (1, .int x.1), (2, .int x.2.1), (3, .int x.2.2.1), (4, .int x.2.2.2.1), (5, .int (x.2.2.2.2.1 + 1))]) rfl ?_
          refine j_goto (pc := 109) C d_Gr_readFunction_109 (tgt := 82) rfl ?_
          exact k82_ih (x.1, x.2.1, x.2.2.1, x.2.2.2.1, x.2.2.2.2.1 + 1, q21.2) hf
        · rw [if_pos h22] at hf
          refine j_iconst (pc := 104) C d_Gr_readFunction_104 ck_0 ?_
          cases hf
          exact j_zret (pc := 105) C d_Gr_readFunction_105 rfl ⟨rfl, rfl⟩ (Nat.le_of_ble_eq_true rfl) (Nat.le_of_ble_eq_true rfl)
  unfold f_Gr_readFunction at hf
  change 𝒥 0 0 (wD g ad d.1 d.2) [(0, .ref (ad 23)), (1, .int a1), (2, .int a2)] [] 0
  refine j_aload_n (pc := 0) C d_Gr_readFunction_0 rfl 0 rfl ?_
  refine j_iload_n (pc := 1) C d_Gr_readFunction_1 rfl 1 rfl ?_
  refine j_put (pc := 2) C d_Gr_readFunction_2 23 0 wD_o23 rfl (by decide) tw237 pd_I rfl rfl rfl (Nat.le_of_ble_eq_true rfl) (ws' := wD g ad d.1 (va_up d.2 7 a1)) wD_p23_0 ?_
  refine j_aload_n (pc := 5) C d_Gr_readFunction_5 rfl 0 rfl ?_
  refine j_iload_n (pc := 6) C d_Gr_readFunction_6 rfl 2 rfl ?_
  refine j_put (pc := 7) C d_Gr_readFunction_7 23 1 wD_o23 rfl (by decide) tw239 pd_I rfl rfl rfl (Nat.le_of_ble_eq_true rfl) (ws' := wD g ad d.1 (va_up (va_up d.2 7 a1) 8 a2)) wD_p23_1 ?_
  refine j_aload_n (pc := 10) C d_Gr_readFunction_10 rfl 0 rfl ?_
  refine j_iconst (pc := 11) C d_Gr_readFunction_11 ck_0 ?_
  refine j_put (pc := 12) C d_Gr_readFunction_12 23 2 wD_o23 rfl (by decide) tw240 pd_I rfl rfl rfl (Nat.le_of_ble_eq_true rfl) (ws' := wD g ad d.1 (va_up (va_up (va_up d.2 7 a1) 8 a2) 9 0)) wD_p23_2 ?_
  refine j_aload_n (pc := 15) C d_Gr_readFunction_15 rfl 0 rfl ?_
  refine j_get (pc := 16) C d_Gr_readFunction_16 23 9 wD_o23 rfl (v := .ref (ad 20)) rfl (by decide) tw247 ?_
  refine j_get (pc := 19) C d_Gr_readFunction_19 20 2 wD_o20 rfl (v := .int (d.2 6)) rfl (by decide) tw221 ?_
  refine j_istore_n (pc := 22) C d_Gr_readFunction_22 rfl [1, 2, 3, 0] (by decide) (lc' := [(0, .ref (ad 23)), (1, .int a1), (2, .int a2), (3, .int (d.2 6))]) rfl ?_
  refine j_aload_n (pc := 23) C d_Gr_readFunction_23 rfl 0 rfl ?_
  refine j_get (pc := 24) C d_Gr_readFunction_24 23 6 wD_o23 rfl (v := .ref (ad 3)) rfl (by decide) tw244 ?_
  refine j_iload_n (pc := 27) C d_Gr_readFunction_27 rfl 1 rfl ?_
  obtain ⟨q1, eq1, hf⟩ := ob hf
  refine j_callVi (pc := 28) C (rest := []) d_Gr_readFunction_28 (c_To_isFn (g := g) (ad := ad) eq1) cv_To_isFn tw489 3 rfl rfl cut_same rfl rfl (Nat.le_of_ble_eq_true rfl) (kc2 := 0) (ks2 := 0) (by decide) ?_
  refine j_if_ne (pc := 31) C d_Gr_readFunction_31 (tgt := 36) rfl (fun h2 => ?_) (fun h2 => ?_)
  · rw [if_neg h2] at hf
    refine j_aload_n (pc := 36) C d_Gr_readFunction_36 rfl 0 rfl ?_
    refine j_dup (pc := 37) C d_Gr_readFunction_37 rfl ?_
    refine j_get (pc := 38) C d_Gr_readFunction_38 23 0 wD_o23 rfl (v := .int (q1.2.2 7)) rfl (by decide) tw237 ?_
    refine j_iconst (pc := 41) C d_Gr_readFunction_41 ck_1 ?_
    refine j_iadd (pc := 42) C d_Gr_readFunction_42 ?_
    refine j_put (pc := 43) C d_Gr_readFunction_43 23 0 wD_o23 rfl (by decide) tw237 pd_I rfl rfl rfl (Nat.le_of_ble_eq_true rfl) (ws' := wD g ad q1.2.1 (va_up q1.2.2 7 ((q1.2.2 7) + 1))) wD_p23_0 ?_
    refine j_aload_n (pc := 46) C d_Gr_readFunction_46 rfl 0 rfl ?_
    refine j_iconst (pc := 47) C d_Gr_readFunction_47 ck_1 ?_
    obtain ⟨q3, eq3, hf⟩ := ob hf
    refine j_callVi (pc := 48) C (rest := []) d_Gr_readFunction_48 (c_Gr_takeName (g := g) (ad := ad) eq3) cv_Gr_takeName tw490 23 rfl rfl cut_same rfl rfl (Nat.le_of_ble_eq_true rfl) (kc2 := 0) (ks2 := 0) (by decide) ?_
    refine j_if_ne (pc := 51) C d_Gr_readFunction_51 (tgt := 56) rfl (fun h4 => ?_) (fun h4 => ?_)
    · rw [if_neg h4] at hf
      refine j_aload_n (pc := 56) C d_Gr_readFunction_56 rfl 0 rfl ?_
      obtain ⟨q5, eq5, hf⟩ := ob hf
      refine j_callVi (pc := 57) C (rest := []) d_Gr_readFunction_57 (c_Gr_readParameters (g := g) (ad := ad) eq5) cv_Gr_readParameters tw494 23 rfl rfl cut_same rfl rfl (Nat.le_of_ble_eq_true rfl) (kc2 := 0) (ks2 := 0) (by decide) ?_
      refine j_istore (pc := 60) C d_Gr_readFunction_60 [1, 2, 3, 4, 0] (by decide) (lc' := [(0, .ref (ad 23)), (1, .int a1), (2, .int a2), (3, .int (d.2 6)), (4, .int q5.1)]) rfl ?_
      refine j_iload (pc := 62) C d_Gr_readFunction_62 4 rfl ?_
      refine j_iconst (pc := 64) C d_Gr_readFunction_64 ck_m1 ?_
      refine j_icmp_eq (pc := 65) C d_Gr_readFunction_65 (tgt := 77) rfl (fun h6 => ?_) (fun h6 => ?_)
      · rw [if_pos h6] at hf
        refine j_iconst (pc := 77) C d_Gr_readFunction_77 ck_0 ?_
        cases hf
        exact j_zret (pc := 78) C d_Gr_readFunction_78 rfl ⟨rfl, rfl⟩ (Nat.le_of_ble_eq_true rfl) (Nat.le_of_ble_eq_true rfl)
      · rw [if_neg h6] at hf
        refine j_aload_n (pc := 68) C d_Gr_readFunction_68 rfl 0 rfl ?_
        refine j_iconst (pc := 69) C d_Gr_readFunction_69 ck_0 ?_
        refine j_iconst (pc := 70) C d_Gr_readFunction_70 ck_m1 ?_
        obtain ⟨q7, eq7, hf⟩ := ob hf
        refine j_callVi (pc := 71) C (rest := []) d_Gr_readFunction_71 (c_Gr_openBlock (g := g) (ad := ad) eq7) cv_Gr_openBlock tw502 23 rfl rfl cut_same rfl rfl (Nat.le_of_ble_eq_true rfl) (kc2 := 0) (ks2 := 0) (by decide) ?_
        refine j_if_ne (pc := 74) C d_Gr_readFunction_74 (tgt := 79) rfl (fun h8 => ?_) (fun h8 => ?_)
        · rw [if_neg h8] at hf
          refine j_iconst (pc := 79) C d_Gr_readFunction_79 ck_0 ?_
          refine j_istore (pc := 80) C d_Gr_readFunction_80 [1, 2, 3, 4, 5, 0] (by decide) (lc' := [(0, .ref (ad 23)), (1, .int a1), (2, .int a2), (3, .int (d.2 6)), (4, .int q5.1), (5, .int 0)]) rfl ?_
          exact L82 100000 (a1, a2, d.2 6, q5.1, 0, q7.2) hf
        · rw [if_pos h8] at hf
          refine j_iconst (pc := 77) C d_Gr_readFunction_77 ck_0 ?_
          cases hf
          exact j_zret (pc := 78) C d_Gr_readFunction_78 rfl ⟨rfl, rfl⟩ (Nat.le_of_ble_eq_true rfl) (Nat.le_of_ble_eq_true rfl)
    · rw [if_pos h4] at hf
      refine j_iconst (pc := 54) C d_Gr_readFunction_54 ck_0 ?_
      cases hf
      exact j_zret (pc := 55) C d_Gr_readFunction_55 rfl ⟨rfl, rfl⟩ (Nat.le_of_ble_eq_true rfl) (Nat.le_of_ble_eq_true rfl)
  · rw [if_pos h2] at hf
    refine j_iconst (pc := 34) C d_Gr_readFunction_34 ck_0 ?_
    cases hf
    exact j_zret (pc := 35) C d_Gr_readFunction_35 rfl ⟨rfl, rfl⟩ (Nat.le_of_ble_eq_true rfl) (Nat.le_of_ble_eq_true rfl)
abbrev rm_Na_clear : Room := { frames := 0, cells := 0, slots := 0, locals := 0 }
theorem cv_Na_clear : CV y_Na_clear b_Na_clear 2 none 0 := ⟨⟨tw476, tw7, by decide +kernel⟩, tw474, tw475⟩
set_option maxHeartbeats 4000000 in
set_option maxRecDepth 100000 in
theorem c_Na_clear {g : GT} {ad : Nat → Nat} {d : DS} {q : DS} (hf : f_Na_clear d = some q) : MV g y_Na_clear b_Na_clear 2 none rm_Na_clear [.ref (ad 12)] (wD g ad d.1 d.2) (wD g ad q.1 q.2) := by
  refine MV.of (by decide) (Nat.le_of_ble_eq_true rfl) (fun 𝒥 C => ?_)
  have L2 : ∀ (n : Nat) (x : Int32 × DS), lpN (BNa_clear_2) n x = some q → 𝒥 0 0 (wD g ad x.2.1 x.2.2) [(0, .ref (ad 12)), (1, .int x.1)] [] 2 := by
    refine lp_ind (fun k2 k2_ih x hf => ?_)
    unfold BNa_clear_2 at hf
    refine j_iload_n (pc := 2) C d_Na_clear_2 rfl 1 rfl ?_
    refine j_aload_n (pc := 3) C d_Na_clear_3 rfl 0 rfl ?_
    refine j_get (pc := 4) C d_Na_clear_4 12 7 wD_o12 rfl (v := .ref (ad 3)) rfl (by decide) tw189 ?_
    refine j_get (pc := 7) C d_Na_clear_7 3 4 wD_o3 rfl (v := .int (x.2.2 4)) rfl (by decide) tw124 ?_
    refine j_icmp_ge (pc := 10) C d_Na_clear_10 (tgt := 40) rfl (fun h1 => ?_) (fun h1 => ?_)
    · rw [if_pos h1] at hf
      cases hf
      exact j_vret (pc := 40) C d_Na_clear_40 ⟨rfl, rfl⟩ (Nat.le_of_ble_eq_true rfl) (Nat.le_of_ble_eq_true rfl)
    · rw [if_neg h1] at hf
      refine j_aload_n (pc := 13) C d_Na_clear_13 rfl 0 rfl ?_
      refine j_get (pc := 14) C d_Na_clear_14 12 0 wD_o12 rfl (v := .ref (ad 13)) rfl (by decide) tw172 ?_
      refine j_iload_n (pc := 17) C d_Na_clear_17 rfl 1 rfl ?_
      refine j_iconst (pc := 18) C d_Na_clear_18 ck_0 ?_
      obtain ⟨b2, hf⟩ := og hf
      refine j_iast (pc := 19) C d_Na_clear_19 13 (inb_in b2) wD_a13 (ws' := wD g ad (va_up x.2.1 13 (upd (x.2.1 13) x.1.toNatClampNeg 0)) x.2.2) wD_s13 ?_
      refine j_aload_n (pc := 20) C d_Na_clear_20 rfl 0 rfl ?_
      refine j_get (pc := 21) C d_Na_clear_21 12 1 wD_o12 rfl (v := .ref (ad 14)) rfl (by decide) tw175 ?_
      refine j_iload_n (pc := 24) C d_Na_clear_24 rfl 1 rfl ?_
      refine j_iconst (pc := 25) C d_Na_clear_25 ck_m1 ?_
      obtain ⟨b3, hf⟩ := og hf
      refine j_iast (pc := 26) C d_Na_clear_26 14 (inb_in b3) wD_a14 (ws' := wD g ad (va_up (va_up x.2.1 13 (upd (x.2.1 13) x.1.toNatClampNeg 0)) 14 (upd (x.2.1 14) x.1.toNatClampNeg (-1))) x.2.2) wD_s14 ?_
      refine j_aload_n (pc := 27) C d_Na_clear_27 rfl 0 rfl ?_
      refine j_get (pc := 28) C d_Na_clear_28 12 2 wD_o12 rfl (v := .ref (ad 15)) rfl (by decide) tw179 ?_
      refine j_iload_n (pc := 31) C d_Na_clear_31 rfl 1 rfl ?_
      refine j_iconst (pc := 32) C d_Na_clear_32 ck_m1 ?_
      obtain ⟨b4, hf⟩ := og hf
      refine j_iast (pc := 33) C d_Na_clear_33 15 (inb_in b4) wD_a15 (ws' := wD g ad (va_up (va_up (va_up x.2.1 13 (upd (x.2.1 13) x.1.toNatClampNeg 0)) 14 (upd (x.2.1 14) x.1.toNatClampNeg (-1))) 15 (upd (x.2.1 15) x.1.toNatClampNeg (-1))) x.2.2) wD_s15 ?_
      refine j_iinc (pc := 34) C d_Na_clear_34 1 rfl (v := x.1 + 1) (iv ci_1) [1, 0] (by decide) (lc' := [(0, .ref (ad 12)), (1, .int (x.1 + 1))]) rfl ?_
      refine j_goto (pc := 37) C d_Na_clear_37 (tgt := 2) rfl ?_
      exact k2_ih (x.1 + 1, ((va_up (va_up (va_up x.2.1 13 (upd (x.2.1 13) x.1.toNatClampNeg 0)) 14 (upd (x.2.1 14) x.1.toNatClampNeg (-1))) 15 (upd (x.2.1 15) x.1.toNatClampNeg (-1))), x.2.2)) hf
  unfold f_Na_clear at hf
  change 𝒥 0 0 (wD g ad d.1 d.2) [(0, .ref (ad 12))] [] 0
  refine j_iconst (pc := 0) C d_Na_clear_0 ck_0 ?_
  refine j_istore_n (pc := 1) C d_Na_clear_1 rfl [1, 0] (by decide) (lc' := [(0, .ref (ad 12)), (1, .int 0)]) rfl ?_
  exact L2 100000 (0, d) hf
abbrev rm_To_begin : Room := { frames := 0, cells := 0, slots := 0, locals := 0 }
theorem cv_To_begin : CV y_To_begin b_To_begin 4 none 3 := ⟨⟨tw465, tw5, by decide +kernel⟩, tw464, (sw_ (q := (y_To_begin, 5)) (by decide +kernel) (by decide +kernel))⟩
set_option maxHeartbeats 4000000 in
set_option maxRecDepth 100000 in
theorem c_To_begin {g : GT} {ad : Nat → Nat} {a1 : Int32} {a2 : Int32} {a3 : Int32} {d : DS} {q : DS} (hf : f_To_begin a1 a2 a3 d = some q) : MV g y_To_begin b_To_begin 4 none rm_To_begin [.ref (ad 3), .int a1, .int a2, .int a3] (wD g ad d.1 d.2) (wD g ad q.1 q.2) := by
  refine MV.of (by decide) (Nat.le_of_ble_eq_true rfl) (fun 𝒥 C => ?_)
  unfold f_To_begin at hf
  change 𝒥 0 0 (wD g ad d.1 d.2) [(0, .ref (ad 3)), (1, .int a1), (2, .int a2), (3, .int a3)] [] 0
  refine j_aload_n (pc := 0) C d_To_begin_0 rfl 0 rfl ?_
  refine j_get (pc := 1) C d_To_begin_1 3 0 wD_o3 rfl (v := .ref (ad 4)) rfl (by decide) tw108 ?_
  refine j_aload_n (pc := 4) C d_To_begin_4 rfl 0 rfl ?_
  refine j_get (pc := 5) C d_To_begin_5 3 4 wD_o3 rfl (v := .int (d.2 4)) rfl (by decide) tw123 ?_
  refine j_iload_n (pc := 8) C d_To_begin_8 rfl 2 rfl ?_
  obtain ⟨b1, hf⟩ := og hf
  refine j_iast (pc := 9) C d_To_begin_9 4 (inb_in b1) wD_a4 (ws' := wD g ad (va_up d.1 4 (upd (d.1 4) (d.2 4).toNatClampNeg a2)) d.2) wD_s4 ?_
  refine j_aload_n (pc := 10) C d_To_begin_10 rfl 0 rfl ?_
  refine j_get (pc := 11) C d_To_begin_11 3 2 wD_o3 rfl (v := .ref (ad 6)) rfl (by decide) tw117 ?_
  refine j_aload_n (pc := 14) C d_To_begin_14 rfl 0 rfl ?_
  refine j_get (pc := 15) C d_To_begin_15 3 4 wD_o3 rfl (v := .int (d.2 4)) rfl (by decide) tw123 ?_
  refine j_iload_n (pc := 18) C d_To_begin_18 rfl 1 rfl ?_
  obtain ⟨b2, hf⟩ := og hf
  refine j_iast (pc := 19) C d_To_begin_19 6 (inb_in b2) wD_a6 (ws' := wD g ad (va_up (va_up d.1 4 (upd (d.1 4) (d.2 4).toNatClampNeg a2)) 6 (upd (d.1 6) (d.2 4).toNatClampNeg a1)) d.2) wD_s6 ?_
  refine j_aload_n (pc := 20) C d_To_begin_20 rfl 0 rfl ?_
  refine j_get (pc := 21) C d_To_begin_21 3 3 wD_o3 rfl (v := .ref (ad 7)) rfl (by decide) tw120 ?_
  refine j_aload_n (pc := 24) C d_To_begin_24 rfl 0 rfl ?_
  refine j_get (pc := 25) C d_To_begin_25 3 4 wD_o3 rfl (v := .int (d.2 4)) rfl (by decide) tw123 ?_
  refine j_iload_n (pc := 28) C d_To_begin_28 rfl 1 rfl ?_
  refine j_iconst (pc := 29) C d_To_begin_29 ck_1 ?_
  refine j_iadd (pc := 30) C d_To_begin_30 ?_
  obtain ⟨b3, hf⟩ := og hf
  refine j_iast (pc := 31) C d_To_begin_31 7 (inb_in b3) wD_a7 (ws' := wD g ad (va_up (va_up (va_up d.1 4 (upd (d.1 4) (d.2 4).toNatClampNeg a2)) 6 (upd (d.1 6) (d.2 4).toNatClampNeg a1)) 7 (upd (d.1 7) (d.2 4).toNatClampNeg (a1 + 1))) d.2) wD_s7 ?_
  refine j_aload_n (pc := 32) C d_To_begin_32 rfl 0 rfl ?_
  refine j_get (pc := 33) C d_To_begin_33 3 1 wD_o3 rfl (v := .ref (ad 5)) rfl (by decide) tw111 ?_
  refine j_aload_n (pc := 36) C d_To_begin_36 rfl 0 rfl ?_
  refine j_get (pc := 37) C d_To_begin_37 3 4 wD_o3 rfl (v := .int (d.2 4)) rfl (by decide) tw123 ?_
  refine j_iload_n (pc := 40) C d_To_begin_40 rfl 3 rfl ?_
  obtain ⟨b4, hf⟩ := og hf
  refine j_iast (pc := 41) C d_To_begin_41 5 (inb_in b4) wD_a5 (ws' := wD g ad (va_up (va_up (va_up (va_up d.1 4 (upd (d.1 4) (d.2 4).toNatClampNeg a2)) 6 (upd (d.1 6) (d.2 4).toNatClampNeg a1)) 7 (upd (d.1 7) (d.2 4).toNatClampNeg (a1 + 1))) 5 (upd (d.1 5) (d.2 4).toNatClampNeg a3)) d.2) wD_s5 ?_
  refine j_iload_n (pc := 42) C d_To_begin_42 rfl 2 rfl ?_
  refine j_iconst (pc := 43) C d_To_begin_43 ck_2 ?_
  refine j_icmp_ne (pc := 44) C d_To_begin_44 (tgt := 65) rfl (fun h5 => ?_) (fun h5 => ?_)
  · rw [if_neg h5] at hf
    refine j_iload_n (pc := 65) C d_To_begin_65 rfl 2 rfl ?_
    refine j_iconst (pc := 66) C d_To_begin_66 ck_3 ?_
    refine j_icmp_ne (pc := 67) C d_To_begin_67 (tgt := 83) rfl (fun h6 => ?_) (fun h6 => ?_)
    · rw [if_neg h6] at hf
      refine j_aload_n (pc := 83) C d_To_begin_83 rfl 0 rfl ?_
      refine j_dup (pc := 84) C d_To_begin_84 rfl ?_
      refine j_get (pc := 85) C d_To_begin_85 3 4 wD_o3 rfl (v := .int (d.2 4)) rfl (by decide) tw123 ?_
      refine j_iconst (pc := 88) C d_To_begin_88 ck_1 ?_
      refine j_iadd (pc := 89) C d_To_begin_89 ?_
      refine j_put (pc := 90) C d_To_begin_90 3 4 wD_o3 rfl (by decide) tw123 pd_I rfl rfl rfl (Nat.le_of_ble_eq_true rfl) (ws' := wD g ad (va_up (va_up (va_up (va_up d.1 4 (upd (d.1 4) (d.2 4).toNatClampNeg a2)) 6 (upd (d.1 6) (d.2 4).toNatClampNeg a1)) 7 (upd (d.1 7) (d.2 4).toNatClampNeg (a1 + 1))) 5 (upd (d.1 5) (d.2 4).toNatClampNeg a3)) (va_up d.2 4 ((d.2 4) + 1))) wD_p3_4 ?_
      cases hf
      exact j_vret (pc := 93) C d_To_begin_93 ⟨rfl, rfl⟩ (Nat.le_of_ble_eq_true rfl) (Nat.le_of_ble_eq_true rfl)
    · rw [if_pos h6] at hf
      refine j_aload_n (pc := 70) C d_To_begin_70 rfl 0 rfl ?_
      refine j_get (pc := 71) C d_To_begin_71 3 1 wD_o3 rfl (v := .ref (ad 5)) rfl (by decide) tw111 ?_
      refine j_aload_n (pc := 74) C d_To_begin_74 rfl 0 rfl ?_
      refine j_get (pc := 75) C d_To_begin_75 3 4 wD_o3 rfl (v := .int (d.2 4)) rfl (by decide) tw123 ?_
      refine j_iload_n (pc := 78) C d_To_begin_78 rfl 3 rfl ?_
      refine j_bipush (pc := 79) C d_To_begin_79 cb_48 ?_
      refine j_isub (pc := 81) C d_To_begin_81 ?_
      obtain ⟨b7, hf⟩ := og hf
      refine j_iast (pc := 82) C d_To_begin_82 5 (inb_in b7) wD_a5 (ws' := wD g ad (va_up (va_up (va_up (va_up (va_up d.1 4 (upd (d.1 4) (d.2 4).toNatClampNeg a2)) 6 (upd (d.1 6) (d.2 4).toNatClampNeg a1)) 7 (upd (d.1 7) (d.2 4).toNatClampNeg (a1 + 1))) 5 (upd (d.1 5) (d.2 4).toNatClampNeg a3)) 5 (upd (upd (d.1 5) (d.2 4).toNatClampNeg a3) (d.2 4).toNatClampNeg (a3 - 48))) d.2) wD_s5 ?_
      refine j_aload_n (pc := 83) C d_To_begin_83 rfl 0 rfl ?_
      refine j_dup (pc := 84) C d_To_begin_84 rfl ?_
      refine j_get (pc := 85) C d_To_begin_85 3 4 wD_o3 rfl (v := .int (d.2 4)) rfl (by decide) tw123 ?_
      refine j_iconst (pc := 88) C d_To_begin_88 ck_1 ?_
      refine j_iadd (pc := 89) C d_To_begin_89 ?_
      refine j_put (pc := 90) C d_To_begin_90 3 4 wD_o3 rfl (by decide) tw123 pd_I rfl rfl rfl (Nat.le_of_ble_eq_true rfl) (ws' := wD g ad (va_up (va_up (va_up (va_up (va_up d.1 4 (upd (d.1 4) (d.2 4).toNatClampNeg a2)) 6 (upd (d.1 6) (d.2 4).toNatClampNeg a1)) 7 (upd (d.1 7) (d.2 4).toNatClampNeg (a1 + 1))) 5 (upd (d.1 5) (d.2 4).toNatClampNeg a3)) 5 (upd (upd (d.1 5) (d.2 4).toNatClampNeg a3) (d.2 4).toNatClampNeg (a3 - 48))) (va_up d.2 4 ((d.2 4) + 1))) wD_p3_4 ?_
      cases hf
      exact j_vret (pc := 93) C d_To_begin_93 ⟨rfl, rfl⟩ (Nat.le_of_ble_eq_true rfl) (Nat.le_of_ble_eq_true rfl)
  · rw [if_pos h5] at hf
    refine j_aload_n (pc := 47) C d_To_begin_47 rfl 0 rfl ?_
    refine j_get (pc := 48) C d_To_begin_48 3 1 wD_o3 rfl (v := .ref (ad 5)) rfl (by decide) tw111 ?_
    refine j_aload_n (pc := 51) C d_To_begin_51 rfl 0 rfl ?_
    refine j_get (pc := 52) C d_To_begin_52 3 4 wD_o3 rfl (v := .int (d.2 4)) rfl (by decide) tw123 ?_
    refine j_iload_n (pc := 55) C d_To_begin_55 rfl 3 rfl ?_
    refine j_bipush (pc := 56) C d_To_begin_56 cb_97 ?_
    refine j_isub (pc := 58) C d_To_begin_58 ?_
    refine j_iconst (pc := 59) C d_To_begin_59 ck_1 ?_
    refine j_iadd (pc := 60) C d_To_begin_60 ?_
    obtain ⟨b8, hf⟩ := og hf
    refine j_iast (pc := 61) C d_To_begin_61 5 (inb_in b8) wD_a5 (ws' := wD g ad (va_up (va_up (va_up (va_up (va_up d.1 4 (upd (d.1 4) (d.2 4).toNatClampNeg a2)) 6 (upd (d.1 6) (d.2 4).toNatClampNeg a1)) 7 (upd (d.1 7) (d.2 4).toNatClampNeg (a1 + 1))) 5 (upd (d.1 5) (d.2 4).toNatClampNeg a3)) 5 (upd (upd (d.1 5) (d.2 4).toNatClampNeg a3) (d.2 4).toNatClampNeg ((a3 - 97) + 1))) d.2) wD_s5 ?_
    refine j_goto (pc := 62) C d_To_begin_62 (tgt := 83) rfl ?_
    refine j_aload_n (pc := 83) C d_To_begin_83 rfl 0 rfl ?_
    refine j_dup (pc := 84) C d_To_begin_84 rfl ?_
    refine j_get (pc := 85) C d_To_begin_85 3 4 wD_o3 rfl (v := .int (d.2 4)) rfl (by decide) tw123 ?_
    refine j_iconst (pc := 88) C d_To_begin_88 ck_1 ?_
    refine j_iadd (pc := 89) C d_To_begin_89 ?_
    refine j_put (pc := 90) C d_To_begin_90 3 4 wD_o3 rfl (by decide) tw123 pd_I rfl rfl rfl (Nat.le_of_ble_eq_true rfl) (ws' := wD g ad (va_up (va_up (va_up (va_up (va_up d.1 4 (upd (d.1 4) (d.2 4).toNatClampNeg a2)) 6 (upd (d.1 6) (d.2 4).toNatClampNeg a1)) 7 (upd (d.1 7) (d.2 4).toNatClampNeg (a1 + 1))) 5 (upd (d.1 5) (d.2 4).toNatClampNeg a3)) 5 (upd (upd (d.1 5) (d.2 4).toNatClampNeg a3) (d.2 4).toNatClampNeg ((a3 - 97) + 1))) (va_up d.2 4 ((d.2 4) + 1))) wD_p3_4 ?_
    cases hf
    exact j_vret (pc := 93) C d_To_begin_93 ⟨rfl, rfl⟩ (Nat.le_of_ble_eq_true rfl) (Nat.le_of_ble_eq_true rfl)
abbrev rm_To_groupOf : Room := { frames := 4, cells := 0, slots := 0, locals := 91 }
theorem cv_To_groupOf : CS y_To_groupOf b_To_groupOf 1 (some .int) 1 := ⟨⟨tw370, tw5, by decide +kernel⟩, tw369⟩
set_option maxHeartbeats 4000000 in
set_option maxRecDepth 100000 in
theorem c_To_groupOf {g : GT} {a0 : Int32} {q : Int32} (hf : f_To_groupOf a0 = some q) : MI g y_To_groupOf b_To_groupOf 1 (some .int) rm_To_groupOf [.int a0] ([]) q ([]) := by
  refine MI.of (by decide) (Nat.le_of_ble_eq_true rfl) (fun 𝒥 C => ?_)
  unfold f_To_groupOf at hf
  change 𝒥 0 0 ([]) [(0, .int a0)] [] 0
  refine j_iload_n (pc := 0) C d_To_groupOf_0 rfl 0 rfl ?_
  refine j_bipush (pc := 1) C d_To_groupOf_1 cb_32 ?_
  refine j_icmp_ne (pc := 3) C d_To_groupOf_3 (tgt := 8) rfl (fun h1 => ?_) (fun h1 => ?_)
  · rw [if_neg h1] at hf
    refine j_iload_n (pc := 8) C d_To_groupOf_8 rfl 0 rfl ?_
    refine j_bipush (pc := 9) C d_To_groupOf_9 cb_97 ?_
    refine j_icmp_lt (pc := 11) C d_To_groupOf_11 (tgt := 22) rfl (fun h2 => ?_) (fun h2 => ?_)
    · rw [if_pos h2] at hf
      refine j_iload_n (pc := 22) C d_To_groupOf_22 rfl 0 rfl ?_
      refine j_bipush (pc := 23) C d_To_groupOf_23 cb_48 ?_
      refine j_icmp_lt (pc := 25) C d_To_groupOf_25 (tgt := 36) rfl (fun h3 => ?_) (fun h3 => ?_)
      · rw [if_pos h3] at hf
        refine j_ldcS (pc := 36) C rfl d_To_groupOf_36 ?_
        refine j_iload_n (pc := 38) C d_To_groupOf_38 rfl 0 rfl ?_
        refine j_callKi (pc := 39) C (rest := []) d_To_groupOf_39 (c_St (g := g)) cv_S1 rfl (tc_2 132 rfl rfl) cut_none rfl rfl (Nat.le_of_ble_eq_true rfl) (kc2 := 0) (ks2 := 0) (by decide) ?_
        refine j_if_lt (pc := 42) C d_To_groupOf_42 (tgt := 49) rfl (fun h4 => ?_) (fun h4 => ?_)
        · rw [if_pos h4] at hf
          refine j_iconst (pc := 49) C d_To_groupOf_49 ck_5 ?_
          cases hf
          exact j_iret (pc := 50) C d_To_groupOf_50 ⟨rfl, rfl⟩ (Nat.le_of_ble_eq_true rfl) (Nat.le_of_ble_eq_true rfl)
        · rw [if_neg h4] at hf
          refine j_iconst (pc := 45) C d_To_groupOf_45 ck_4 ?_
          refine j_goto (pc := 46) C d_To_groupOf_46 (tgt := 50) rfl ?_
          cases hf
          exact j_iret (pc := 50) C d_To_groupOf_50 ⟨rfl, rfl⟩ (Nat.le_of_ble_eq_true rfl) (Nat.le_of_ble_eq_true rfl)
      · rw [if_neg h3] at hf
        refine j_iload_n (pc := 28) C d_To_groupOf_28 rfl 0 rfl ?_
        refine j_bipush (pc := 29) C d_To_groupOf_29 cb_57 ?_
        refine j_icmp_gt (pc := 31) C d_To_groupOf_31 (tgt := 36) rfl (fun h5 => ?_) (fun h5 => ?_)
        · rw [if_pos h5] at hf
          refine j_ldcS (pc := 36) C rfl d_To_groupOf_36 ?_
          refine j_iload_n (pc := 38) C d_To_groupOf_38 rfl 0 rfl ?_
          refine j_callKi (pc := 39) C (rest := []) d_To_groupOf_39 (c_St (g := g)) cv_S1 rfl (tc_2 132 rfl rfl) cut_none rfl rfl (Nat.le_of_ble_eq_true rfl) (kc2 := 0) (ks2 := 0) (by decide) ?_
          refine j_if_lt (pc := 42) C d_To_groupOf_42 (tgt := 49) rfl (fun h6 => ?_) (fun h6 => ?_)
          · rw [if_pos h6] at hf
            refine j_iconst (pc := 49) C d_To_groupOf_49 ck_5 ?_
            cases hf
            exact j_iret (pc := 50) C d_To_groupOf_50 ⟨rfl, rfl⟩ (Nat.le_of_ble_eq_true rfl) (Nat.le_of_ble_eq_true rfl)
          · rw [if_neg h6] at hf
            refine j_iconst (pc := 45) C d_To_groupOf_45 ck_4 ?_
            refine j_goto (pc := 46) C d_To_groupOf_46 (tgt := 50) rfl ?_
            cases hf
            exact j_iret (pc := 50) C d_To_groupOf_50 ⟨rfl, rfl⟩ (Nat.le_of_ble_eq_true rfl) (Nat.le_of_ble_eq_true rfl)
        · rw [if_neg h5] at hf
          refine j_iconst (pc := 34) C d_To_groupOf_34 ck_3 ?_
          cases hf
          exact j_iret (pc := 35) C d_To_groupOf_35 ⟨rfl, rfl⟩ (Nat.le_of_ble_eq_true rfl) (Nat.le_of_ble_eq_true rfl)
    · rw [if_neg h2] at hf
      refine j_iload_n (pc := 14) C d_To_groupOf_14 rfl 0 rfl ?_
      refine j_bipush (pc := 15) C d_To_groupOf_15 cb_122 ?_
      refine j_icmp_gt (pc := 17) C d_To_groupOf_17 (tgt := 22) rfl (fun h7 => ?_) (fun h7 => ?_)
      · rw [if_pos h7] at hf
        refine j_iload_n (pc := 22) C d_To_groupOf_22 rfl 0 rfl ?_
        refine j_bipush (pc := 23) C d_To_groupOf_23 cb_48 ?_
        refine j_icmp_lt (pc := 25) C d_To_groupOf_25 (tgt := 36) rfl (fun h8 => ?_) (fun h8 => ?_)
        · rw [if_pos h8] at hf
          refine j_ldcS (pc := 36) C rfl d_To_groupOf_36 ?_
          refine j_iload_n (pc := 38) C d_To_groupOf_38 rfl 0 rfl ?_
          refine j_callKi (pc := 39) C (rest := []) d_To_groupOf_39 (c_St (g := g)) cv_S1 rfl (tc_2 132 rfl rfl) cut_none rfl rfl (Nat.le_of_ble_eq_true rfl) (kc2 := 0) (ks2 := 0) (by decide) ?_
          refine j_if_lt (pc := 42) C d_To_groupOf_42 (tgt := 49) rfl (fun h9 => ?_) (fun h9 => ?_)
          · rw [if_pos h9] at hf
            refine j_iconst (pc := 49) C d_To_groupOf_49 ck_5 ?_
            cases hf
            exact j_iret (pc := 50) C d_To_groupOf_50 ⟨rfl, rfl⟩ (Nat.le_of_ble_eq_true rfl) (Nat.le_of_ble_eq_true rfl)
          · rw [if_neg h9] at hf
            refine j_iconst (pc := 45) C d_To_groupOf_45 ck_4 ?_
            refine j_goto (pc := 46) C d_To_groupOf_46 (tgt := 50) rfl ?_
            cases hf
            exact j_iret (pc := 50) C d_To_groupOf_50 ⟨rfl, rfl⟩ (Nat.le_of_ble_eq_true rfl) (Nat.le_of_ble_eq_true rfl)
        · rw [if_neg h8] at hf
          refine j_iload_n (pc := 28) C d_To_groupOf_28 rfl 0 rfl ?_
          refine j_bipush (pc := 29) C d_To_groupOf_29 cb_57 ?_
          refine j_icmp_gt (pc := 31) C d_To_groupOf_31 (tgt := 36) rfl (fun h10 => ?_) (fun h10 => ?_)
          · rw [if_pos h10] at hf
            refine j_ldcS (pc := 36) C rfl d_To_groupOf_36 ?_
            refine j_iload_n (pc := 38) C d_To_groupOf_38 rfl 0 rfl ?_
            refine j_callKi (pc := 39) C (rest := []) d_To_groupOf_39 (c_St (g := g)) cv_S1 rfl (tc_2 132 rfl rfl) cut_none rfl rfl (Nat.le_of_ble_eq_true rfl) (kc2 := 0) (ks2 := 0) (by decide) ?_
            refine j_if_lt (pc := 42) C d_To_groupOf_42 (tgt := 49) rfl (fun h11 => ?_) (fun h11 => ?_)
            · rw [if_pos h11] at hf
              refine j_iconst (pc := 49) C d_To_groupOf_49 ck_5 ?_
              cases hf
              exact j_iret (pc := 50) C d_To_groupOf_50 ⟨rfl, rfl⟩ (Nat.le_of_ble_eq_true rfl) (Nat.le_of_ble_eq_true rfl)
            · rw [if_neg h11] at hf
              refine j_iconst (pc := 45) C d_To_groupOf_45 ck_4 ?_
              refine j_goto (pc := 46) C d_To_groupOf_46 (tgt := 50) rfl ?_
              cases hf
              exact j_iret (pc := 50) C d_To_groupOf_50 ⟨rfl, rfl⟩ (Nat.le_of_ble_eq_true rfl) (Nat.le_of_ble_eq_true rfl)
          · rw [if_neg h10] at hf
            refine j_iconst (pc := 34) C d_To_groupOf_34 ck_3 ?_
            cases hf
            exact j_iret (pc := 35) C d_To_groupOf_35 ⟨rfl, rfl⟩ (Nat.le_of_ble_eq_true rfl) (Nat.le_of_ble_eq_true rfl)
      · rw [if_neg h7] at hf
        refine j_iconst (pc := 20) C d_To_groupOf_20 ck_2 ?_
        cases hf
        exact j_iret (pc := 21) C d_To_groupOf_21 ⟨rfl, rfl⟩ (Nat.le_of_ble_eq_true rfl) (Nat.le_of_ble_eq_true rfl)
  · rw [if_pos h1] at hf
    refine j_iconst (pc := 6) C d_To_groupOf_6 ck_0 ?_
    cases hf
    exact j_iret (pc := 7) C d_To_groupOf_7 ⟨rfl, rfl⟩ (Nat.le_of_ble_eq_true rfl) (Nat.le_of_ble_eq_true rfl)
abbrev rm_To_lengthen : Room := { frames := 0, cells := 0, slots := 0, locals := 0 }
theorem cv_To_lengthen : CV y_To_lengthen b_To_lengthen 4 none 1 := ⟨⟨tw461, tw5, by decide +kernel⟩, tw460, (sw_ (q := (y_To_lengthen, 5)) (by decide +kernel) (by decide +kernel))⟩
set_option maxHeartbeats 4000000 in
set_option maxRecDepth 100000 in
theorem c_To_lengthen {g : GT} {ad : Nat → Nat} {a1 : Int32} {d : DS} {q : DS} (hf : f_To_lengthen a1 d = some q) : MV g y_To_lengthen b_To_lengthen 4 none rm_To_lengthen [.ref (ad 3), .int a1] (wD g ad d.1 d.2) (wD g ad q.1 q.2) := by
  refine MV.of (by decide) (Nat.le_of_ble_eq_true rfl) (fun 𝒥 C => ?_)
  unfold f_To_lengthen at hf
  change 𝒥 0 0 (wD g ad d.1 d.2) [(0, .ref (ad 3)), (1, .int a1)] [] 0
  refine j_aload_n (pc := 0) C d_To_lengthen_0 rfl 0 rfl ?_
  refine j_get (pc := 1) C d_To_lengthen_1 3 4 wD_o3 rfl (v := .int (d.2 4)) rfl (by decide) tw123 ?_
  refine j_iconst (pc := 4) C d_To_lengthen_4 ck_1 ?_
  refine j_isub (pc := 5) C d_To_lengthen_5 ?_
  refine j_istore_n (pc := 6) C d_To_lengthen_6 rfl [1, 2, 0] (by decide) (lc' := [(0, .ref (ad 3)), (1, .int a1), (2, .int ((d.2 4) - 1))]) rfl ?_
  refine j_aload_n (pc := 7) C d_To_lengthen_7 rfl 0 rfl ?_
  refine j_get (pc := 8) C d_To_lengthen_8 3 3 wD_o3 rfl (v := .ref (ad 7)) rfl (by decide) tw120 ?_
  refine j_iload_n (pc := 11) C d_To_lengthen_11 rfl 2 rfl ?_
  obtain ⟨b1, hf⟩ := og hf
  refine j_iald (pc := 12) C d_To_lengthen_12 7 (inb_in b1) (x := d.1 7 ((d.2 4) - 1).toNatClampNeg) wD_a7 rfl ?_
  refine j_aload_n (pc := 13) C d_To_lengthen_13 rfl 0 rfl ?_
  refine j_get (pc := 14) C d_To_lengthen_14 3 2 wD_o3 rfl (v := .ref (ad 6)) rfl (by decide) tw117 ?_
  refine j_iload_n (pc := 17) C d_To_lengthen_17 rfl 2 rfl ?_
  obtain ⟨b2, hf⟩ := og hf
  refine j_iald (pc := 18) C d_To_lengthen_18 6 (inb_in b2) (x := d.1 6 ((d.2 4) - 1).toNatClampNeg) wD_a6 rfl ?_
  refine j_isub (pc := 19) C d_To_lengthen_19 ?_
  refine j_topi C (fun v3 ev3 => ?_)
  replace hf := ov ev3 hf
  refine j_istore_n (pc := 20) C d_To_lengthen_20 rfl [1, 2, 3, 0] (by decide) (lc' := [(0, .ref (ad 3)), (1, .int a1), (2, .int ((d.2 4) - 1)), (3, .int v3)]) rfl ?_
  refine j_aload_n (pc := 21) C d_To_lengthen_21 rfl 0 rfl ?_
  refine j_get (pc := 22) C d_To_lengthen_22 3 0 wD_o3 rfl (v := .ref (ad 4)) rfl (by decide) tw108 ?_
  refine j_iload_n (pc := 25) C d_To_lengthen_25 rfl 2 rfl ?_
  obtain ⟨b4, hf⟩ := og hf
  refine j_iald (pc := 26) C d_To_lengthen_26 4 (inb_in b4) (x := d.1 4 ((d.2 4) - 1).toNatClampNeg) wD_a4 rfl ?_
  refine j_iconst (pc := 27) C d_To_lengthen_27 ck_3 ?_
  refine j_icmp_ne (pc := 28) C d_To_lengthen_28 (tgt := 54) rfl (fun h5 => ?_) (fun h5 => ?_)
  · rw [if_neg h5] at hf
    refine j_iload_n (pc := 54) C d_To_lengthen_54 rfl 3 rfl ?_
    refine j_bipush (pc := 55) C d_To_lengthen_55 cb_6 ?_
    refine j_icmp_ge (pc := 57) C d_To_lengthen_57 (tgt := 79) rfl (fun h6 => ?_) (fun h6 => ?_)
    · rw [if_pos h6] at hf
      refine j_aload_n (pc := 79) C d_To_lengthen_79 rfl 0 rfl ?_
      refine j_get (pc := 80) C d_To_lengthen_80 3 3 wD_o3 rfl (v := .ref (ad 7)) rfl (by decide) tw120 ?_
      refine j_iload_n (pc := 83) C d_To_lengthen_83 rfl 2 rfl ?_
      refine j_dup2 (pc := 84) C d_To_lengthen_84 rfl rfl ?_
      obtain ⟨b7, hf⟩ := og hf
      refine j_iald (pc := 85) C d_To_lengthen_85 7 (inb_in b7) (x := d.1 7 ((d.2 4) - 1).toNatClampNeg) wD_a7 rfl ?_
      refine j_iconst (pc := 86) C d_To_lengthen_86 ck_1 ?_
      refine j_iadd (pc := 87) C d_To_lengthen_87 ?_
      obtain ⟨b8, hf⟩ := og hf
      refine j_iast (pc := 88) C d_To_lengthen_88 7 (inb_in b8) wD_a7 (ws' := wD g ad (va_up d.1 7 (upd (d.1 7) ((d.2 4) - 1).toNatClampNeg ((d.1 7 ((d.2 4) - 1).toNatClampNeg) + 1))) d.2) wD_s7 ?_
      cases hf
      exact j_vret (pc := 89) C d_To_lengthen_89 ⟨rfl, rfl⟩ (Nat.le_of_ble_eq_true rfl) (Nat.le_of_ble_eq_true rfl)
    · rw [if_neg h6] at hf
      refine j_aload_n (pc := 60) C d_To_lengthen_60 rfl 0 rfl ?_
      refine j_get (pc := 61) C d_To_lengthen_61 3 1 wD_o3 rfl (v := .ref (ad 5)) rfl (by decide) tw111 ?_
      refine j_iload_n (pc := 64) C d_To_lengthen_64 rfl 2 rfl ?_
      refine j_dup2 (pc := 65) C d_To_lengthen_65 rfl rfl ?_
      obtain ⟨b9, hf⟩ := og hf
      refine j_iald (pc := 66) C d_To_lengthen_66 5 (inb_in b9) (x := d.1 5 ((d.2 4) - 1).toNatClampNeg) wD_a5 rfl ?_
      refine j_iload_n (pc := 67) C d_To_lengthen_67 rfl 1 rfl ?_
      refine j_bipush (pc := 68) C d_To_lengthen_68 cb_97 ?_
      refine j_isub (pc := 70) C d_To_lengthen_70 ?_
      refine j_iconst (pc := 71) C d_To_lengthen_71 ck_1 ?_
      refine j_iadd (pc := 72) C d_To_lengthen_72 ?_
      refine j_iconst (pc := 73) C d_To_lengthen_73 ck_5 ?_
      refine j_iload_n (pc := 74) C d_To_lengthen_74 rfl 3 rfl ?_
      refine j_imul (pc := 75) C d_To_lengthen_75 ?_
      refine j_ishl (pc := 76) C d_To_lengthen_76 ?_
      refine j_ior (pc := 77) C d_To_lengthen_77 ?_
      refine j_topi C (fun v10 ev10 => ?_)
      replace hf := ov ev10 hf
      obtain ⟨b11, hf⟩ := og hf
      refine j_iast (pc := 78) C d_To_lengthen_78 5 (inb_in b11) wD_a5 (ws' := wD g ad (va_up d.1 5 (upd (d.1 5) ((d.2 4) - 1).toNatClampNeg v10)) d.2) wD_s5 ?_
      refine j_aload_n (pc := 79) C d_To_lengthen_79 rfl 0 rfl ?_
      refine j_get (pc := 80) C d_To_lengthen_80 3 3 wD_o3 rfl (v := .ref (ad 7)) rfl (by decide) tw120 ?_
      refine j_iload_n (pc := 83) C d_To_lengthen_83 rfl 2 rfl ?_
      refine j_dup2 (pc := 84) C d_To_lengthen_84 rfl rfl ?_
      obtain ⟨b12, hf⟩ := og hf
      refine j_iald (pc := 85) C d_To_lengthen_85 7 (inb_in b12) (x := d.1 7 ((d.2 4) - 1).toNatClampNeg) wD_a7 rfl ?_
      refine j_iconst (pc := 86) C d_To_lengthen_86 ck_1 ?_
      refine j_iadd (pc := 87) C d_To_lengthen_87 ?_
      obtain ⟨b13, hf⟩ := og hf
      refine j_iast (pc := 88) C d_To_lengthen_88 7 (inb_in b13) wD_a7 (ws' := wD g ad (va_up (va_up d.1 5 (upd (d.1 5) ((d.2 4) - 1).toNatClampNeg v10)) 7 (upd (d.1 7) ((d.2 4) - 1).toNatClampNeg ((d.1 7 ((d.2 4) - 1).toNatClampNeg) + 1))) d.2) wD_s7 ?_
      cases hf
      exact j_vret (pc := 89) C d_To_lengthen_89 ⟨rfl, rfl⟩ (Nat.le_of_ble_eq_true rfl) (Nat.le_of_ble_eq_true rfl)
  · rw [if_pos h5] at hf
    refine j_aload_n (pc := 31) C d_To_lengthen_31 rfl 0 rfl ?_
    refine j_get (pc := 32) C d_To_lengthen_32 3 1 wD_o3 rfl (v := .ref (ad 5)) rfl (by decide) tw111 ?_
    refine j_iload_n (pc := 35) C d_To_lengthen_35 rfl 2 rfl ?_
    refine j_aload_n (pc := 36) C d_To_lengthen_36 rfl 0 rfl ?_
    refine j_get (pc := 37) C d_To_lengthen_37 3 1 wD_o3 rfl (v := .ref (ad 5)) rfl (by decide) tw111 ?_
    refine j_iload_n (pc := 40) C d_To_lengthen_40 rfl 2 rfl ?_
    obtain ⟨b14, hf⟩ := og hf
    refine j_iald (pc := 41) C d_To_lengthen_41 5 (inb_in b14) (x := d.1 5 ((d.2 4) - 1).toNatClampNeg) wD_a5 rfl ?_
    refine j_bipush (pc := 42) C d_To_lengthen_42 cb_10 ?_
    refine j_imul (pc := 44) C d_To_lengthen_44 ?_
    refine j_iload_n (pc := 45) C d_To_lengthen_45 rfl 1 rfl ?_
    refine j_iadd (pc := 46) C d_To_lengthen_46 ?_
    refine j_topi C (fun v15 ev15 => ?_)
    replace hf := ov ev15 hf
    refine j_bipush (pc := 47) C d_To_lengthen_47 cb_48 ?_
    refine j_isub (pc := 49) C d_To_lengthen_49 ?_
    obtain ⟨b16, hf⟩ := og hf
    refine j_iast (pc := 50) C d_To_lengthen_50 5 (inb_in b16) wD_a5 (ws' := wD g ad (va_up d.1 5 (upd (d.1 5) ((d.2 4) - 1).toNatClampNeg (v15 - 48))) d.2) wD_s5 ?_
    refine j_goto (pc := 51) C d_To_lengthen_51 (tgt := 79) rfl ?_
    refine j_aload_n (pc := 79) C d_To_lengthen_79 rfl 0 rfl ?_
    refine j_get (pc := 80) C d_To_lengthen_80 3 3 wD_o3 rfl (v := .ref (ad 7)) rfl (by decide) tw120 ?_
    refine j_iload_n (pc := 83) C d_To_lengthen_83 rfl 2 rfl ?_
    refine j_dup2 (pc := 84) C d_To_lengthen_84 rfl rfl ?_
    obtain ⟨b17, hf⟩ := og hf
    refine j_iald (pc := 85) C d_To_lengthen_85 7 (inb_in b17) (x := d.1 7 ((d.2 4) - 1).toNatClampNeg) wD_a7 rfl ?_
    refine j_iconst (pc := 86) C d_To_lengthen_86 ck_1 ?_
    refine j_iadd (pc := 87) C d_To_lengthen_87 ?_
    obtain ⟨b18, hf⟩ := og hf
    refine j_iast (pc := 88) C d_To_lengthen_88 7 (inb_in b18) wD_a7 (ws' := wD g ad (va_up (va_up d.1 5 (upd (d.1 5) ((d.2 4) - 1).toNatClampNeg (v15 - 48))) 7 (upd (d.1 7) ((d.2 4) - 1).toNatClampNeg ((d.1 7 ((d.2 4) - 1).toNatClampNeg) + 1))) d.2) wD_s7 ?_
    cases hf
    exact j_vret (pc := 89) C d_To_lengthen_89 ⟨rfl, rfl⟩ (Nat.le_of_ble_eq_true rfl) (Nat.le_of_ble_eq_true rfl)
abbrev rm_X_keyword : Room := { frames := 0, cells := 0, slots := 0, locals := 0 }
theorem cv_X_keyword : CS y_X_keyword b_X_keyword 2 (some .int) 1 := ⟨⟨tw472, tw1, by decide +kernel⟩, tw471⟩
set_option maxHeartbeats 4000000 in
set_option maxRecDepth 100000 in
theorem c_X_keyword {g : GT} {a0 : Int32} {q : Int32} (hf : f_X_keyword a0 = some q) : MI g y_X_keyword b_X_keyword 2 (some .int) rm_X_keyword [.int a0] ([]) q ([]) := by
  refine MI.of (by decide) (Nat.le_of_ble_eq_true rfl) (fun 𝒥 C => ?_)
  have L2 : ∀ (n : Nat) (x : Int32 × Int32), lpN (BX_keyword_2) n x = some q → 𝒥 0 0 ([]) [(0, .int x.1), (1, .int x.2)] [] 2 := by
    refine lp_ind (fun k2 k2_ih x hf => ?_)
    unfold BX_keyword_2 at hf
    refine j_iload_n (pc := 2) C d_X_keyword_2 rfl 1 rfl ?_
    refine j_bipush (pc := 3) C d_X_keyword_3 cb_6 ?_
    refine j_icmp_ge (pc := 5) C d_X_keyword_5 (tgt := 25) rfl (fun h1 => ?_) (fun h1 => ?_)
    · rw [if_pos h1] at hf
      refine j_iconst (pc := 25) C d_X_keyword_25 ck_m1 ?_
      cases hf
      exact j_iret (pc := 26) C d_X_keyword_26 ⟨rfl, rfl⟩ (Nat.le_of_ble_eq_true rfl) (Nat.le_of_ble_eq_true rfl)
    · rw [if_neg h1] at hf
      refine j_gets (pc := 8) C d_X_keyword_8 tw342 ?_
      refine j_iload_n (pc := 11) C d_X_keyword_11 rfl 1 rfl ?_
      obtain ⟨b2, hf⟩ := og hf
      refine j_tld (pc := 12) C d_X_keyword_12 (inb_in b2) ?_
      refine j_iload_n (pc := 13) C d_X_keyword_13 rfl 0 rfl ?_
      refine j_icmp_ne (pc := 14) C d_X_keyword_14 (tgt := 19) rfl (fun h3 => ?_) (fun h3 => ?_)
      · rw [if_neg h3] at hf
        refine j_iinc (pc := 19) C d_X_keyword_19 1 rfl (v := x.2 + 1) (iv ci_1) [1, 0] (by decide) (lc' := [(0, .int x.1), (1, .int (x.2 + 1))]) rfl ?_
        refine j_goto (pc := 22) C d_X_keyword_22 (tgt := 2) rfl ?_
        exact k2_ih (x.1, x.2 + 1) hf
      · rw [if_pos h3] at hf
        refine j_iload_n (pc := 17) C d_X_keyword_17 rfl 1 rfl ?_
        cases hf
        exact j_iret (pc := 18) C d_X_keyword_18 ⟨rfl, rfl⟩ (Nat.le_of_ble_eq_true rfl) (Nat.le_of_ble_eq_true rfl)
  unfold f_X_keyword at hf
  change 𝒥 0 0 ([]) [(0, .int a0)] [] 0
  refine j_iconst (pc := 0) C d_X_keyword_0 ck_0 ?_
  refine j_istore_n (pc := 1) C d_X_keyword_1 rfl [1, 0] (by decide) (lc' := [(0, .int a0), (1, .int 0)]) rfl ?_
  exact L2 100000 (a0, 0) hf
abbrev rm_To_settleKind : Room := { frames := 1, cells := 0, slots := 0, locals := 21 }
theorem cv_To_settleKind : CV y_To_settleKind b_To_settleKind 3 none 1 := ⟨⟨tw469, tw5, by decide +kernel⟩, tw468, (sw_ (q := (y_To_settleKind, 5)) (by decide +kernel) (by decide +kernel))⟩
set_option maxHeartbeats 4000000 in
set_option maxRecDepth 100000 in
theorem c_To_settleKind {g : GT} {ad : Nat → Nat} {a1 : Int32} {d : DS} {q : DS} (hf : f_To_settleKind a1 d = some q) : MV g y_To_settleKind b_To_settleKind 3 none rm_To_settleKind [.ref (ad 3), .int a1] (wD g ad d.1 d.2) (wD g ad q.1 q.2) := by
  refine MV.of (by decide) (Nat.le_of_ble_eq_true rfl) (fun 𝒥 C => ?_)
  unfold f_To_settleKind at hf
  change 𝒥 0 0 (wD g ad d.1 d.2) [(0, .ref (ad 3)), (1, .int a1)] [] 0
  refine j_aload_n (pc := 0) C d_To_settleKind_0 rfl 0 rfl ?_
  refine j_get (pc := 1) C d_To_settleKind_1 3 3 wD_o3 rfl (v := .ref (ad 7)) rfl (by decide) tw120 ?_
  refine j_iload_n (pc := 4) C d_To_settleKind_4 rfl 1 rfl ?_
  obtain ⟨b1, hf⟩ := og hf
  refine j_iald (pc := 5) C d_To_settleKind_5 7 (inb_in b1) (x := d.1 7 a1.toNatClampNeg) wD_a7 rfl ?_
  refine j_aload_n (pc := 6) C d_To_settleKind_6 rfl 0 rfl ?_
  refine j_get (pc := 7) C d_To_settleKind_7 3 2 wD_o3 rfl (v := .ref (ad 6)) rfl (by decide) tw117 ?_
  refine j_iload_n (pc := 10) C d_To_settleKind_10 rfl 1 rfl ?_
  obtain ⟨b2, hf⟩ := og hf
  refine j_iald (pc := 11) C d_To_settleKind_11 6 (inb_in b2) (x := d.1 6 a1.toNatClampNeg) wD_a6 rfl ?_
  refine j_isub (pc := 12) C d_To_settleKind_12 ?_
  refine j_topi C (fun v3 ev3 => ?_)
  replace hf := ov ev3 hf
  refine j_istore_n (pc := 13) C d_To_settleKind_13 rfl [1, 2, 0] (by decide) (lc' := [(0, .ref (ad 3)), (1, .int a1), (2, .int v3)]) rfl ?_
  refine j_aload_n (pc := 14) C d_To_settleKind_14 rfl 0 rfl ?_
  refine j_get (pc := 15) C d_To_settleKind_15 3 0 wD_o3 rfl (v := .ref (ad 4)) rfl (by decide) tw108 ?_
  refine j_iload_n (pc := 18) C d_To_settleKind_18 rfl 1 rfl ?_
  obtain ⟨b4, hf⟩ := og hf
  refine j_iald (pc := 19) C d_To_settleKind_19 4 (inb_in b4) (x := d.1 4 a1.toNatClampNeg) wD_a4 rfl ?_
  refine j_iconst (pc := 20) C d_To_settleKind_20 ck_3 ?_
  refine j_icmp_ne (pc := 21) C d_To_settleKind_21 (tgt := 29) rfl (fun h5 => ?_) (fun h5 => ?_)
  · rw [if_neg h5] at hf
    refine j_aload_n (pc := 29) C d_To_settleKind_29 rfl 0 rfl ?_
    refine j_get (pc := 30) C d_To_settleKind_30 3 0 wD_o3 rfl (v := .ref (ad 4)) rfl (by decide) tw108 ?_
    refine j_iload_n (pc := 33) C d_To_settleKind_33 rfl 1 rfl ?_
    obtain ⟨b6, hf⟩ := og hf
    refine j_iald (pc := 34) C d_To_settleKind_34 4 (inb_in b6) (x := d.1 4 a1.toNatClampNeg) wD_a4 rfl ?_
    refine j_iconst (pc := 35) C d_To_settleKind_35 ck_2 ?_
    refine j_icmp_ne (pc := 36) C d_To_settleKind_36 (tgt := 55) rfl (fun h7 => ?_) (fun h7 => ?_)
    · rw [if_neg h7] at hf
      refine j_aload_n (pc := 55) C d_To_settleKind_55 rfl 0 rfl ?_
      refine j_get (pc := 56) C d_To_settleKind_56 3 0 wD_o3 rfl (v := .ref (ad 4)) rfl (by decide) tw108 ?_
      refine j_iload_n (pc := 59) C d_To_settleKind_59 rfl 1 rfl ?_
      obtain ⟨b8, hf⟩ := og hf
      refine j_iald (pc := 60) C d_To_settleKind_60 4 (inb_in b8) (x := d.1 4 a1.toNatClampNeg) wD_a4 rfl ?_
      refine j_iconst (pc := 61) C d_To_settleKind_61 ck_2 ?_
      refine j_icmp_ne (pc := 62) C d_To_settleKind_62 (tgt := 100) rfl (fun h9 => ?_) (fun h9 => ?_)
      · rw [if_neg h9] at hf
        cases hf
        exact j_vret (pc := 100) C d_To_settleKind_100 ⟨rfl, rfl⟩ (Nat.le_of_ble_eq_true rfl) (Nat.le_of_ble_eq_true rfl)
      · rw [if_pos h9] at hf
        refine j_aload_n (pc := 65) C d_To_settleKind_65 rfl 0 rfl ?_
        refine j_get (pc := 66) C d_To_settleKind_66 3 1 wD_o3 rfl (v := .ref (ad 5)) rfl (by decide) tw111 ?_
        refine j_iload_n (pc := 69) C d_To_settleKind_69 rfl 1 rfl ?_
        obtain ⟨b10, hf⟩ := og hf
        refine j_iald (pc := 70) C d_To_settleKind_70 5 (inb_in b10) (x := d.1 5 a1.toNatClampNeg) wD_a5 rfl ?_
        obtain ⟨q11, eq11, hf⟩ := ob hf
        refine j_callNi (pc := 71) C (rest := []) d_To_settleKind_71 (c_X_keyword (g := g)  eq11) cv_X_keyword nw470 cut_none rfl rfl (Nat.le_of_ble_eq_true rfl) (kc2 := 0) (ks2 := 0) (by decide) ?_
        refine j_iconst (pc := 74) C d_To_settleKind_74 ck_m1 ?_
        refine j_icmp_eq (pc := 75) C d_To_settleKind_75 (tgt := 100) rfl (fun h12 => ?_) (fun h12 => ?_)
        · rw [if_pos h12] at hf
          cases hf
          exact j_vret (pc := 100) C d_To_settleKind_100 ⟨rfl, rfl⟩ (Nat.le_of_ble_eq_true rfl) (Nat.le_of_ble_eq_true rfl)
        · rw [if_neg h12] at hf
          refine j_aload_n (pc := 78) C d_To_settleKind_78 rfl 0 rfl ?_
          refine j_get (pc := 79) C d_To_settleKind_79 3 0 wD_o3 rfl (v := .ref (ad 4)) rfl (by decide) tw108 ?_
          refine j_iload_n (pc := 82) C d_To_settleKind_82 rfl 1 rfl ?_
          refine j_iconst (pc := 83) C d_To_settleKind_83 ck_1 ?_
          obtain ⟨b13, hf⟩ := og hf
          refine j_iast (pc := 84) C d_To_settleKind_84 4 (inb_in b13) wD_a4 (ws' := wD g ad (va_up d.1 4 (upd (d.1 4) a1.toNatClampNeg 1)) d.2) wD_s4 ?_
          refine j_aload_n (pc := 85) C d_To_settleKind_85 rfl 0 rfl ?_
          refine j_get (pc := 86) C d_To_settleKind_86 3 1 wD_o3 rfl (v := .ref (ad 5)) rfl (by decide) tw111 ?_
          refine j_iload_n (pc := 89) C d_To_settleKind_89 rfl 1 rfl ?_
          refine j_aload_n (pc := 90) C d_To_settleKind_90 rfl 0 rfl ?_
          refine j_get (pc := 91) C d_To_settleKind_91 3 1 wD_o3 rfl (v := .ref (ad 5)) rfl (by decide) tw111 ?_
          refine j_iload_n (pc := 94) C d_To_settleKind_94 rfl 1 rfl ?_
          obtain ⟨b14, hf⟩ := og hf
          refine j_iald (pc := 95) C d_To_settleKind_95 5 (inb_in b14) (x := d.1 5 a1.toNatClampNeg) wD_a5 rfl ?_
          obtain ⟨q15, eq15, hf⟩ := ob hf
          refine j_callNi (pc := 96) C (rest := [.int a1, .ref (ad 5)]) d_To_settleKind_96 (c_X_keyword (g := g)  eq15) cv_X_keyword nw470 cut_none rfl rfl (Nat.le_of_ble_eq_true rfl) (kc2 := 0) (ks2 := 0) (by decide) ?_
          obtain ⟨b16, hf⟩ := og hf
          refine j_iast (pc := 99) C d_To_settleKind_99 5 (inb_in b16) wD_a5 (ws' := wD g ad (va_up (va_up d.1 4 (upd (d.1 4) a1.toNatClampNeg 1)) 5 (upd (d.1 5) a1.toNatClampNeg q15)) d.2) wD_s5 ?_
          cases hf
          exact j_vret (pc := 100) C d_To_settleKind_100 ⟨rfl, rfl⟩ (Nat.le_of_ble_eq_true rfl) (Nat.le_of_ble_eq_true rfl)
    · rw [if_pos h7] at hf
      refine j_iload_n (pc := 39) C d_To_settleKind_39 rfl 2 rfl ?_
      refine j_bipush (pc := 40) C d_To_settleKind_40 cb_6 ?_
      refine j_icmp_le (pc := 42) C d_To_settleKind_42 (tgt := 55) rfl (fun h17 => ?_) (fun h17 => ?_)
      · rw [if_pos h17] at hf
        refine j_aload_n (pc := 55) C d_To_settleKind_55 rfl 0 rfl ?_
        refine j_get (pc := 56) C d_To_settleKind_56 3 0 wD_o3 rfl (v := .ref (ad 4)) rfl (by decide) tw108 ?_
        refine j_iload_n (pc := 59) C d_To_settleKind_59 rfl 1 rfl ?_
        obtain ⟨b18, hf⟩ := og hf
        refine j_iald (pc := 60) C d_To_settleKind_60 4 (inb_in b18) (x := d.1 4 a1.toNatClampNeg) wD_a4 rfl ?_
        refine j_iconst (pc := 61) C d_To_settleKind_61 ck_2 ?_
        refine j_icmp_ne (pc := 62) C d_To_settleKind_62 (tgt := 100) rfl (fun h19 => ?_) (fun h19 => ?_)
        · rw [if_neg h19] at hf
          cases hf
          exact j_vret (pc := 100) C d_To_settleKind_100 ⟨rfl, rfl⟩ (Nat.le_of_ble_eq_true rfl) (Nat.le_of_ble_eq_true rfl)
        · rw [if_pos h19] at hf
          refine j_aload_n (pc := 65) C d_To_settleKind_65 rfl 0 rfl ?_
          refine j_get (pc := 66) C d_To_settleKind_66 3 1 wD_o3 rfl (v := .ref (ad 5)) rfl (by decide) tw111 ?_
          refine j_iload_n (pc := 69) C d_To_settleKind_69 rfl 1 rfl ?_
          obtain ⟨b20, hf⟩ := og hf
          refine j_iald (pc := 70) C d_To_settleKind_70 5 (inb_in b20) (x := d.1 5 a1.toNatClampNeg) wD_a5 rfl ?_
          obtain ⟨q21, eq21, hf⟩ := ob hf
          refine j_callNi (pc := 71) C (rest := []) d_To_settleKind_71 (c_X_keyword (g := g)  eq21) cv_X_keyword nw470 cut_none rfl rfl (Nat.le_of_ble_eq_true rfl) (kc2 := 0) (ks2 := 0) (by decide) ?_
          refine j_iconst (pc := 74) C d_To_settleKind_74 ck_m1 ?_
          refine j_icmp_eq (pc := 75) C d_To_settleKind_75 (tgt := 100) rfl (fun h22 => ?_) (fun h22 => ?_)
          · rw [if_pos h22] at hf
            cases hf
            exact j_vret (pc := 100) C d_To_settleKind_100 ⟨rfl, rfl⟩ (Nat.le_of_ble_eq_true rfl) (Nat.le_of_ble_eq_true rfl)
          · rw [if_neg h22] at hf
            refine j_aload_n (pc := 78) C d_To_settleKind_78 rfl 0 rfl ?_
            refine j_get (pc := 79) C d_To_settleKind_79 3 0 wD_o3 rfl (v := .ref (ad 4)) rfl (by decide) tw108 ?_
            refine j_iload_n (pc := 82) C d_To_settleKind_82 rfl 1 rfl ?_
            refine j_iconst (pc := 83) C d_To_settleKind_83 ck_1 ?_
            obtain ⟨b23, hf⟩ := og hf
            refine j_iast (pc := 84) C d_To_settleKind_84 4 (inb_in b23) wD_a4 (ws' := wD g ad (va_up d.1 4 (upd (d.1 4) a1.toNatClampNeg 1)) d.2) wD_s4 ?_
            refine j_aload_n (pc := 85) C d_To_settleKind_85 rfl 0 rfl ?_
            refine j_get (pc := 86) C d_To_settleKind_86 3 1 wD_o3 rfl (v := .ref (ad 5)) rfl (by decide) tw111 ?_
            refine j_iload_n (pc := 89) C d_To_settleKind_89 rfl 1 rfl ?_
            refine j_aload_n (pc := 90) C d_To_settleKind_90 rfl 0 rfl ?_
            refine j_get (pc := 91) C d_To_settleKind_91 3 1 wD_o3 rfl (v := .ref (ad 5)) rfl (by decide) tw111 ?_
            refine j_iload_n (pc := 94) C d_To_settleKind_94 rfl 1 rfl ?_
            obtain ⟨b24, hf⟩ := og hf
            refine j_iald (pc := 95) C d_To_settleKind_95 5 (inb_in b24) (x := d.1 5 a1.toNatClampNeg) wD_a5 rfl ?_
            obtain ⟨q25, eq25, hf⟩ := ob hf
            refine j_callNi (pc := 96) C (rest := [.int a1, .ref (ad 5)]) d_To_settleKind_96 (c_X_keyword (g := g)  eq25) cv_X_keyword nw470 cut_none rfl rfl (Nat.le_of_ble_eq_true rfl) (kc2 := 0) (ks2 := 0) (by decide) ?_
            obtain ⟨b26, hf⟩ := og hf
            refine j_iast (pc := 99) C d_To_settleKind_99 5 (inb_in b26) wD_a5 (ws' := wD g ad (va_up (va_up d.1 4 (upd (d.1 4) a1.toNatClampNeg 1)) 5 (upd (d.1 5) a1.toNatClampNeg q25)) d.2) wD_s5 ?_
            cases hf
            exact j_vret (pc := 100) C d_To_settleKind_100 ⟨rfl, rfl⟩ (Nat.le_of_ble_eq_true rfl) (Nat.le_of_ble_eq_true rfl)
      · rw [if_neg h17] at hf
        refine j_aload_n (pc := 45) C d_To_settleKind_45 rfl 0 rfl ?_
        refine j_get (pc := 46) C d_To_settleKind_46 3 0 wD_o3 rfl (v := .ref (ad 4)) rfl (by decide) tw108 ?_
        refine j_iload_n (pc := 49) C d_To_settleKind_49 rfl 1 rfl ?_
        refine j_iconst (pc := 50) C d_To_settleKind_50 ck_5 ?_
        obtain ⟨b27, hf⟩ := og hf
        refine j_iast (pc := 51) C d_To_settleKind_51 4 (inb_in b27) wD_a4 (ws' := wD g ad (va_up d.1 4 (upd (d.1 4) a1.toNatClampNeg 5)) d.2) wD_s4 ?_
        refine j_goto (pc := 52) C d_To_settleKind_52 (tgt := 100) rfl ?_
        cases hf
        exact j_vret (pc := 100) C d_To_settleKind_100 ⟨rfl, rfl⟩ (Nat.le_of_ble_eq_true rfl) (Nat.le_of_ble_eq_true rfl)
  · rw [if_pos h5] at hf
    refine j_iload_n (pc := 24) C d_To_settleKind_24 rfl 2 rfl ?_
    refine j_iconst (pc := 25) C d_To_settleKind_25 ck_4 ?_
    refine j_icmp_gt (pc := 26) C d_To_settleKind_26 (tgt := 45) rfl (fun h28 => ?_) (fun h28 => ?_)
    · rw [if_pos h28] at hf
      refine j_aload_n (pc := 45) C d_To_settleKind_45 rfl 0 rfl ?_
      refine j_get (pc := 46) C d_To_settleKind_46 3 0 wD_o3 rfl (v := .ref (ad 4)) rfl (by decide) tw108 ?_
      refine j_iload_n (pc := 49) C d_To_settleKind_49 rfl 1 rfl ?_
      refine j_iconst (pc := 50) C d_To_settleKind_50 ck_5 ?_
      obtain ⟨b29, hf⟩ := og hf
      refine j_iast (pc := 51) C d_To_settleKind_51 4 (inb_in b29) wD_a4 (ws' := wD g ad (va_up d.1 4 (upd (d.1 4) a1.toNatClampNeg 5)) d.2) wD_s4 ?_
      refine j_goto (pc := 52) C d_To_settleKind_52 (tgt := 100) rfl ?_
      cases hf
      exact j_vret (pc := 100) C d_To_settleKind_100 ⟨rfl, rfl⟩ (Nat.le_of_ble_eq_true rfl) (Nat.le_of_ble_eq_true rfl)
    · rw [if_neg h28] at hf
      refine j_aload_n (pc := 29) C d_To_settleKind_29 rfl 0 rfl ?_
      refine j_get (pc := 30) C d_To_settleKind_30 3 0 wD_o3 rfl (v := .ref (ad 4)) rfl (by decide) tw108 ?_
      refine j_iload_n (pc := 33) C d_To_settleKind_33 rfl 1 rfl ?_
      obtain ⟨b30, hf⟩ := og hf
      refine j_iald (pc := 34) C d_To_settleKind_34 4 (inb_in b30) (x := d.1 4 a1.toNatClampNeg) wD_a4 rfl ?_
      refine j_iconst (pc := 35) C d_To_settleKind_35 ck_2 ?_
      refine j_icmp_ne (pc := 36) C d_To_settleKind_36 (tgt := 55) rfl (fun h31 => ?_) (fun h31 => ?_)
      · rw [if_neg h31] at hf
        refine j_aload_n (pc := 55) C d_To_settleKind_55 rfl 0 rfl ?_
        refine j_get (pc := 56) C d_To_settleKind_56 3 0 wD_o3 rfl (v := .ref (ad 4)) rfl (by decide) tw108 ?_
        refine j_iload_n (pc := 59) C d_To_settleKind_59 rfl 1 rfl ?_
        obtain ⟨b32, hf⟩ := og hf
        refine j_iald (pc := 60) C d_To_settleKind_60 4 (inb_in b32) (x := d.1 4 a1.toNatClampNeg) wD_a4 rfl ?_
        refine j_iconst (pc := 61) C d_To_settleKind_61 ck_2 ?_
        refine j_icmp_ne (pc := 62) C d_To_settleKind_62 (tgt := 100) rfl (fun h33 => ?_) (fun h33 => ?_)
        · rw [if_neg h33] at hf
          cases hf
          exact j_vret (pc := 100) C d_To_settleKind_100 ⟨rfl, rfl⟩ (Nat.le_of_ble_eq_true rfl) (Nat.le_of_ble_eq_true rfl)
        · rw [if_pos h33] at hf
          refine j_aload_n (pc := 65) C d_To_settleKind_65 rfl 0 rfl ?_
          refine j_get (pc := 66) C d_To_settleKind_66 3 1 wD_o3 rfl (v := .ref (ad 5)) rfl (by decide) tw111 ?_
          refine j_iload_n (pc := 69) C d_To_settleKind_69 rfl 1 rfl ?_
          obtain ⟨b34, hf⟩ := og hf
          refine j_iald (pc := 70) C d_To_settleKind_70 5 (inb_in b34) (x := d.1 5 a1.toNatClampNeg) wD_a5 rfl ?_
          obtain ⟨q35, eq35, hf⟩ := ob hf
          refine j_callNi (pc := 71) C (rest := []) d_To_settleKind_71 (c_X_keyword (g := g)  eq35) cv_X_keyword nw470 cut_none rfl rfl (Nat.le_of_ble_eq_true rfl) (kc2 := 0) (ks2 := 0) (by decide) ?_
          refine j_iconst (pc := 74) C d_To_settleKind_74 ck_m1 ?_
          refine j_icmp_eq (pc := 75) C d_To_settleKind_75 (tgt := 100) rfl (fun h36 => ?_) (fun h36 => ?_)
          · rw [if_pos h36] at hf
            cases hf
            exact j_vret (pc := 100) C d_To_settleKind_100 ⟨rfl, rfl⟩ (Nat.le_of_ble_eq_true rfl) (Nat.le_of_ble_eq_true rfl)
          · rw [if_neg h36] at hf
            refine j_aload_n (pc := 78) C d_To_settleKind_78 rfl 0 rfl ?_
            refine j_get (pc := 79) C d_To_settleKind_79 3 0 wD_o3 rfl (v := .ref (ad 4)) rfl (by decide) tw108 ?_
            refine j_iload_n (pc := 82) C d_To_settleKind_82 rfl 1 rfl ?_
            refine j_iconst (pc := 83) C d_To_settleKind_83 ck_1 ?_
            obtain ⟨b37, hf⟩ := og hf
            refine j_iast (pc := 84) C d_To_settleKind_84 4 (inb_in b37) wD_a4 (ws' := wD g ad (va_up d.1 4 (upd (d.1 4) a1.toNatClampNeg 1)) d.2) wD_s4 ?_
            refine j_aload_n (pc := 85) C d_To_settleKind_85 rfl 0 rfl ?_
            refine j_get (pc := 86) C d_To_settleKind_86 3 1 wD_o3 rfl (v := .ref (ad 5)) rfl (by decide) tw111 ?_
            refine j_iload_n (pc := 89) C d_To_settleKind_89 rfl 1 rfl ?_
            refine j_aload_n (pc := 90) C d_To_settleKind_90 rfl 0 rfl ?_
            refine j_get (pc := 91) C d_To_settleKind_91 3 1 wD_o3 rfl (v := .ref (ad 5)) rfl (by decide) tw111 ?_
            refine j_iload_n (pc := 94) C d_To_settleKind_94 rfl 1 rfl ?_
            obtain ⟨b38, hf⟩ := og hf
            refine j_iald (pc := 95) C d_To_settleKind_95 5 (inb_in b38) (x := d.1 5 a1.toNatClampNeg) wD_a5 rfl ?_
            obtain ⟨q39, eq39, hf⟩ := ob hf
            refine j_callNi (pc := 96) C (rest := [.int a1, .ref (ad 5)]) d_To_settleKind_96 (c_X_keyword (g := g)  eq39) cv_X_keyword nw470 cut_none rfl rfl (Nat.le_of_ble_eq_true rfl) (kc2 := 0) (ks2 := 0) (by decide) ?_
            obtain ⟨b40, hf⟩ := og hf
            refine j_iast (pc := 99) C d_To_settleKind_99 5 (inb_in b40) wD_a5 (ws' := wD g ad (va_up (va_up d.1 4 (upd (d.1 4) a1.toNatClampNeg 1)) 5 (upd (d.1 5) a1.toNatClampNeg q39)) d.2) wD_s5 ?_
            cases hf
            exact j_vret (pc := 100) C d_To_settleKind_100 ⟨rfl, rfl⟩ (Nat.le_of_ble_eq_true rfl) (Nat.le_of_ble_eq_true rfl)
      · rw [if_pos h31] at hf
        refine j_iload_n (pc := 39) C d_To_settleKind_39 rfl 2 rfl ?_
        refine j_bipush (pc := 40) C d_To_settleKind_40 cb_6 ?_
        refine j_icmp_le (pc := 42) C d_To_settleKind_42 (tgt := 55) rfl (fun h41 => ?_) (fun h41 => ?_)
        · rw [if_pos h41] at hf
          refine j_aload_n (pc := 55) C d_To_settleKind_55 rfl 0 rfl ?_
          refine j_get (pc := 56) C d_To_settleKind_56 3 0 wD_o3 rfl (v := .ref (ad 4)) rfl (by decide) tw108 ?_
          refine j_iload_n (pc := 59) C d_To_settleKind_59 rfl 1 rfl ?_
          obtain ⟨b42, hf⟩ := og hf
          refine j_iald (pc := 60) C d_To_settleKind_60 4 (inb_in b42) (x := d.1 4 a1.toNatClampNeg) wD_a4 rfl ?_
          refine j_iconst (pc := 61) C d_To_settleKind_61 ck_2 ?_
          refine j_icmp_ne (pc := 62) C d_To_settleKind_62 (tgt := 100) rfl (fun h43 => ?_) (fun h43 => ?_)
          · rw [if_neg h43] at hf
            cases hf
            exact j_vret (pc := 100) C d_To_settleKind_100 ⟨rfl, rfl⟩ (Nat.le_of_ble_eq_true rfl) (Nat.le_of_ble_eq_true rfl)
          · rw [if_pos h43] at hf
            refine j_aload_n (pc := 65) C d_To_settleKind_65 rfl 0 rfl ?_
            refine j_get (pc := 66) C d_To_settleKind_66 3 1 wD_o3 rfl (v := .ref (ad 5)) rfl (by decide) tw111 ?_
            refine j_iload_n (pc := 69) C d_To_settleKind_69 rfl 1 rfl ?_
            obtain ⟨b44, hf⟩ := og hf
            refine j_iald (pc := 70) C d_To_settleKind_70 5 (inb_in b44) (x := d.1 5 a1.toNatClampNeg) wD_a5 rfl ?_
            obtain ⟨q45, eq45, hf⟩ := ob hf
            refine j_callNi (pc := 71) C (rest := []) d_To_settleKind_71 (c_X_keyword (g := g)  eq45) cv_X_keyword nw470 cut_none rfl rfl (Nat.le_of_ble_eq_true rfl) (kc2 := 0) (ks2 := 0) (by decide) ?_
            refine j_iconst (pc := 74) C d_To_settleKind_74 ck_m1 ?_
            refine j_icmp_eq (pc := 75) C d_To_settleKind_75 (tgt := 100) rfl (fun h46 => ?_) (fun h46 => ?_)
            · rw [if_pos h46] at hf
              cases hf
              exact j_vret (pc := 100) C d_To_settleKind_100 ⟨rfl, rfl⟩ (Nat.le_of_ble_eq_true rfl) (Nat.le_of_ble_eq_true rfl)
            · rw [if_neg h46] at hf
              refine j_aload_n (pc := 78) C d_To_settleKind_78 rfl 0 rfl ?_
              refine j_get (pc := 79) C d_To_settleKind_79 3 0 wD_o3 rfl (v := .ref (ad 4)) rfl (by decide) tw108 ?_
              refine j_iload_n (pc := 82) C d_To_settleKind_82 rfl 1 rfl ?_
              refine j_iconst (pc := 83) C d_To_settleKind_83 ck_1 ?_
              obtain ⟨b47, hf⟩ := og hf
              refine j_iast (pc := 84) C d_To_settleKind_84 4 (inb_in b47) wD_a4 (ws' := wD g ad (va_up d.1 4 (upd (d.1 4) a1.toNatClampNeg 1)) d.2) wD_s4 ?_
              refine j_aload_n (pc := 85) C d_To_settleKind_85 rfl 0 rfl ?_
              refine j_get (pc := 86) C d_To_settleKind_86 3 1 wD_o3 rfl (v := .ref (ad 5)) rfl (by decide) tw111 ?_
              refine j_iload_n (pc := 89) C d_To_settleKind_89 rfl 1 rfl ?_
              refine j_aload_n (pc := 90) C d_To_settleKind_90 rfl 0 rfl ?_
              refine j_get (pc := 91) C d_To_settleKind_91 3 1 wD_o3 rfl (v := .ref (ad 5)) rfl (by decide) tw111 ?_
              refine j_iload_n (pc := 94) C d_To_settleKind_94 rfl 1 rfl ?_
              obtain ⟨b48, hf⟩ := og hf
              refine j_iald (pc := 95) C d_To_settleKind_95 5 (inb_in b48) (x := d.1 5 a1.toNatClampNeg) wD_a5 rfl ?_
              obtain ⟨q49, eq49, hf⟩ := ob hf
              refine j_callNi (pc := 96) C (rest := [.int a1, .ref (ad 5)]) d_To_settleKind_96 (c_X_keyword (g := g)  eq49) cv_X_keyword nw470 cut_none rfl rfl (Nat.le_of_ble_eq_true rfl) (kc2 := 0) (ks2 := 0) (by decide) ?_
              obtain ⟨b50, hf⟩ := og hf
              refine j_iast (pc := 99) C d_To_settleKind_99 5 (inb_in b50) wD_a5 (ws' := wD g ad (va_up (va_up d.1 4 (upd (d.1 4) a1.toNatClampNeg 1)) 5 (upd (d.1 5) a1.toNatClampNeg q49)) d.2) wD_s5 ?_
              cases hf
              exact j_vret (pc := 100) C d_To_settleKind_100 ⟨rfl, rfl⟩ (Nat.le_of_ble_eq_true rfl) (Nat.le_of_ble_eq_true rfl)
        · rw [if_neg h41] at hf
          refine j_aload_n (pc := 45) C d_To_settleKind_45 rfl 0 rfl ?_
          refine j_get (pc := 46) C d_To_settleKind_46 3 0 wD_o3 rfl (v := .ref (ad 4)) rfl (by decide) tw108 ?_
          refine j_iload_n (pc := 49) C d_To_settleKind_49 rfl 1 rfl ?_
          refine j_iconst (pc := 50) C d_To_settleKind_50 ck_5 ?_
          obtain ⟨b51, hf⟩ := og hf
          refine j_iast (pc := 51) C d_To_settleKind_51 4 (inb_in b51) wD_a4 (ws' := wD g ad (va_up d.1 4 (upd (d.1 4) a1.toNatClampNeg 5)) d.2) wD_s4 ?_
          refine j_goto (pc := 52) C d_To_settleKind_52 (tgt := 100) rfl ?_
          cases hf
          exact j_vret (pc := 100) C d_To_settleKind_100 ⟨rfl, rfl⟩ (Nat.le_of_ble_eq_true rfl) (Nat.le_of_ble_eq_true rfl)
abbrev rm_To_readFrom : Room := { frames := 5, cells := 0, slots := 0, locals := 111 }
theorem cv_To_readFrom : CV y_To_readFrom b_To_readFrom 6 none 1 := ⟨⟨tw367, tw5, by decide +kernel⟩, tw365, tw366⟩
set_option maxHeartbeats 4000000 in
set_option maxRecDepth 100000 in
theorem c_To_readFrom {g : GT} {ad : Nat → Nat} {d : DS} {q : DS} (hf : f_To_readFrom d = some q) : MV g y_To_readFrom b_To_readFrom 6 none rm_To_readFrom [.ref (ad 3), .ref (ad 1)] (wD g ad d.1 d.2) (wD g ad q.1 q.2) := by
  refine MV.of (by decide) (Nat.le_of_ble_eq_true rfl) (fun 𝒥 C => ?_)
  have L84 : ∀ (n : Nat) (x : Int32 × Int32 × DS), lpN (BTo_readFrom_84) n x = some q → 𝒥 0 0 (wD g ad x.2.2.1 x.2.2.2) [(0, .ref (ad 3)), (1, .ref (ad 1)), (2, .int x.1), (3, .int x.2.1)] [] 84 := by
    refine lp_ind (fun k84 k84_ih x hf => ?_)
    unfold BTo_readFrom_84 at hf
    refine j_iload_n (pc := 84) C d_To_readFrom_84 rfl 3 rfl ?_
    refine j_aload_n (pc := 85) C d_To_readFrom_85 rfl 0 rfl ?_
    refine j_get (pc := 86) C d_To_readFrom_86 3 4 wD_o3 rfl (v := .int (x.2.2.2 4)) rfl (by decide) tw123 ?_
    refine j_icmp_ge (pc := 89) C d_To_readFrom_89 (tgt := 103) rfl (fun h2 => ?_) (fun h2 => ?_)
    · rw [if_pos h2] at hf
      cases hf
      exact j_vret (pc := 103) C d_To_readFrom_103 ⟨rfl, rfl⟩ (Nat.le_of_ble_eq_true rfl) (Nat.le_of_ble_eq_true rfl)
    · rw [if_neg h2] at hf
      refine j_aload_n (pc := 92) C d_To_readFrom_92 rfl 0 rfl ?_
      refine j_iload_n (pc := 93) C d_To_readFrom_93 rfl 3 rfl ?_
      obtain ⟨q3, eq3, hf⟩ := ob hf
      refine j_callVv (pc := 94) C (rest := []) d_To_readFrom_94 (c_To_settleKind (g := g) (ad := ad) eq3) cv_To_settleKind tw466 3 rfl rfl cut_same rfl rfl (Nat.le_of_ble_eq_true rfl) (kc2 := 0) (ks2 := 0) (by decide) ?_
      refine j_iinc (pc := 97) C d_To_readFrom_97 3 rfl (v := x.2.1 + 1) (iv ci_1) [1, 2, 3, 0] (by decide) (lc' := [(0, .ref (ad 3)), (1, .ref (ad 1)), (2, .int x.1), (3, .int (x.2.1 + 1))]) rfl ?_
      refine j_goto (pc := 100) C d_To_readFrom_100 (tgt := 84) rfl ?_
      exact k84_ih (x.1, x.2.1 + 1, q3) hf
  have L9 : ∀ (n : Nat) (x : Int32 × Int32 × DS), lpN (BTo_readFrom_9) n x = some q → 𝒥 0 0 (wD g ad x.2.2.1 x.2.2.2) [(0, .ref (ad 3)), (1, .ref (ad 1)), (2, .int x.1), (3, .int x.2.1)] [] 9 := by
    refine lp_ind (fun k9 k9_ih x hf => ?_)
    unfold BTo_readFrom_9 at hf
    refine j_iload_n (pc := 9) C d_To_readFrom_9 rfl 3 rfl ?_
    refine j_aload_n (pc := 10) C d_To_readFrom_10 rfl 1 rfl ?_
    refine j_get (pc := 11) C d_To_readFrom_11 1 1 wD_o1 rfl (v := .int (x.2.2.2 3)) rfl (by decide) tw93 ?_
    refine j_icmp_ge (pc := 14) C d_To_readFrom_14 (tgt := 82) rfl (fun h1 => ?_) (fun h1 => ?_)
    · rw [if_pos h1] at hf
      refine j_iconst (pc := 82) C d_To_readFrom_82 ck_0 ?_
      refine j_istore_n (pc := 83) C d_To_readFrom_83 rfl [1, 2, 3, 0] (by decide) (lc' := [(0, .ref (ad 3)), (1, .ref (ad 1)), (2, .int x.1), (3, .int 0)]) rfl ?_
      exact L84 100000 (x.1, 0, x.2.2) hf
    · rw [if_neg h1] at hf
      refine j_aload_n (pc := 17) C d_To_readFrom_17 rfl 1 rfl ?_
      refine j_get (pc := 18) C d_To_readFrom_18 1 0 wD_o1 rfl (v := .ref (ad 2)) rfl (by decide) tw90 ?_
      refine j_iload_n (pc := 21) C d_To_readFrom_21 rfl 3 rfl ?_
      obtain ⟨b4, hf⟩ := og hf
      refine j_cald (pc := 22) C d_To_readFrom_22 2 (inb_in b4) (x := x.2.2.1 2 x.2.1.toNatClampNeg) wD_a2 rfl ?_
      refine j_istore (pc := 23) C d_To_readFrom_23 [1, 2, 3, 4, 0] (by decide) (lc' := [(0, .ref (ad 3)), (1, .ref (ad 1)), (2, .int x.1), (3, .int x.2.1), (4, .int (x.2.2.1 2 x.2.1.toNatClampNeg))]) rfl ?_
      refine j_iload (pc := 25) C d_To_readFrom_25 4 rfl ?_
      obtain ⟨q5, eq5, hf⟩ := ob hf
      refine j_callSi (pc := 27) C (rest := []) d_To_readFrom_27 (c_To_groupOf (g := g)  eq5) cv_To_groupOf tw368 cut_none rfl rfl (Nat.le_of_ble_eq_true rfl) (kc2 := 0) (ks2 := 0) (by decide) ?_
      refine j_istore (pc := 30) C d_To_readFrom_30 [1, 2, 3, 4, 5, 0] (by decide) (lc' := [(0, .ref (ad 3)), (1, .ref (ad 1)), (2, .int x.1), (3, .int x.2.1), (4, .int (x.2.2.1 2 x.2.1.toNatClampNeg)), (5, .int q5)]) rfl ?_
      refine j_iload (pc := 32) C d_To_readFrom_32 5 rfl ?_
      refine j_iload_n (pc := 34) C d_To_readFrom_34 rfl 2 rfl ?_
      refine j_icmp_ne (pc := 35) C d_To_readFrom_35 (tgt := 59) rfl (fun h6 => ?_) (fun h6 => ?_)
      · rw [if_neg h6] at hf
        refine j_iload (pc := 59) C d_To_readFrom_59 5 rfl ?_
        refine j_if_eq (pc := 61) C d_To_readFrom_61 (tgt := 73) rfl (fun h7 => ?_) (fun h7 => ?_)
        · rw [if_pos h7] at hf
          refine j_iload (pc := 73) C d_To_readFrom_73 5 rfl ?_
          refine j_istore_n (pc := 75) C d_To_readFrom_75 rfl [1, 2, 0, 3, 4, 5] (by decide) (lc' := [(0, .ref (ad 3)), (1, .ref (ad 1)), (2, .int q5), (3, .int x.2.1), (4, .int (x.2.2.1 2 x.2.1.toNatClampNeg)), (5, .int q5)]) rfl ?_
          refine j_iinc (pc := 76) C d_To_readFrom_76 3 rfl (v := x.2.1 + 1) (iv ci_1) [1, 2, 3, 0, 4, 5] (by decide) (lc' := [(0, .ref (ad 3)), (1, .ref (ad 1)), (2, .int q5), (3, .int (x.2.1 + 1)), (4, .int (x.2.2.1 2 x.2.1.toNatClampNeg)), (5, .int q5)]) rfl ?_
          refine j_goto (pc := 79) C d_To_readFrom_79 (tgt := 9) rfl ?_
          refine j_lc C (lc' := [(0, .ref (ad 3)), (1, .ref (ad 1)), (2, .int q5), (3, .int (x.2.1 + 1))]) [0, 1, 2, 3] rfl ?_
          exact k9_ih (q5, x.2.1 + 1, x.2.2) hf
        · rw [if_neg h7] at hf
          refine j_aload_n (pc := 64) C d_To_readFrom_64 rfl 0 rfl ?_
          refine j_iload_n (pc := 65) C d_To_readFrom_65 rfl 3 rfl ?_
          refine j_iload (pc := 66) C d_To_readFrom_66 5 rfl ?_
          refine j_iload (pc := 68) C d_To_readFrom_68 4 rfl ?_
          obtain ⟨q8, eq8, hf⟩ := ob hf
          refine j_callVv (pc := 70) C (rest := []) d_To_readFrom_70 (c_To_begin (g := g) (ad := ad) eq8) cv_To_begin tw462 3 rfl rfl cut_same rfl rfl (Nat.le_of_ble_eq_true rfl) (kc2 := 0) (ks2 := 0) (by decide) ?_
          refine j_iload (pc := 73) C d_To_readFrom_73 5 rfl ?_
          refine j_istore_n (pc := 75) C d_To_readFrom_75 rfl [1, 2, 0, 3, 4, 5] (by decide) (lc' := [(0, .ref (ad 3)), (1, .ref (ad 1)), (2, .int q5), (3, .int x.2.1), (4, .int (x.2.2.1 2 x.2.1.toNatClampNeg)), (5, .int q5)]) rfl ?_
          refine j_iinc (pc := 76) C d_To_readFrom_76 3 rfl (v := x.2.1 + 1) (iv ci_1) [1, 2, 3, 0, 4, 5] (by decide) (lc' := [(0, .ref (ad 3)), (1, .ref (ad 1)), (2, .int q5), (3, .int (x.2.1 + 1)), (4, .int (x.2.2.1 2 x.2.1.toNatClampNeg)), (5, .int q5)]) rfl ?_
          refine j_goto (pc := 79) C d_To_readFrom_79 (tgt := 9) rfl ?_
          refine j_lc C (lc' := [(0, .ref (ad 3)), (1, .ref (ad 1)), (2, .int q5), (3, .int (x.2.1 + 1))]) [0, 1, 2, 3] rfl ?_
          exact k9_ih (q5, x.2.1 + 1, q8) hf
      · rw [if_pos h6] at hf
        refine j_iload (pc := 38) C d_To_readFrom_38 5 rfl ?_
        refine j_iconst (pc := 40) C d_To_readFrom_40 ck_2 ?_
        refine j_icmp_eq (pc := 41) C d_To_readFrom_41 (tgt := 50) rfl (fun h9 => ?_) (fun h9 => ?_)
        · rw [if_pos h9] at hf
          refine j_aload_n (pc := 50) C d_To_readFrom_50 rfl 0 rfl ?_
          refine j_iload (pc := 51) C d_To_readFrom_51 4 rfl ?_
          obtain ⟨q10, eq10, hf⟩ := ob hf
          refine j_callVv (pc := 53) C (rest := []) d_To_readFrom_53 (c_To_lengthen (g := g) (ad := ad) eq10) cv_To_lengthen tw458 3 rfl rfl cut_same rfl rfl (Nat.le_of_ble_eq_true rfl) (kc2 := 0) (ks2 := 0) (by decide) ?_
          refine j_goto (pc := 56) C d_To_readFrom_56 (tgt := 73) rfl ?_
          refine j_iload (pc := 73) C d_To_readFrom_73 5 rfl ?_
          refine j_istore_n (pc := 75) C d_To_readFrom_75 rfl [1, 2, 0, 3, 4, 5] (by decide) (lc' := [(0, .ref (ad 3)), (1, .ref (ad 1)), (2, .int q5), (3, .int x.2.1), (4, .int (x.2.2.1 2 x.2.1.toNatClampNeg)), (5, .int q5)]) rfl ?_
          refine j_iinc (pc := 76) C d_To_readFrom_76 3 rfl (v := x.2.1 + 1) (iv ci_1) [1, 2, 3, 0, 4, 5] (by decide) (lc' := [(0, .ref (ad 3)), (1, .ref (ad 1)), (2, .int q5), (3, .int (x.2.1 + 1)), (4, .int (x.2.2.1 2 x.2.1.toNatClampNeg)), (5, .int q5)]) rfl ?_
          refine j_goto (pc := 79) C d_To_readFrom_79 (tgt := 9) rfl ?_
          refine j_lc C (lc' := [(0, .ref (ad 3)), (1, .ref (ad 1)), (2, .int q5), (3, .int (x.2.1 + 1))]) [0, 1, 2, 3] rfl ?_
          exact k9_ih (q5, x.2.1 + 1, q10) hf
        · rw [if_neg h9] at hf
          refine j_iload (pc := 44) C d_To_readFrom_44 5 rfl ?_
          refine j_iconst (pc := 46) C d_To_readFrom_46 ck_3 ?_
          refine j_icmp_ne (pc := 47) C d_To_readFrom_47 (tgt := 59) rfl (fun h11 => ?_) (fun h11 => ?_)
          · rw [if_neg h11] at hf
            refine j_iload (pc := 59) C d_To_readFrom_59 5 rfl ?_
            refine j_if_eq (pc := 61) C d_To_readFrom_61 (tgt := 73) rfl (fun h12 => ?_) (fun h12 => ?_)
            · rw [if_pos h12] at hf
              refine j_iload (pc := 73) C d_To_readFrom_73 5 rfl ?_
              refine j_istore_n (pc := 75) C d_To_readFrom_75 rfl [1, 2, 0, 3, 4, 5] (by decide) (lc' := [(0, .ref (ad 3)), (1, .ref (ad 1)), (2, .int q5), (3, .int x.2.1), (4, .int (x.2.2.1 2 x.2.1.toNatClampNeg)), (5, .int q5)]) rfl ?_
              refine j_iinc (pc := 76) C d_To_readFrom_76 3 rfl (v := x.2.1 + 1) (iv ci_1) [1, 2, 3, 0, 4, 5] (by decide) (lc' := [(0, .ref (ad 3)), (1, .ref (ad 1)), (2, .int q5), (3, .int (x.2.1 + 1)), (4, .int (x.2.2.1 2 x.2.1.toNatClampNeg)), (5, .int q5)]) rfl ?_
              refine j_goto (pc := 79) C d_To_readFrom_79 (tgt := 9) rfl ?_
              refine j_lc C (lc' := [(0, .ref (ad 3)), (1, .ref (ad 1)), (2, .int q5), (3, .int (x.2.1 + 1))]) [0, 1, 2, 3] rfl ?_
              exact k9_ih (q5, x.2.1 + 1, x.2.2) hf
            · rw [if_neg h12] at hf
              refine j_aload_n (pc := 64) C d_To_readFrom_64 rfl 0 rfl ?_
              refine j_iload_n (pc := 65) C d_To_readFrom_65 rfl 3 rfl ?_
              refine j_iload (pc := 66) C d_To_readFrom_66 5 rfl ?_
              refine j_iload (pc := 68) C d_To_readFrom_68 4 rfl ?_
              obtain ⟨q13, eq13, hf⟩ := ob hf
              refine j_callVv (pc := 70) C (rest := []) d_To_readFrom_70 (c_To_begin (g := g) (ad := ad) eq13) cv_To_begin tw462 3 rfl rfl cut_same rfl rfl (Nat.le_of_ble_eq_true rfl) (kc2 := 0) (ks2 := 0) (by decide) ?_
              refine j_iload (pc := 73) C d_To_readFrom_73 5 rfl ?_
              refine j_istore_n (pc := 75) C d_To_readFrom_75 rfl [1, 2, 0, 3, 4, 5] (by decide) (lc' := [(0, .ref (ad 3)), (1, .ref (ad 1)), (2, .int q5), (3, .int x.2.1), (4, .int (x.2.2.1 2 x.2.1.toNatClampNeg)), (5, .int q5)]) rfl ?_
              refine j_iinc (pc := 76) C d_To_readFrom_76 3 rfl (v := x.2.1 + 1) (iv ci_1) [1, 2, 3, 0, 4, 5] (by decide) (lc' := [(0, .ref (ad 3)), (1, .ref (ad 1)), (2, .int q5), (3, .int (x.2.1 + 1)), (4, .int (x.2.2.1 2 x.2.1.toNatClampNeg)), (5, .int q5)]) rfl ?_
              refine j_goto (pc := 79) C d_To_readFrom_79 (tgt := 9) rfl ?_
              refine j_lc C (lc' := [(0, .ref (ad 3)), (1, .ref (ad 1)), (2, .int q5), (3, .int (x.2.1 + 1))]) [0, 1, 2, 3] rfl ?_
              exact k9_ih (q5, x.2.1 + 1, q13) hf
          · rw [if_pos h11] at hf
            refine j_aload_n (pc := 50) C d_To_readFrom_50 rfl 0 rfl ?_
            refine j_iload (pc := 51) C d_To_readFrom_51 4 rfl ?_
            obtain ⟨q14, eq14, hf⟩ := ob hf
            refine j_callVv (pc := 53) C (rest := []) d_To_readFrom_53 (c_To_lengthen (g := g) (ad := ad) eq14) cv_To_lengthen tw458 3 rfl rfl cut_same rfl rfl (Nat.le_of_ble_eq_true rfl) (kc2 := 0) (ks2 := 0) (by decide) ?_
            refine j_goto (pc := 56) C d_To_readFrom_56 (tgt := 73) rfl ?_
            refine j_iload (pc := 73) C d_To_readFrom_73 5 rfl ?_
            refine j_istore_n (pc := 75) C d_To_readFrom_75 rfl [1, 2, 0, 3, 4, 5] (by decide) (lc' := [(0, .ref (ad 3)), (1, .ref (ad 1)), (2, .int q5), (3, .int x.2.1), (4, .int (x.2.2.1 2 x.2.1.toNatClampNeg)), (5, .int q5)]) rfl ?_
            refine j_iinc (pc := 76) C d_To_readFrom_76 3 rfl (v := x.2.1 + 1) (iv ci_1) [1, 2, 3, 0, 4, 5] (by decide) (lc' := [(0, .ref (ad 3)), (1, .ref (ad 1)), (2, .int q5), (3, .int (x.2.1 + 1)), (4, .int (x.2.2.1 2 x.2.1.toNatClampNeg)), (5, .int q5)]) rfl ?_
            refine j_goto (pc := 79) C d_To_readFrom_79 (tgt := 9) rfl ?_
            refine j_lc C (lc' := [(0, .ref (ad 3)), (1, .ref (ad 1)), (2, .int q5), (3, .int (x.2.1 + 1))]) [0, 1, 2, 3] rfl ?_
            exact k9_ih (q5, x.2.1 + 1, q14) hf
  unfold f_To_readFrom at hf
  change 𝒥 0 0 (wD g ad d.1 d.2) [(0, .ref (ad 3)), (1, .ref (ad 1))] [] 0
  refine j_aload_n (pc := 0) C d_To_readFrom_0 rfl 0 rfl ?_
  refine j_iconst (pc := 1) C d_To_readFrom_1 ck_0 ?_
  refine j_put (pc := 2) C d_To_readFrom_2 3 4 wD_o3 rfl (by decide) tw123 pd_I rfl rfl rfl (Nat.le_of_ble_eq_true rfl) (ws' := wD g ad d.1 (va_up d.2 4 0)) wD_p3_4 ?_
  refine j_iconst (pc := 5) C d_To_readFrom_5 ck_0 ?_
  refine j_istore_n (pc := 6) C d_To_readFrom_6 rfl [1, 2, 0] (by decide) (lc' := [(0, .ref (ad 3)), (1, .ref (ad 1)), (2, .int 0)]) rfl ?_
  refine j_iconst (pc := 7) C d_To_readFrom_7 ck_0 ?_
  refine j_istore_n (pc := 8) C d_To_readFrom_8 rfl [1, 2, 3, 0] (by decide) (lc' := [(0, .ref (ad 3)), (1, .ref (ad 1)), (2, .int 0), (3, .int 0)]) rfl ?_
  exact L9 100000 (0, 0, (d.1, (va_up d.2 4 0))) hf
abbrev rm_Dr_refresh : Room := { frames := 40, cells := 0, slots := 0, locals := 1140 }
theorem cv_Dr_refresh : CV y_Dr_refresh b_Dr_refresh 3 none 0 := ⟨⟨tw363, tw3, by decide +kernel⟩, tw361, tw362⟩
set_option maxHeartbeats 4000000 in
set_option maxRecDepth 100000 in
theorem c_Dr_refresh {g : GT} {ad : Nat → Nat} {d : DS} {q : DS} (hf : f_Dr_refresh d = some q) : MV g y_Dr_refresh b_Dr_refresh 3 none rm_Dr_refresh [.ref (ad 0)] (wD g ad d.1 d.2) (wD g ad q.1 q.2) := by
  refine MV.of (by decide) (Nat.le_of_ble_eq_true rfl) (fun 𝒥 C => ?_)
  have L122 : ∀ (n : Nat) (x : Int32 × DS), lpN (BDr_refresh_122) n x = some q → 𝒥 0 0 (wD g ad x.2.1 x.2.2) [(0, .ref (ad 0)), (1, .int x.1)] [] 122 := by
    refine lp_ind (fun k122 k122_ih x hf => ?_)
    unfold BDr_refresh_122 at hf
    refine j_iload_n (pc := 122) C d_Dr_refresh_122 rfl 1 rfl ?_
    refine j_aload_n (pc := 123) C d_Dr_refresh_123 rfl 0 rfl ?_
    refine j_get (pc := 124) C d_Dr_refresh_124 0 8 wD_o0 rfl (v := .int (x.2.2 0)) rfl (by decide) tw285 ?_
    refine j_icmp_ge (pc := 127) C d_Dr_refresh_127 (tgt := 141) rfl (fun h6 => ?_) (fun h6 => ?_)
    · rw [if_pos h6] at hf
      cases hf
      exact j_vret (pc := 141) C d_Dr_refresh_141 ⟨rfl, rfl⟩ (Nat.le_of_ble_eq_true rfl) (Nat.le_of_ble_eq_true rfl)
    · rw [if_neg h6] at hf
      refine j_aload_n (pc := 130) C d_Dr_refresh_130 rfl 0 rfl ?_
      refine j_iload_n (pc := 131) C d_Dr_refresh_131 rfl 1 rfl ?_
      obtain ⟨q7, eq7, hf⟩ := ob hf
      refine j_callVv (pc := 132) C (rest := []) d_Dr_refresh_132 (c_Dr_judgePart (g := g) (ad := ad) eq7) cv_Dr_judgePart tw558 0 rfl rfl cut_same rfl rfl (Nat.le_of_ble_eq_true rfl) (kc2 := 0) (ks2 := 0) (by decide) ?_
      refine j_iinc (pc := 135) C d_Dr_refresh_135 1 rfl (v := x.1 + 1) (iv ci_1) [1, 0] (by decide) (lc' := [(0, .ref (ad 0)), (1, .int (x.1 + 1))]) rfl ?_
      refine j_goto (pc := 138) C d_Dr_refresh_138 (tgt := 122) rfl ?_
      exact k122_ih (x.1 + 1, q7) hf
  have L53 : ∀ (n : Nat) (x : Int32 × DS), lpN (BDr_refresh_53) n x = some q → 𝒥 0 0 (wD g ad x.2.1 x.2.2) [(0, .ref (ad 0)), (1, .int x.1)] [] 53 := by
    refine lp_ind (fun k53 k53_ih x hf => ?_)
    unfold BDr_refresh_53 at hf
    refine j_iload_n (pc := 53) C d_Dr_refresh_53 rfl 1 rfl ?_
    refine j_aload_n (pc := 54) C d_Dr_refresh_54 rfl 0 rfl ?_
    refine j_get (pc := 55) C d_Dr_refresh_55 0 8 wD_o0 rfl (v := .int (x.2.2 0)) rfl (by decide) tw285 ?_
    refine j_icmp_ge (pc := 58) C d_Dr_refresh_58 (tgt := 115) rfl (fun h5 => ?_) (fun h5 => ?_)
    · rw [if_pos h5] at hf
      refine j_aload_n (pc := 115) C d_Dr_refresh_115 rfl 0 rfl ?_
      refine j_iconst (pc := 116) C d_Dr_refresh_116 ck_0 ?_
      refine j_put (pc := 117) C d_Dr_refresh_117 0 10 wD_o0 rfl (by decide) tw288 pd_I rfl rfl rfl (Nat.le_of_ble_eq_true rfl) (ws' := wD g ad x.2.1 (va_up x.2.2 1 0)) wD_p0_10 ?_
      refine j_iconst (pc := 120) C d_Dr_refresh_120 ck_0 ?_
      refine j_istore_n (pc := 121) C d_Dr_refresh_121 rfl [1, 0] (by decide) (lc' := [(0, .ref (ad 0)), (1, .int 0)]) rfl ?_
      exact L122 100000 (0, (x.2.1, (va_up x.2.2 1 0))) hf
    · rw [if_neg h5] at hf
      refine j_aload_n (pc := 61) C d_Dr_refresh_61 rfl 0 rfl ?_
      refine j_get (pc := 62) C d_Dr_refresh_62 0 5 wD_o0 rfl (v := .ref (ad 23)) rfl (by decide) tw282 ?_
      refine j_aload_n (pc := 65) C d_Dr_refresh_65 rfl 0 rfl ?_
      refine j_get (pc := 66) C d_Dr_refresh_66 0 6 wD_o0 rfl (v := .ref (ad 27)) rfl (by decide) tw283 ?_
      refine j_iload_n (pc := 69) C d_Dr_refresh_69 rfl 1 rfl ?_
      obtain ⟨b8, hf⟩ := og hf
      refine j_iald (pc := 70) C d_Dr_refresh_70 27 (inb_in b8) (x := x.2.1 27 x.1.toNatClampNeg) wD_a27 rfl ?_
      refine j_aload_n (pc := 71) C d_Dr_refresh_71 rfl 0 rfl ?_
      refine j_get (pc := 72) C d_Dr_refresh_72 0 6 wD_o0 rfl (v := .ref (ad 27)) rfl (by decide) tw283 ?_
      refine j_iload_n (pc := 75) C d_Dr_refresh_75 rfl 1 rfl ?_
      refine j_iconst (pc := 76) C d_Dr_refresh_76 ck_1 ?_
      refine j_iadd (pc := 77) C d_Dr_refresh_77 ?_
      obtain ⟨b9, hf⟩ := og hf
      refine j_iald (pc := 78) C d_Dr_refresh_78 27 (inb_in b9) (x := x.2.1 27 (x.1 + 1).toNatClampNeg) wD_a27 rfl ?_
      obtain ⟨q10, eq10, hf⟩ := ob hf
      refine j_callVi (pc := 79) C (rest := []) d_Dr_refresh_79 (c_Gr_readFunction (g := g) (ad := ad) eq10) cv_Gr_readFunction tw485 23 rfl rfl cut_same rfl rfl (Nat.le_of_ble_eq_true rfl) (kc2 := 0) (ks2 := 0) (by decide) ?_
      refine j_istore_n (pc := 82) C d_Dr_refresh_82 rfl [1, 2, 0] (by decide) (lc' := [(0, .ref (ad 0)), (1, .int x.1), (2, .int q10.1)]) rfl ?_
      refine j_aload_n (pc := 83) C d_Dr_refresh_83 rfl 0 rfl ?_
      refine j_get (pc := 84) C d_Dr_refresh_84 0 7 wD_o0 rfl (v := .ref (ad 28)) rfl (by decide) tw284 ?_
      refine j_iload_n (pc := 87) C d_Dr_refresh_87 rfl 1 rfl ?_
      refine j_iload_n (pc := 88) C d_Dr_refresh_88 rfl 2 rfl ?_
      refine j_if_eq (pc := 89) C d_Dr_refresh_89 (tgt := 96) rfl (fun h11 => ?_) (fun h11 => ?_)
      · rw [if_pos h11] at hf
        refine j_aload_n (pc := 96) C d_Dr_refresh_96 rfl 0 rfl ?_
        refine j_aload_n (pc := 97) C d_Dr_refresh_97 rfl 0 rfl ?_
        refine j_get (pc := 98) C d_Dr_refresh_98 0 6 wD_o0 rfl (v := .ref (ad 27)) rfl (by decide) tw283 ?_
        refine j_iload_n (pc := 101) C d_Dr_refresh_101 rfl 1 rfl ?_
        refine j_iconst (pc := 102) C d_Dr_refresh_102 ck_1 ?_
        refine j_iadd (pc := 103) C d_Dr_refresh_103 ?_
        obtain ⟨b12, hf⟩ := og hf
        refine j_iald (pc := 104) C d_Dr_refresh_104 27 (inb_in b12) (x := q10.2.1 27 (x.1 + 1).toNatClampNeg) wD_a27 rfl ?_
        obtain ⟨q13, eq13, hf⟩ := ob hf
        refine j_callVi (pc := 105) C (rest := [.int x.1, .ref (ad 28)]) d_Dr_refresh_105 (c_Dr_brokenPlace (g := g) (ad := ad) eq13) cv_Dr_brokenPlace tw554 0 rfl rfl cut_same rfl rfl (Nat.le_of_ble_eq_true rfl) (kc2 := 0) (ks2 := 0) (by decide) ?_
        obtain ⟨b14, hf⟩ := og hf
        refine j_iast (pc := 108) C d_Dr_refresh_108 28 (inb_in b14) wD_a28 (ws' := wD g ad (va_up q13.2.1 28 (upd (q13.2.1 28) x.1.toNatClampNeg q13.1)) q13.2.2) wD_s28 ?_
        refine j_iinc (pc := 109) C d_Dr_refresh_109 1 rfl (v := x.1 + 1) (iv ci_1) [1, 0, 2] (by decide) (lc' := [(0, .ref (ad 0)), (1, .int (x.1 + 1)), (2, .int q10.1)]) rfl ?_
        refine j_goto (pc := 112) C d_Dr_refresh_112 (tgt := 53) rfl ?_
        refine j_lc C (lc' := [(0, .ref (ad 0)), (1, .int (x.1 + 1))]) [0, 1] rfl ?_
        exact k53_ih (x.1 + 1, ((va_up q13.2.1 28 (upd (q13.2.1 28) x.1.toNatClampNeg q13.1)), q13.2.2)) hf
      · rw [if_neg h11] at hf
        refine j_iconst (pc := 92) C d_Dr_refresh_92 ck_m1 ?_
        refine j_goto (pc := 93) C d_Dr_refresh_93 (tgt := 108) rfl ?_
        obtain ⟨b15, hf⟩ := og hf
        refine j_iast (pc := 108) C d_Dr_refresh_108 28 (inb_in b15) wD_a28 (ws' := wD g ad (va_up q10.2.1 28 (upd (q10.2.1 28) x.1.toNatClampNeg (-1))) q10.2.2) wD_s28 ?_
        refine j_iinc (pc := 109) C d_Dr_refresh_109 1 rfl (v := x.1 + 1) (iv ci_1) [1, 0, 2] (by decide) (lc' := [(0, .ref (ad 0)), (1, .int (x.1 + 1)), (2, .int q10.1)]) rfl ?_
        refine j_goto (pc := 112) C d_Dr_refresh_112 (tgt := 53) rfl ?_
        refine j_lc C (lc' := [(0, .ref (ad 0)), (1, .int (x.1 + 1))]) [0, 1] rfl ?_
        exact k53_ih (x.1 + 1, ((va_up q10.2.1 28 (upd (q10.2.1 28) x.1.toNatClampNeg (-1))), q10.2.2)) hf
  unfold f_Dr_refresh at hf
  change 𝒥 0 0 (wD g ad d.1 d.2) [(0, .ref (ad 0))] [] 0
  refine j_aload_n (pc := 0) C d_Dr_refresh_0 rfl 0 rfl ?_
  refine j_get (pc := 1) C d_Dr_refresh_1 0 11 wD_o0 rfl (v := .int (d.2 2)) rfl (by decide) tw290 ?_
  refine j_if_eq (pc := 4) C d_Dr_refresh_4 (tgt := 8) rfl (fun h1 => ?_) (fun h1 => ?_)
  · rw [if_pos h1] at hf
    refine j_aload_n (pc := 8) C d_Dr_refresh_8 rfl 0 rfl ?_
    refine j_iconst (pc := 9) C d_Dr_refresh_9 ck_1 ?_
    refine j_put (pc := 10) C d_Dr_refresh_10 0 11 wD_o0 rfl (by decide) tw290 pd_Z rfl rfl rfl (Nat.le_of_ble_eq_true rfl) (ws' := wD g ad d.1 (va_up d.2 2 1)) wD_p0_11 ?_
    refine j_aload_n (pc := 13) C d_Dr_refresh_13 rfl 0 rfl ?_
    refine j_get (pc := 14) C d_Dr_refresh_14 0 1 wD_o0 rfl (v := .ref (ad 3)) rfl (by decide) tw271 ?_
    refine j_aload_n (pc := 17) C d_Dr_refresh_17 rfl 0 rfl ?_
    refine j_get (pc := 18) C d_Dr_refresh_18 0 0 wD_o0 rfl (v := .ref (ad 1)) rfl (by decide) tw269 ?_
    obtain ⟨q2, eq2, hf⟩ := ob hf
    refine j_callVv (pc := 21) C (rest := []) d_Dr_refresh_21 (c_To_readFrom (g := g) (ad := ad) eq2) cv_To_readFrom tw364 3 rfl rfl cut_same rfl rfl (Nat.le_of_ble_eq_true rfl) (kc2 := 0) (ks2 := 0) (by decide) ?_
    refine j_aload_n (pc := 24) C d_Dr_refresh_24 rfl 0 rfl ?_
    refine j_get (pc := 25) C d_Dr_refresh_25 0 3 wD_o0 rfl (v := .ref (ad 12)) rfl (by decide) tw277 ?_
    obtain ⟨q3, eq3, hf⟩ := ob hf
    refine j_callVv (pc := 28) C (rest := []) d_Dr_refresh_28 (c_Na_clear (g := g) (ad := ad) eq3) cv_Na_clear tw473 12 rfl rfl cut_same rfl rfl (Nat.le_of_ble_eq_true rfl) (kc2 := 0) (ks2 := 0) (by decide) ?_
    refine j_aload_n (pc := 31) C d_Dr_refresh_31 rfl 0 rfl ?_
    refine j_get (pc := 32) C d_Dr_refresh_32 0 2 wD_o0 rfl (v := .ref (ad 8)) rfl (by decide) tw274 ?_
    refine j_iconst (pc := 35) C d_Dr_refresh_35 ck_0 ?_
    refine j_put (pc := 36) C d_Dr_refresh_36 8 3 wD_o8 rfl (by decide) tw153 pd_I rfl rfl rfl (Nat.le_of_ble_eq_true rfl) (ws' := wD g ad q3.1 (va_up q3.2 5 0)) wD_p8_3 ?_
    refine j_aload_n (pc := 39) C d_Dr_refresh_39 rfl 0 rfl ?_
    refine j_get (pc := 40) C d_Dr_refresh_40 0 4 wD_o0 rfl (v := .ref (ad 20)) rfl (by decide) tw280 ?_
    refine j_iconst (pc := 43) C d_Dr_refresh_43 ck_0 ?_
    refine j_put (pc := 44) C d_Dr_refresh_44 20 2 wD_o20 rfl (by decide) tw222 pd_I rfl rfl rfl (Nat.le_of_ble_eq_true rfl) (ws' := wD g ad q3.1 (va_up (va_up q3.2 5 0) 6 0)) wD_p20_2 ?_
    refine j_aload_n (pc := 47) C d_Dr_refresh_47 rfl 0 rfl ?_
    obtain ⟨q4, eq4, hf⟩ := ob hf
    refine j_callVv (pc := 48) C (rest := []) d_Dr_refresh_48 (c_Dr_splitParts (g := g) (ad := ad) eq4) cv_Dr_splitParts tw477 0 rfl rfl cut_same rfl rfl (Nat.le_of_ble_eq_true rfl) (kc2 := 0) (ks2 := 0) (by decide) ?_
    refine j_iconst (pc := 51) C d_Dr_refresh_51 ck_0 ?_
    refine j_istore_n (pc := 52) C d_Dr_refresh_52 rfl [1, 0] (by decide) (lc' := [(0, .ref (ad 0)), (1, .int 0)]) rfl ?_
    exact L53 100000 (0, q4) hf
  · rw [if_neg h1] at hf
    cases hf
    exact j_vret (pc := 7) C d_Dr_refresh_7 ⟨rfl, rfl⟩ (Nat.le_of_ble_eq_true rfl) (Nat.le_of_ble_eq_true rfl)
