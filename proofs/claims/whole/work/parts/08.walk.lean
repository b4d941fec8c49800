abbrev rm_X_tokens : Room := { frames := 41, cells := 0, slots := 0, locals := 1162 }
theorem cv_X_tokens : CV y_X_tokens b_X_tokens 1 (some .int) 0 := ⟨⟨tw359, tw1, by decide +kernel⟩, tw357, tw358⟩
set_option maxHeartbeats 4000000 in
set_option maxRecDepth 100000 in
theorem c_X_tokens {g : GT} {ax : Nat → Nat} {am : Nat → Nat} {ad : Nat → Nat} {bd : Nat → Nat} {k : DS} {d : DS} {b : DS} {q : Int32 × DS × DS × DS} (hf : f_X_tokens k d b = some q) : MI g y_X_tokens b_X_tokens 1 (some .int) rm_X_tokens [.ref (ax 0)] (wX g ax am ad bd ++ (wM g am k.1 k.2 ++ (wD g ad d.1 d.2 ++ wD g bd b.1 b.2))) q.1 (wX g ax am ad bd ++ (wM g am q.2.1.1 q.2.1.2 ++ (wD g ad q.2.2.1.1 q.2.2.1.2 ++ wD g bd q.2.2.2.1 q.2.2.2.2))) := by
  refine MI.of (by decide) (Nat.le_of_ble_eq_true rfl) (fun 𝒥 C => ?_)
  unfold f_X_tokens at hf
  change 𝒥 0 0 (wX g ax am ad bd ++ (wM g am k.1 k.2 ++ (wD g ad d.1 d.2 ++ wD g bd b.1 b.2))) [(0, .ref (ax 0))] [] 0
  refine j_aload_n (pc := 0) C d_X_tokens_0 rfl 0 rfl ?_
  refine j_get (pc := 1) C d_X_tokens_1 0 1 rfl rfl (v := .ref (ad 0)) rfl (by decide) tw318 ?_
  obtain ⟨q1, eq1, hf⟩ := ob hf
  refine j_callVv (pc := 4) C (rest := []) d_X_tokens_4 (c_Dr_refresh (g := g) (ad := ad) eq1) cv_Dr_refresh tw360 6 rfl rfl (cut_blk [wX g ax am ad bd, wM g am k.1 k.2, wD g ad d.1 d.2, wD g bd b.1 b.2] [wX g ax am ad bd, wM g am k.1 k.2, wD g ad q1.1 q1.2, wD g bd b.1 b.2] [0, 1, 3] [2] rfl rfl rfl rfl rfl rfl rfl) rfl rfl (Nat.le_of_ble_eq_true rfl) (kc2 := 0) (ks2 := 0) (by decide) ?_
  refine j_aload_n (pc := 7) C d_X_tokens_7 rfl 0 rfl ?_
  refine j_get (pc := 8) C d_X_tokens_8 0 1 rfl rfl (v := .ref (ad 0)) rfl (by decide) tw318 ?_
  refine j_get (pc := 11) C d_X_tokens_11 6 1 rfl rfl (v := .ref (ad 3)) rfl (by decide) tw273 ?_
  refine j_get (pc := 14) C d_X_tokens_14 9 4 rfl rfl (v := .int (q1.2 4)) rfl (by decide) tw126 ?_
  cases hf
  exact j_iret (pc := 17) C d_X_tokens_17 ⟨rfl, rfl⟩ (Nat.le_of_ble_eq_true rfl) (Nat.le_of_ble_eq_true rfl)
abbrev rm_X_token : Room := { frames := 41, cells := 1, slots := 6, locals := 1162 }
theorem cv_X_token : CV y_X_token b_X_token 3 (some .int) 2 := ⟨⟨tw738, tw1, by decide +kernel⟩, tw736, tw737⟩
set_option maxHeartbeats 4000000 in
set_option maxRecDepth 100000 in
theorem c_X_token {g : GT} {ax : Nat → Nat} {am : Nat → Nat} {ad : Nat → Nat} {bd : Nat → Nat} {a1 : Int32} {a2 : Int32} {k : DS} {d : DS} {b : DS} {q : Nat × Int32 × DS × DS × DS} (hf : f_X_token a1 a2 k d b = some q) : MX g y_X_token b_X_token 3 (some .int) rm_X_token [.ref (ax 0), .int a1, .int a2] (wX g ax am ad bd ++ (wM g am k.1 k.2 ++ (wD g ad d.1 d.2 ++ wD g bd b.1 b.2))) q.1 (some (.int q.2.1)) (wX g ax am ad bd ++ (wM g am q.2.2.1.1 q.2.2.1.2 ++ (wD g ad q.2.2.2.1.1 q.2.2.2.1.2 ++ wD g bd q.2.2.2.2.1 q.2.2.2.2.2))) := by
  refine MX.of (by decide) (Nat.le_of_ble_eq_true rfl) (fun 𝒥 CX => ?_)
  have C := CX.K
  unfold f_X_token at hf
  change 𝒥 0 0 (wX g ax am ad bd ++ (wM g am k.1 k.2 ++ (wD g ad d.1 d.2 ++ wD g bd b.1 b.2))) [(0, .ref (ax 0)), (1, .int a1), (2, .int a2)] [] 0
  refine j_iload_n (pc := 0) C d_X_token_0 rfl 2 rfl ?_
  refine j_if_lt (pc := 1) C d_X_token_1 (tgt := 9) rfl (fun h1 => ?_) (fun h1 => ?_)
  · rw [if_pos h1] at hf
    cases hf
    exact j_throw (pc := 9) CX xt_1 d_X_token_9 d_X_token_12 d_X_token_13 d_X_token_16 ⟨by decide, rfl, rfl⟩ (by decide)
  · rw [if_neg h1] at hf
    refine j_iload_n (pc := 4) C d_X_token_4 rfl 2 rfl ?_
    refine j_iconst (pc := 5) C d_X_token_5 ck_3 ?_
    refine j_icmp_le (pc := 6) C d_X_token_6 (tgt := 17) rfl (fun h2 => ?_) (fun h2 => ?_)
    · rw [if_pos h2] at hf
      refine j_aload_n (pc := 17) C d_X_token_17 rfl 0 rfl ?_
      refine j_get (pc := 18) C d_X_token_18 0 1 rfl rfl (v := .ref (ad 0)) rfl (by decide) tw318 ?_
      obtain ⟨q3, eq3, hf⟩ := ob hf
      refine j_callVv (pc := 21) C (rest := []) d_X_token_21 (c_Dr_refresh (g := g) (ad := ad) eq3) cv_Dr_refresh tw360 6 rfl rfl (cut_blk [wX g ax am ad bd, wM g am k.1 k.2, wD g ad d.1 d.2, wD g bd b.1 b.2] [wX g ax am ad bd, wM g am k.1 k.2, wD g ad q3.1 q3.2, wD g bd b.1 b.2] [0, 1, 3] [2] rfl rfl rfl rfl rfl rfl rfl) rfl rfl (Nat.le_of_ble_eq_true rfl) (kc2 := 0) (ks2 := 0) (by decide) ?_
      refine j_iload_n (pc := 24) C d_X_token_24 rfl 1 rfl ?_
      refine j_if_lt (pc := 25) C d_X_token_25 (tgt := 42) rfl (fun h4 => ?_) (fun h4 => ?_)
      · rw [if_pos h4] at hf
        cases hf
        exact j_throw (pc := 42) CX xt_4 d_X_token_42 d_X_token_45 d_X_token_46 d_X_token_49 ⟨by decide, rfl, rfl⟩ (by decide)
      · rw [if_neg h4] at hf
        refine j_iload_n (pc := 28) C d_X_token_28 rfl 1 rfl ?_
        refine j_aload_n (pc := 29) C d_X_token_29 rfl 0 rfl ?_
        refine j_get (pc := 30) C d_X_token_30 0 1 rfl rfl (v := .ref (ad 0)) rfl (by decide) tw318 ?_
        refine j_get (pc := 33) C d_X_token_33 6 1 rfl rfl (v := .ref (ad 3)) rfl (by decide) tw273 ?_
        refine j_get (pc := 36) C d_X_token_36 9 4 rfl rfl (v := .int (q3.2 4)) rfl (by decide) tw126 ?_
        refine j_icmp_lt (pc := 39) C d_X_token_39 (tgt := 50) rfl (fun h5 => ?_) (fun h5 => ?_)
        · rw [if_pos h5] at hf
          refine j_iload_n (pc := 50) C d_X_token_50 rfl 2 rfl ?_
          refine j_case (pc := 51) C d_X_token_51 (z := 0) (off := 25) (tgt := 76) (by decide) rfl (fun h6 => ?_) (fun h6 => ?_)
          · rw [if_pos h6] at hf
            refine j_aload_n (pc := 76) C d_X_token_76 rfl 0 rfl ?_
            refine j_get (pc := 77) C d_X_token_77 0 1 rfl rfl (v := .ref (ad 0)) rfl (by decide) tw318 ?_
            refine j_get (pc := 80) C d_X_token_80 6 1 rfl rfl (v := .ref (ad 3)) rfl (by decide) tw273 ?_
            refine j_get (pc := 83) C d_X_token_83 9 0 rfl rfl (v := .ref (ad 4)) rfl (by decide) tw110 ?_
            refine j_iload_n (pc := 86) C d_X_token_86 rfl 1 rfl ?_
            obtain ⟨b7, hf⟩ := og hf
            refine j_iald (pc := 87) C d_X_token_87 10 (inb_in b7) (x := q3.1 4 a1.toNatClampNeg) rfl rfl ?_
            cases hf
            exact j_iret (pc := 88) C d_X_token_88 ⟨rfl, rfl, rfl⟩ (Nat.le_of_ble_eq_true rfl) (Nat.le_of_ble_eq_true rfl)
          rw [if_neg h6] at hf
          refine j_case (pc := 51) C d_X_token_51 (z := 1) (off := 38) (tgt := 89) (by decide) rfl (fun h8 => ?_) (fun h8 => ?_)
          · rw [if_pos h8] at hf
            refine j_aload_n (pc := 89) C d_X_token_89 rfl 0 rfl ?_
            refine j_get (pc := 90) C d_X_token_90 0 1 rfl rfl (v := .ref (ad 0)) rfl (by decide) tw318 ?_
            refine j_get (pc := 93) C d_X_token_93 6 1 rfl rfl (v := .ref (ad 3)) rfl (by decide) tw273 ?_
            refine j_get (pc := 96) C d_X_token_96 9 2 rfl rfl (v := .ref (ad 6)) rfl (by decide) tw119 ?_
            refine j_iload_n (pc := 99) C d_X_token_99 rfl 1 rfl ?_
            obtain ⟨b9, hf⟩ := og hf
            refine j_iald (pc := 100) C d_X_token_100 12 (inb_in b9) (x := q3.1 6 a1.toNatClampNeg) rfl rfl ?_
            cases hf
            exact j_iret (pc := 101) C d_X_token_101 ⟨rfl, rfl, rfl⟩ (Nat.le_of_ble_eq_true rfl) (Nat.le_of_ble_eq_true rfl)
          rw [if_neg h8] at hf
          refine j_case (pc := 51) C d_X_token_51 (z := 2) (off := 51) (tgt := 102) (by decide) rfl (fun h10 => ?_) (fun h10 => ?_)
          · rw [if_pos h10] at hf
            refine j_aload_n (pc := 102) C d_X_token_102 rfl 0 rfl ?_
            refine j_get (pc := 103) C d_X_token_103 0 1 rfl rfl (v := .ref (ad 0)) rfl (by decide) tw318 ?_
            refine j_get (pc := 106) C d_X_token_106 6 1 rfl rfl (v := .ref (ad 3)) rfl (by decide) tw273 ?_
            refine j_get (pc := 109) C d_X_token_109 9 3 rfl rfl (v := .ref (ad 7)) rfl (by decide) tw122 ?_
            refine j_iload_n (pc := 112) C d_X_token_112 rfl 1 rfl ?_
            obtain ⟨b11, hf⟩ := og hf
            refine j_iald (pc := 113) C d_X_token_113 13 (inb_in b11) (x := q3.1 7 a1.toNatClampNeg) rfl rfl ?_
            cases hf
            exact j_iret (pc := 114) C d_X_token_114 ⟨rfl, rfl, rfl⟩ (Nat.le_of_ble_eq_true rfl) (Nat.le_of_ble_eq_true rfl)
          rw [if_neg h10] at hf
          have ih6 := ine 0 (by decide) h6
          have ih8 := ine 1 (by decide) h8
          have ih10 := ine 2 (by decide) h10
          refine j_dflt C d_X_token_51 (tgt := 115) (by omega) rfl ?_
          refine j_aload_n (pc := 115) C d_X_token_115 rfl 0 rfl ?_
          refine j_get (pc := 116) C d_X_token_116 0 1 rfl rfl (v := .ref (ad 0)) rfl (by decide) tw318 ?_
          refine j_get (pc := 119) C d_X_token_119 6 3 rfl rfl (v := .ref (ad 12)) rfl (by decide) tw279 ?_
          refine j_get (pc := 122) C d_X_token_122 18 1 rfl rfl (v := .ref (ad 14)) rfl (by decide) tw178 ?_
          refine j_iload_n (pc := 125) C d_X_token_125 rfl 1 rfl ?_
          obtain ⟨b12, hf⟩ := og hf
          refine j_iald (pc := 126) C d_X_token_126 20 (inb_in b12) (x := q3.1 14 a1.toNatClampNeg) rfl rfl ?_
          cases hf
          exact j_iret (pc := 127) C d_X_token_127 ⟨rfl, rfl, rfl⟩ (Nat.le_of_ble_eq_true rfl) (Nat.le_of_ble_eq_true rfl)
        · rw [if_neg h5] at hf
          cases hf
          exact j_throw (pc := 42) CX xt_4 d_X_token_42 d_X_token_45 d_X_token_46 d_X_token_49 ⟨by decide, rfl, rfl⟩ (by decide)
    · rw [if_neg h2] at hf
      cases hf
      exact j_throw (pc := 9) CX xt_1 d_X_token_9 d_X_token_12 d_X_token_13 d_X_token_16 ⟨by decide, rfl, rfl⟩ (by decide)
abbrev rm_X_faults : Room := { frames := 41, cells := 0, slots := 0, locals := 1162 }
theorem cv_X_faults : CV y_X_faults b_X_faults 1 (some .int) 0 := ⟨⟨tw603, tw1, by decide +kernel⟩, tw601, tw602⟩
set_option maxHeartbeats 4000000 in
set_option maxRecDepth 100000 in
theorem c_X_faults {g : GT} {ax : Nat → Nat} {am : Nat → Nat} {ad : Nat → Nat} {bd : Nat → Nat} {k : DS} {d : DS} {b : DS} {q : Int32 × DS × DS × DS} (hf : f_X_faults k d b = some q) : MI g y_X_faults b_X_faults 1 (some .int) rm_X_faults [.ref (ax 0)] (wX g ax am ad bd ++ (wM g am k.1 k.2 ++ (wD g ad d.1 d.2 ++ wD g bd b.1 b.2))) q.1 (wX g ax am ad bd ++ (wM g am q.2.1.1 q.2.1.2 ++ (wD g ad q.2.2.1.1 q.2.2.1.2 ++ wD g bd q.2.2.2.1 q.2.2.2.2))) := by
  refine MI.of (by decide) (Nat.le_of_ble_eq_true rfl) (fun 𝒥 C => ?_)
  unfold f_X_faults at hf
  change 𝒥 0 0 (wX g ax am ad bd ++ (wM g am k.1 k.2 ++ (wD g ad d.1 d.2 ++ wD g bd b.1 b.2))) [(0, .ref (ax 0))] [] 0
  refine j_aload_n (pc := 0) C d_X_faults_0 rfl 0 rfl ?_
  refine j_get (pc := 1) C d_X_faults_1 0 1 rfl rfl (v := .ref (ad 0)) rfl (by decide) tw318 ?_
  obtain ⟨q1, eq1, hf⟩ := ob hf
  refine j_callVv (pc := 4) C (rest := []) d_X_faults_4 (c_Dr_refresh (g := g) (ad := ad) eq1) cv_Dr_refresh tw360 6 rfl rfl (cut_blk [wX g ax am ad bd, wM g am k.1 k.2, wD g ad d.1 d.2, wD g bd b.1 b.2] [wX g ax am ad bd, wM g am k.1 k.2, wD g ad q1.1 q1.2, wD g bd b.1 b.2] [0, 1, 3] [2] rfl rfl rfl rfl rfl rfl rfl) rfl rfl (Nat.le_of_ble_eq_true rfl) (kc2 := 0) (ks2 := 0) (by decide) ?_
  refine j_aload_n (pc := 7) C d_X_faults_7 rfl 0 rfl ?_
  refine j_get (pc := 8) C d_X_faults_8 0 1 rfl rfl (v := .ref (ad 0)) rfl (by decide) tw318 ?_
  refine j_get (pc := 11) C d_X_faults_11 6 10 rfl rfl (v := .int (q1.2 1)) rfl (by decide) tw289 ?_
  cases hf
  exact j_iret (pc := 14) C d_X_faults_14 ⟨rfl, rfl⟩ (Nat.le_of_ble_eq_true rfl) (Nat.le_of_ble_eq_true rfl)
abbrev rm_X_fault : Room := { frames := 41, cells := 1, slots := 6, locals := 1162 }
theorem cv_X_fault : CV y_X_fault b_X_fault 2 (some .int) 1 := ⟨⟨tw760, tw1, by decide +kernel⟩, tw758, tw759⟩
set_option maxHeartbeats 4000000 in
set_option maxRecDepth 100000 in
theorem c_X_fault {g : GT} {ax : Nat → Nat} {am : Nat → Nat} {ad : Nat → Nat} {bd : Nat → Nat} {a1 : Int32} {k : DS} {d : DS} {b : DS} {q : Nat × Int32 × DS × DS × DS} (hf : f_X_fault a1 k d b = some q) : MX g y_X_fault b_X_fault 2 (some .int) rm_X_fault [.ref (ax 0), .int a1] (wX g ax am ad bd ++ (wM g am k.1 k.2 ++ (wD g ad d.1 d.2 ++ wD g bd b.1 b.2))) q.1 (some (.int q.2.1)) (wX g ax am ad bd ++ (wM g am q.2.2.1.1 q.2.2.1.2 ++ (wD g ad q.2.2.2.1.1 q.2.2.2.1.2 ++ wD g bd q.2.2.2.2.1 q.2.2.2.2.2))) := by
  refine MX.of (by decide) (Nat.le_of_ble_eq_true rfl) (fun 𝒥 CX => ?_)
  have C := CX.K
  unfold f_X_fault at hf
  change 𝒥 0 0 (wX g ax am ad bd ++ (wM g am k.1 k.2 ++ (wD g ad d.1 d.2 ++ wD g bd b.1 b.2))) [(0, .ref (ax 0)), (1, .int a1)] [] 0
  refine j_aload_n (pc := 0) C d_X_fault_0 rfl 0 rfl ?_
  refine j_get (pc := 1) C d_X_fault_1 0 1 rfl rfl (v := .ref (ad 0)) rfl (by decide) tw318 ?_
  obtain ⟨q1, eq1, hf⟩ := ob hf
  refine j_callVv (pc := 4) C (rest := []) d_X_fault_4 (c_Dr_refresh (g := g) (ad := ad) eq1) cv_Dr_refresh tw360 6 rfl rfl (cut_blk [wX g ax am ad bd, wM g am k.1 k.2, wD g ad d.1 d.2, wD g bd b.1 b.2] [wX g ax am ad bd, wM g am k.1 k.2, wD g ad q1.1 q1.2, wD g bd b.1 b.2] [0, 1, 3] [2] rfl rfl rfl rfl rfl rfl rfl) rfl rfl (Nat.le_of_ble_eq_true rfl) (kc2 := 0) (ks2 := 0) (by decide) ?_
  refine j_iload_n (pc := 7) C d_X_fault_7 rfl 1 rfl ?_
  refine j_if_lt (pc := 8) C d_X_fault_8 (tgt := 22) rfl (fun h2 => ?_) (fun h2 => ?_)
  · rw [if_pos h2] at hf
    cases hf
    exact j_throw (pc := 22) CX xt_4 d_X_fault_22 d_X_fault_25 d_X_fault_26 d_X_fault_29 ⟨by decide, rfl, rfl⟩ (by decide)
  · rw [if_neg h2] at hf
    refine j_iload_n (pc := 11) C d_X_fault_11 rfl 1 rfl ?_
    refine j_aload_n (pc := 12) C d_X_fault_12 rfl 0 rfl ?_
    refine j_get (pc := 13) C d_X_fault_13 0 1 rfl rfl (v := .ref (ad 0)) rfl (by decide) tw318 ?_
    refine j_get (pc := 16) C d_X_fault_16 6 10 rfl rfl (v := .int (q1.2 1)) rfl (by decide) tw289 ?_
    refine j_icmp_lt (pc := 19) C d_X_fault_19 (tgt := 30) rfl (fun h3 => ?_) (fun h3 => ?_)
    · rw [if_pos h3] at hf
      refine j_aload_n (pc := 30) C d_X_fault_30 rfl 0 rfl ?_
      refine j_get (pc := 31) C d_X_fault_31 0 1 rfl rfl (v := .ref (ad 0)) rfl (by decide) tw318 ?_
      refine j_get (pc := 34) C d_X_fault_34 6 9 rfl rfl (v := .ref (ad 29)) rfl (by decide) tw287 ?_
      refine j_iload_n (pc := 37) C d_X_fault_37 rfl 1 rfl ?_
      obtain ⟨b4, hf⟩ := og hf
      refine j_iald (pc := 38) C d_X_fault_38 35 (inb_in b4) (x := q1.1 29 a1.toNatClampNeg) rfl rfl ?_
      cases hf
      exact j_iret (pc := 39) C d_X_fault_39 ⟨rfl, rfl, rfl⟩ (Nat.le_of_ble_eq_true rfl) (Nat.le_of_ble_eq_true rfl)
    · rw [if_neg h3] at hf
      cases hf
      exact j_throw (pc := 22) CX xt_4 d_X_fault_22 d_X_fault_25 d_X_fault_26 d_X_fault_29 ⟨by decide, rfl, rfl⟩ (by decide)
abbrev rm_To_at : Room := { frames := 0, cells := 0, slots := 0, locals := 0 }
theorem cv_To_at : CV y_To_at b_To_at 3 (some .int) 1 := ⟨⟨tw775, tw5, by decide +kernel⟩, tw773, tw774⟩
set_option maxHeartbeats 4000000 in
set_option maxRecDepth 100000 in
theorem c_To_at {g : GT} {ad : Nat → Nat} {a1 : Int32} {d : DS} {q : Int32 × DS} (hf : f_To_at a1 d = some q) : MI g y_To_at b_To_at 3 (some .int) rm_To_at [.ref (ad 3), .int a1] (wD g ad d.1 d.2) q.1 (wD g ad q.2.1 q.2.2) := by
  refine MI.of (by decide) (Nat.le_of_ble_eq_true rfl) (fun 𝒥 C => ?_)
  have L2 : ∀ (n : Nat) (x : Int32 × Int32 × DS), lpN (BTo_at_2) n x = some q → 𝒥 0 0 (wD g ad x.2.2.1 x.2.2.2) [(0, .ref (ad 3)), (1, .int x.1), (2, .int x.2.1)] [] 2 := by
    refine lp_ind (fun k2 k2_ih x hf => ?_)
    unfold BTo_at_2 at hf
    refine j_iload_n (pc := 2) C d_To_at_2 rfl 2 rfl ?_
    refine j_aload_n (pc := 3) C d_To_at_3 rfl 0 rfl ?_
    refine j_get (pc := 4) C d_To_at_4 3 4 wD_o3 rfl (v := .int (x.2.2.2 4)) rfl (by decide) tw123 ?_
    refine j_icmp_ge (pc := 7) C d_To_at_7 (tgt := 38) rfl (fun h1 => ?_) (fun h1 => ?_)
    · rw [if_pos h1] at hf
      refine j_iconst (pc := 38) C d_To_at_38 ck_m1 ?_
      cases hf
      exact j_iret (pc := 39) C d_To_at_39 ⟨rfl, rfl⟩ (Nat.le_of_ble_eq_true rfl) (Nat.le_of_ble_eq_true rfl)
    · rw [if_neg h1] at hf
      refine j_aload_n (pc := 10) C d_To_at_10 rfl 0 rfl ?_
      refine j_get (pc := 11) C d_To_at_11 3 2 wD_o3 rfl (v := .ref (ad 6)) rfl (by decide) tw117 ?_
      refine j_iload_n (pc := 14) C d_To_at_14 rfl 2 rfl ?_
      obtain ⟨b2, hf⟩ := og hf
      refine j_iald (pc := 15) C d_To_at_15 6 (inb_in b2) (x := x.2.2.1 6 x.2.1.toNatClampNeg) wD_a6 rfl ?_
      refine j_iload_n (pc := 16) C d_To_at_16 rfl 1 rfl ?_
      refine j_icmp_gt (pc := 17) C d_To_at_17 (tgt := 32) rfl (fun h3 => ?_) (fun h3 => ?_)
      · rw [if_pos h3] at hf
        refine j_iinc (pc := 32) C d_To_at_32 2 rfl (v := x.2.1 + 1) (iv ci_1) [1, 2, 0] (by decide) (lc' := [(0, .ref (ad 3)), (1, .int x.1), (2, .int (x.2.1 + 1))]) rfl ?_
        refine j_goto (pc := 35) C d_To_at_35 (tgt := 2) rfl ?_
        exact k2_ih (x.1, x.2.1 + 1, x.2.2) hf
      · rw [if_neg h3] at hf
        refine j_iload_n (pc := 20) C d_To_at_20 rfl 1 rfl ?_
        refine j_aload_n (pc := 21) C d_To_at_21 rfl 0 rfl ?_
        refine j_get (pc := 22) C d_To_at_22 3 3 wD_o3 rfl (v := .ref (ad 7)) rfl (by decide) tw120 ?_
        refine j_iload_n (pc := 25) C d_To_at_25 rfl 2 rfl ?_
        obtain ⟨b4, hf⟩ := og hf
        refine j_iald (pc := 26) C d_To_at_26 7 (inb_in b4) (x := x.2.2.1 7 x.2.1.toNatClampNeg) wD_a7 rfl ?_
        refine j_icmp_ge (pc := 27) C d_To_at_27 (tgt := 32) rfl (fun h5 => ?_) (fun h5 => ?_)
        · rw [if_pos h5] at hf
          refine j_iinc (pc := 32) C d_To_at_32 2 rfl (v := x.2.1 + 1) (iv ci_1) [1, 2, 0] (by decide) (lc' := [(0, .ref (ad 3)), (1, .int x.1), (2, .int (x.2.1 + 1))]) rfl ?_
          refine j_goto (pc := 35) C d_To_at_35 (tgt := 2) rfl ?_
          exact k2_ih (x.1, x.2.1 + 1, x.2.2) hf
        · rw [if_neg h5] at hf
          refine j_iload_n (pc := 30) C d_To_at_30 rfl 2 rfl ?_
          cases hf
          exact j_iret (pc := 31) C d_To_at_31 ⟨rfl, rfl⟩ (Nat.le_of_ble_eq_true rfl) (Nat.le_of_ble_eq_true rfl)
  unfold f_To_at at hf
  change 𝒥 0 0 (wD g ad d.1 d.2) [(0, .ref (ad 3)), (1, .int a1)] [] 0
  refine j_iconst (pc := 0) C d_To_at_0 ck_0 ?_
  refine j_istore_n (pc := 1) C d_To_at_1 rfl [1, 2, 0] (by decide) (lc' := [(0, .ref (ad 3)), (1, .int a1), (2, .int 0)]) rfl ?_
  exact L2 100000 (a1, 0, d) hf
abbrev rm_Dr_declarationAt : Room := { frames := 1, cells := 0, slots := 0, locals := 22 }
theorem cv_Dr_declarationAt : CV y_Dr_declarationAt b_Dr_declarationAt 3 (some .int) 1 := ⟨⟨tw771, tw3, by decide +kernel⟩, tw769, tw770⟩
set_option maxHeartbeats 4000000 in
set_option maxRecDepth 100000 in
theorem c_Dr_declarationAt {g : GT} {ad : Nat → Nat} {a1 : Int32} {d : DS} {q : Int32 × DS} (hf : f_Dr_declarationAt a1 d = some q) : MI g y_Dr_declarationAt b_Dr_declarationAt 3 (some .int) rm_Dr_declarationAt [.ref (ad 0), .int a1] (wD g ad d.1 d.2) q.1 (wD g ad q.2.1 q.2.2) := by
  refine MI.of (by decide) (Nat.le_of_ble_eq_true rfl) (fun 𝒥 C => ?_)
  unfold f_Dr_declarationAt at hf
  change 𝒥 0 0 (wD g ad d.1 d.2) [(0, .ref (ad 0)), (1, .int a1)] [] 0
  refine j_aload_n (pc := 0) C d_Dr_declarationAt_0 rfl 0 rfl ?_
  refine j_get (pc := 1) C d_Dr_declarationAt_1 0 1 wD_o0 rfl (v := .ref (ad 3)) rfl (by decide) tw271 ?_
  refine j_iload_n (pc := 4) C d_Dr_declarationAt_4 rfl 1 rfl ?_
  obtain ⟨q1, eq1, hf⟩ := ob hf
  refine j_callVi (pc := 5) C (rest := []) d_Dr_declarationAt_5 (c_To_at (g := g) (ad := ad) eq1) cv_To_at tw772 3 rfl rfl cut_same rfl rfl (Nat.le_of_ble_eq_true rfl) (kc2 := 0) (ks2 := 0) (by decide) ?_
  refine j_istore_n (pc := 8) C d_Dr_declarationAt_8 rfl [1, 2, 0] (by decide) (lc' := [(0, .ref (ad 0)), (1, .int a1), (2, .int q1.1)]) rfl ?_
  refine j_iload_n (pc := 9) C d_Dr_declarationAt_9 rfl 2 rfl ?_
  refine j_iconst (pc := 10) C d_Dr_declarationAt_10 ck_m1 ?_
  refine j_icmp_ne (pc := 11) C d_Dr_declarationAt_11 (tgt := 18) rfl (fun h2 => ?_) (fun h2 => ?_)
  · rw [if_neg h2] at hf
    refine j_aload_n (pc := 18) C d_Dr_declarationAt_18 rfl 0 rfl ?_
    refine j_get (pc := 19) C d_Dr_declarationAt_19 0 3 wD_o0 rfl (v := .ref (ad 12)) rfl (by decide) tw277 ?_
    refine j_get (pc := 22) C d_Dr_declarationAt_22 12 1 wD_o12 rfl (v := .ref (ad 14)) rfl (by decide) tw177 ?_
    refine j_iload_n (pc := 25) C d_Dr_declarationAt_25 rfl 2 rfl ?_
    obtain ⟨b3, hf⟩ := og hf
    refine j_iald (pc := 26) C d_Dr_declarationAt_26 14 (inb_in b3) (x := q1.2.1 14 q1.1.toNatClampNeg) wD_a14 rfl ?_
    cases hf
    exact j_iret (pc := 27) C d_Dr_declarationAt_27 ⟨rfl, rfl⟩ (Nat.le_of_ble_eq_true rfl) (Nat.le_of_ble_eq_true rfl)
  · rw [if_pos h2] at hf
    refine j_iconst (pc := 14) C d_Dr_declarationAt_14 ck_m1 ?_
    refine j_goto (pc := 15) C d_Dr_declarationAt_15 (tgt := 27) rfl ?_
    cases hf
    exact j_iret (pc := 27) C d_Dr_declarationAt_27 ⟨rfl, rfl⟩ (Nat.le_of_ble_eq_true rfl) (Nat.le_of_ble_eq_true rfl)
abbrev rm_X_reference : Room := { frames := 41, cells := 1, slots := 6, locals := 1162 }
theorem cv_X_reference : CV y_X_reference b_X_reference 6 (some .int) 2 := ⟨⟨tw767, tw1, by decide +kernel⟩, tw765, tw766⟩
set_option maxHeartbeats 4000000 in
set_option maxRecDepth 100000 in
theorem c_X_reference {g : GT} {ax : Nat → Nat} {am : Nat → Nat} {ad : Nat → Nat} {bd : Nat → Nat} {a1 : Int32} {a2 : Int32} {k : DS} {d : DS} {b : DS} {q : Nat × Int32 × DS × DS × DS} (hf : f_X_reference a1 a2 k d b = some q) : MX g y_X_reference b_X_reference 6 (some .int) rm_X_reference [.ref (ax 0), .int a1, .int a2] (wX g ax am ad bd ++ (wM g am k.1 k.2 ++ (wD g ad d.1 d.2 ++ wD g bd b.1 b.2))) q.1 (some (.int q.2.1)) (wX g ax am ad bd ++ (wM g am q.2.2.1.1 q.2.2.1.2 ++ (wD g ad q.2.2.2.1.1 q.2.2.2.1.2 ++ wD g bd q.2.2.2.2.1 q.2.2.2.2.2))) := by
  refine MX.of (by decide) (Nat.le_of_ble_eq_true rfl) (fun 𝒥 CX => ?_)
  have C := CX.K
  have L39 : ∀ (n : Nat) (x : Int32 × Int32 × Int32 × Int32 × Int32 × DS × DS × DS), lpN (BX_reference_39) n x = some q → 𝒥 0 0 (wX g ax am ad bd ++ (wM g am x.2.2.2.2.2.1.1 x.2.2.2.2.2.1.2 ++ (wD g ad x.2.2.2.2.2.2.1.1 x.2.2.2.2.2.2.1.2 ++ wD g bd x.2.2.2.2.2.2.2.1 x.2.2.2.2.2.2.2.2))) [(0, .ref (ax 0)), (1, .int x.1), (2, .int x.2.1), (3, .int x.2.2.1), (4, .int x.2.2.2.1), (5, .int x.2.2.2.2.1)] [] 39 := by
    refine lp_ind (fun k39 k39_ih x hf => ?_)
    unfold BX_reference_39 at hf
    refine j_iload (pc := 39) C d_X_reference_39 5 rfl ?_
    refine j_aload_n (pc := 41) C d_X_reference_41 rfl 0 rfl ?_
    refine j_get (pc := 42) C d_X_reference_42 0 1 rfl rfl (v := .ref (ad 0)) rfl (by decide) tw318 ?_
    refine j_get (pc := 45) C d_X_reference_45 6 1 rfl rfl (v := .ref (ad 3)) rfl (by decide) tw273 ?_
    refine j_get (pc := 48) C d_X_reference_48 9 4 rfl rfl (v := .int (x.2.2.2.2.2.2.1.2 4)) rfl (by decide) tw126 ?_
    refine j_icmp_ge (pc := 51) C d_X_reference_51 (tgt := 100) rfl (fun h5 => ?_) (fun h5 => ?_)
    · rw [if_pos h5] at hf
      refine j_iconst (pc := 100) C d_X_reference_100 ck_m1 ?_
      cases hf
      exact j_iret (pc := 101) C d_X_reference_101 ⟨rfl, rfl, rfl⟩ (Nat.le_of_ble_eq_true rfl) (Nat.le_of_ble_eq_true rfl)
    · rw [if_neg h5] at hf
      refine j_aload_n (pc := 54) C d_X_reference_54 rfl 0 rfl ?_
      refine j_get (pc := 55) C d_X_reference_55 0 1 rfl rfl (v := .ref (ad 0)) rfl (by decide) tw318 ?_
      refine j_get (pc := 58) C d_X_reference_58 6 3 rfl rfl (v := .ref (ad 12)) rfl (by decide) tw279 ?_
      refine j_get (pc := 61) C d_X_reference_61 18 1 rfl rfl (v := .ref (ad 14)) rfl (by decide) tw178 ?_
      refine j_iload (pc := 64) C d_X_reference_64 5 rfl ?_
      obtain ⟨b6, hf⟩ := og hf
      refine j_iald (pc := 66) C d_X_reference_66 20 (inb_in b6) (x := x.2.2.2.2.2.2.1.1 14 x.2.2.2.2.1.toNatClampNeg) rfl rfl ?_
      refine j_topi C (fun v7 ev7 => ?_)
      replace hf := ov ev7 hf
      refine j_iload_n (pc := 67) C d_X_reference_67 rfl 3 rfl ?_
      refine j_icmp_ne (pc := 68) C d_X_reference_68 (tgt := 94) rfl (fun h8 => ?_) (fun h8 => ?_)
      · rw [if_neg h8] at hf
        refine j_iinc (pc := 94) C d_X_reference_94 5 rfl (v := x.2.2.2.2.1 + 1) (iv ci_1) [1, 2, 3, 4, 5, 0] (by decide) (lc' := [(0, .ref (ax 0)), (1, .int x.1), (2, .int x.2.1), (3, .int x.2.2.1), (4, .int x.2.2.2.1), (5, .int (x.2.2.2.2.1 + 1))]) rfl ?_
        refine j_goto (pc := 97) C d_X_reference_97 (tgt := 39) rfl ?_
        exact k39_ih (x.1, x.2.1, x.2.2.1, x.2.2.2.1, x.2.2.2.2.1 + 1, x.2.2.2.2.2.1, x.2.2.2.2.2.2.1, x.2.2.2.2.2.2.2) hf
      · rw [if_pos h8] at hf
        refine j_iload (pc := 71) C d_X_reference_71 4 rfl ?_
        refine j_iload_n (pc := 73) C d_X_reference_73 rfl 2 rfl ?_
        refine j_icmp_ne (pc := 74) C d_X_reference_74 (tgt := 91) rfl (fun h9 => ?_) (fun h9 => ?_)
        · rw [if_neg h9] at hf
          refine j_iinc (pc := 91) C d_X_reference_91 4 rfl (v := x.2.2.2.1 + 1) (iv ci_1) [1, 2, 3, 4, 0, 5] (by decide) (lc' := [(0, .ref (ax 0)), (1, .int x.1), (2, .int x.2.1), (3, .int x.2.2.1), (4, .int (x.2.2.2.1 + 1)), (5, .int x.2.2.2.2.1)]) rfl ?_
          refine j_iinc (pc := 94) C d_X_reference_94 5 rfl (v := x.2.2.2.2.1 + 1) (iv ci_1) [1, 2, 3, 4, 5, 0] (by decide) (lc' := [(0, .ref (ax 0)), (1, .int x.1), (2, .int x.2.1), (3, .int x.2.2.1), (4, .int (x.2.2.2.1 + 1)), (5, .int (x.2.2.2.2.1 + 1))]) rfl ?_
          refine j_goto (pc := 97) C d_X_reference_97 (tgt := 39) rfl ?_
          exact k39_ih (x.1, x.2.1, x.2.2.1, x.2.2.2.1 + 1, x.2.2.2.2.1 + 1, x.2.2.2.2.2.1, x.2.2.2.2.2.2.1, x.2.2.2.2.2.2.2) hf
        · rw [if_pos h9] at hf
          refine j_aload_n (pc := 77) C d_X_reference_77 rfl 0 rfl ?_
          refine j_get (pc := 78) C d_X_reference_78 0 1 rfl rfl (v := .ref (ad 0)) rfl (by decide) tw318 ?_
          refine j_get (pc := 81) C d_X_reference_81 6 1 rfl rfl (v := .ref (ad 3)) rfl (by decide) tw273 ?_
          refine j_get (pc := 84) C d_X_reference_84 9 2 rfl rfl (v := .ref (ad 6)) rfl (by decide) tw119 ?_
          refine j_iload (pc := 87) C d_X_reference_87 5 rfl ?_
          obtain ⟨b10, hf⟩ := og hf
          refine j_iald (pc := 89) C d_X_reference_89 12 (inb_in b10) (x := x.2.2.2.2.2.2.1.1 6 x.2.2.2.2.1.toNatClampNeg) rfl rfl ?_
          refine j_topi C (fun v11 ev11 => ?_)
          replace hf := ov ev11 hf
          cases hf
          exact j_iret (pc := 90) C d_X_reference_90 ⟨rfl, rfl, rfl⟩ (Nat.le_of_ble_eq_true rfl) (Nat.le_of_ble_eq_true rfl)
  unfold f_X_reference at hf
  change 𝒥 0 0 (wX g ax am ad bd ++ (wM g am k.1 k.2 ++ (wD g ad d.1 d.2 ++ wD g bd b.1 b.2))) [(0, .ref (ax 0)), (1, .int a1), (2, .int a2)] [] 0
  refine j_aload_n (pc := 0) C d_X_reference_0 rfl 0 rfl ?_
  refine j_get (pc := 1) C d_X_reference_1 0 1 rfl rfl (v := .ref (ad 0)) rfl (by decide) tw318 ?_
  obtain ⟨q1, eq1, hf⟩ := ob hf
  refine j_callVv (pc := 4) C (rest := []) d_X_reference_4 (c_Dr_refresh (g := g) (ad := ad) eq1) cv_Dr_refresh tw360 6 rfl rfl (cut_blk [wX g ax am ad bd, wM g am k.1 k.2, wD g ad d.1 d.2, wD g bd b.1 b.2] [wX g ax am ad bd, wM g am k.1 k.2, wD g ad q1.1 q1.2, wD g bd b.1 b.2] [0, 1, 3] [2] rfl rfl rfl rfl rfl rfl rfl) rfl rfl (Nat.le_of_ble_eq_true rfl) (kc2 := 0) (ks2 := 0) (by decide) ?_
  refine j_aload_n (pc := 7) C d_X_reference_7 rfl 0 rfl ?_
  refine j_get (pc := 8) C d_X_reference_8 0 1 rfl rfl (v := .ref (ad 0)) rfl (by decide) tw318 ?_
  refine j_iload_n (pc := 11) C d_X_reference_11 rfl 1 rfl ?_
  obtain ⟨q2, eq2, hf⟩ := ob hf
  refine j_callVi (pc := 12) C (rest := []) d_X_reference_12 (c_Dr_declarationAt (g := g) (ad := ad) eq2) cv_Dr_declarationAt tw768 6 rfl rfl (cut_blk [wX g ax am ad bd, wM g am k.1 k.2, wD g ad q1.1 q1.2, wD g bd b.1 b.2] [wX g ax am ad bd, wM g am k.1 k.2, wD g ad q2.2.1 q2.2.2, wD g bd b.1 b.2] [0, 1, 3] [2] rfl rfl rfl rfl rfl rfl rfl) rfl rfl (Nat.le_of_ble_eq_true rfl) (kc2 := 0) (ks2 := 0) (by decide) ?_
  refine j_istore_n (pc := 15) C d_X_reference_15 rfl [1, 2, 3, 0] (by decide) (lc' := [(0, .ref (ax 0)), (1, .int a1), (2, .int a2), (3, .int q2.1)]) rfl ?_
  refine j_iload_n (pc := 16) C d_X_reference_16 rfl 3 rfl ?_
  refine j_iconst (pc := 17) C d_X_reference_17 ck_m1 ?_
  refine j_icmp_eq (pc := 18) C d_X_reference_18 (tgt := 25) rfl (fun h3 => ?_) (fun h3 => ?_)
  · rw [if_pos h3] at hf
    cases hf
    exact j_throw (pc := 25) CX xt_4 d_X_reference_25 d_X_reference_28 d_X_reference_29 d_X_reference_32 ⟨by decide, rfl, rfl⟩ (by decide)
  · rw [if_neg h3] at hf
    refine j_iload_n (pc := 21) C d_X_reference_21 rfl 2 rfl ?_
    refine j_if_ge (pc := 22) C d_X_reference_22 (tgt := 33) rfl (fun h4 => ?_) (fun h4 => ?_)
    · rw [if_pos h4] at hf
      refine j_iconst (pc := 33) C d_X_reference_33 ck_0 ?_
      refine j_istore (pc := 34) C d_X_reference_34 [1, 2, 3, 4, 0] (by decide) (lc' := [(0, .ref (ax 0)), (1, .int a1), (2, .int a2), (3, .int q2.1), (4, .int 0)]) rfl ?_
      refine j_iconst (pc := 36) C d_X_reference_36 ck_0 ?_
      refine j_istore (pc := 37) C d_X_reference_37 [1, 2, 3, 4, 5, 0] (by decide) (lc' := [(0, .ref (ax 0)), (1, .int a1), (2, .int a2), (3, .int q2.1), (4, .int 0), (5, .int 0)]) rfl ?_
      exact L39 100000 (a1, a2, q2.1, 0, 0, k, q2.2, b) hf
    · rw [if_neg h4] at hf
      cases hf
      exact j_throw (pc := 25) CX xt_4 d_X_reference_25 d_X_reference_28 d_X_reference_29 d_X_reference_32 ⟨by decide, rfl, rfl⟩ (by decide)
abbrev rm_X_isName : Room := { frames := 1, cells := 0, slots := 0, locals := 21 }
theorem cv_X_isName : CS y_X_isName b_X_isName 4 (some .boolean) 1 := ⟨⟨tw786, tw1, by decide +kernel⟩, tw785⟩
set_option maxHeartbeats 4000000 in
set_option maxRecDepth 100000 in
theorem c_X_isName {g : GT} {a0 : Int64} {q : Int32} (hf : f_X_isName a0 = some q) : MI g y_X_isName b_X_isName 4 (some .boolean) rm_X_isName [.long a0] ([]) q ([]) := by
  refine MI.of (by decide) (Nat.le_of_ble_eq_true rfl) (fun 𝒥 C => ?_)
  have L19 : ∀ (n : Nat) (x : Int64 × Int32), lpN (BX_isName_19) n x = some q → 𝒥 0 0 ([]) [(0, .long x.1), (2, .int x.2)] [] 19 := by
    refine lp_ind (fun k19 k19_ih x hf => ?_)
    unfold BX_isName_19 at hf
    refine j_iload_n (pc := 19) C d_X_isName_19 rfl 1 rfl ?_
    refine j_if_le (pc := 20) C d_X_isName_20 (tgt := 48) rfl (fun h3 => ?_) (fun h3 => ?_)
    · rw [if_pos h3] at hf
      refine j_lload_n (pc := 48) C d_X_isName_48 rfl 0 rfl ?_
      refine j_l2i (pc := 49) C d_X_isName_49 rfl ?_
      obtain ⟨q4, eq4, hf⟩ := ob hf
      refine j_callSi (pc := 50) C (rest := []) d_X_isName_50 (c_X_keyword (g := g)  eq4) cv_X_keyword tw788 cut_none rfl rfl (Nat.le_of_ble_eq_true rfl) (kc2 := 0) (ks2 := 0) (by decide) ?_
      refine j_iconst (pc := 53) C d_X_isName_53 ck_m1 ?_
      refine j_icmp_ne (pc := 54) C d_X_isName_54 (tgt := 61) rfl (fun h5 => ?_) (fun h5 => ?_)
      · rw [if_neg h5] at hf
        refine j_iconst (pc := 61) C d_X_isName_61 ck_0 ?_
        cases hf
        exact j_zret (pc := 62) C d_X_isName_62 rfl ⟨rfl, rfl⟩ (Nat.le_of_ble_eq_true rfl) (Nat.le_of_ble_eq_true rfl)
      · rw [if_pos h5] at hf
        refine j_iconst (pc := 57) C d_X_isName_57 ck_1 ?_
        refine j_goto (pc := 58) C d_X_isName_58 (tgt := 62) rfl ?_
        cases hf
        exact j_zret (pc := 62) C d_X_isName_62 rfl ⟨rfl, rfl⟩ (Nat.le_of_ble_eq_true rfl) (Nat.le_of_ble_eq_true rfl)
    · rw [if_neg h3] at hf
      refine j_iload_n (pc := 23) C d_X_isName_23 rfl 1 rfl ?_
      refine j_bipush (pc := 24) C d_X_isName_24 cb_31 ?_
      refine j_iand (pc := 26) C d_X_isName_26 ?_
      refine j_istore_n (pc := 27) C d_X_isName_27 rfl [1, 2, 0] (by decide) (lc' := [(0, .long x.1), (2, .int x.2), (3, .int (x.2 &&& 31))]) rfl ?_
      refine j_iload_n (pc := 28) C d_X_isName_28 rfl 2 rfl ?_
      refine j_iconst (pc := 29) C d_X_isName_29 ck_1 ?_
      refine j_icmp_lt (pc := 30) C d_X_isName_30 (tgt := 39) rfl (fun h6 => ?_) (fun h6 => ?_)
      · rw [if_pos h6] at hf
        refine j_iconst (pc := 39) C d_X_isName_39 ck_0 ?_
        cases hf
        exact j_zret (pc := 40) C d_X_isName_40 rfl ⟨rfl, rfl⟩ (Nat.le_of_ble_eq_true rfl) (Nat.le_of_ble_eq_true rfl)
      · rw [if_neg h6] at hf
        refine j_iload_n (pc := 33) C d_X_isName_33 rfl 2 rfl ?_
        refine j_bipush (pc := 34) C d_X_isName_34 cb_26 ?_
        refine j_icmp_le (pc := 36) C d_X_isName_36 (tgt := 41) rfl (fun h7 => ?_) (fun h7 => ?_)
        · rw [if_pos h7] at hf
          refine j_iload_n (pc := 41) C d_X_isName_41 rfl 1 rfl ?_
          refine j_iconst (pc := 42) C d_X_isName_42 ck_5 ?_
          refine j_ishr (pc := 43) C d_X_isName_43 ?_
          refine j_istore_n (pc := 44) C d_X_isName_44 rfl [1, 0, 2] (by decide) (lc' := [(0, .long x.1), (2, .int (x.2 >>> (5 &&& 31))), (3, .int (x.2 &&& 31))]) rfl ?_
          refine j_goto (pc := 45) C d_X_isName_45 (tgt := 19) rfl ?_
          refine j_lc C (lc' := [(0, .long x.1), (2, .int (x.2 >>> (5 &&& 31)))]) [0, 1] rfl ?_
          exact k19_ih (x.1, x.2 >>> (5 &&& 31)) hf
        · rw [if_neg h7] at hf
          refine j_iconst (pc := 39) C d_X_isName_39 ck_0 ?_
          cases hf
          exact j_zret (pc := 40) C d_X_isName_40 rfl ⟨rfl, rfl⟩ (Nat.le_of_ble_eq_true rfl) (Nat.le_of_ble_eq_true rfl)
  unfold f_X_isName at hf
  change 𝒥 0 0 ([]) [(0, .long a0)] [] 0
  refine j_lload_n (pc := 0) C d_X_isName_0 rfl 0 rfl ?_
  refine j_lconst (pc := 1) C d_X_isName_1 cl_0 ?_
  refine j_lcmp (pc := 2) C d_X_isName_2 ?_
  refine j_if_le (pc := 3) C d_X_isName_3 (tgt := 14) rfl (fun h1 => ?_) (fun h1 => ?_)
  · rw [if_pos h1] at hf
    refine j_iconst (pc := 14) C d_X_isName_14 ck_0 ?_
    cases hf
    exact j_zret (pc := 15) C d_X_isName_15 rfl ⟨rfl, rfl⟩ (Nat.le_of_ble_eq_true rfl) (Nat.le_of_ble_eq_true rfl)
  · rw [if_neg h1] at hf
    refine j_lload_n (pc := 6) C d_X_isName_6 rfl 0 rfl ?_
    refine j_ldc2 (pc := 7) C d_X_isName_7 tw787 ?_
    refine j_lcmp (pc := 10) C d_X_isName_10 ?_
    refine j_if_lt (pc := 11) C d_X_isName_11 (tgt := 16) rfl (fun h2 => ?_) (fun h2 => ?_)
    · rw [if_pos h2] at hf
      refine j_lload_n (pc := 16) C d_X_isName_16 rfl 0 rfl ?_
      refine j_l2i (pc := 17) C d_X_isName_17 rfl ?_
      refine j_istore_n (pc := 18) C d_X_isName_18 rfl [1, 0] (by decide) (lc' := [(0, .long a0), (2, .int a0.toInt32)]) rfl ?_
      exact L19 100000 (a0, a0.toInt32) hf
    · rw [if_neg h2] at hf
      refine j_iconst (pc := 14) C d_X_isName_14 ck_0 ?_
      cases hf
      exact j_zret (pc := 15) C d_X_isName_15 rfl ⟨rfl, rfl⟩ (Nat.le_of_ble_eq_true rfl) (Nat.le_of_ble_eq_true rfl)
abbrev rm_Te_addPiece : Room := { frames := 1, cells := 0, slots := 0, locals := 21 }
theorem cv_Te_addPiece : CV y_Te_addPiece b_Te_addPiece 5 none 3 := ⟨⟨tw800, tw4, by decide +kernel⟩, tw798, tw799⟩
set_option maxHeartbeats 4000000 in
set_option maxRecDepth 100000 in
theorem c_Te_addPiece {g : GT} {ad : Nat → Nat} {bd : Nat → Nat} {a2 : Int32} {a3 : Int32} {d : DS} {b : DS} {q : DS × DS} (hf : f_Te_addPiece a2 a3 d b = some q) : MV g y_Te_addPiece b_Te_addPiece 5 none rm_Te_addPiece [.ref (ad 1), .ref (bd 1), .int a2, .int a3] (wD g ad d.1 d.2 ++ wD g bd b.1 b.2) (wD g ad q.1.1 q.1.2 ++ wD g bd q.2.1 q.2.2) := by
  refine MV.of (by decide) (Nat.le_of_ble_eq_true rfl) (fun 𝒥 C => ?_)
  have L3 : ∀ (n : Nat) (x : Int32 × Int32 × Int32 × DS × DS), lpN (BTe_addPiece_3) n x = some q → 𝒥 0 0 (wD g ad x.2.2.2.1.1 x.2.2.2.1.2 ++ wD g bd x.2.2.2.2.1 x.2.2.2.2.2) [(0, .ref (ad 1)), (1, .ref (bd 1)), (2, .int x.1), (3, .int x.2.1), (4, .int x.2.2.1)] [] 3 := by
    refine lp_ind (fun k3 k3_ih x hf => ?_)
    unfold BTe_addPiece_3 at hf
    refine j_iload (pc := 3) C d_Te_addPiece_3 4 rfl ?_
    refine j_iload_n (pc := 5) C d_Te_addPiece_5 rfl 3 rfl ?_
    refine j_icmp_ge (pc := 6) C d_Te_addPiece_6 (tgt := 26) rfl (fun h1 => ?_) (fun h1 => ?_)
    · rw [if_pos h1] at hf
      cases hf
      exact j_vret (pc := 26) C d_Te_addPiece_26 ⟨rfl, rfl⟩ (Nat.le_of_ble_eq_true rfl) (Nat.le_of_ble_eq_true rfl)
    · rw [if_neg h1] at hf
      refine j_aload_n (pc := 9) C d_Te_addPiece_9 rfl 0 rfl ?_
      refine j_aload_n (pc := 10) C d_Te_addPiece_10 rfl 1 rfl ?_
      refine j_get (pc := 11) C d_Te_addPiece_11 31 0 rfl rfl (v := .ref (bd 2)) rfl (by decide) tw89 ?_
      refine j_iload (pc := 14) C d_Te_addPiece_14 4 rfl ?_
      obtain ⟨b2, hf⟩ := og hf
      refine j_cald (pc := 16) C d_Te_addPiece_16 32 (inb_in b2) (x := x.2.2.2.2.1 2 x.2.2.1.toNatClampNeg) rfl rfl ?_
      obtain ⟨q3, eq3, hf⟩ := ob hf
      refine j_callVv (pc := 17) C (rest := []) d_Te_addPiece_17 (c_Te_add (g := g) (ad := ad) eq3) cv_Te_add tw351 1 rfl rfl (cut_blk [wD g ad x.2.2.2.1.1 x.2.2.2.1.2, wD g bd x.2.2.2.2.1 x.2.2.2.2.2] [wD g ad q3.1 q3.2, wD g bd x.2.2.2.2.1 x.2.2.2.2.2] [1] [0] rfl rfl rfl rfl rfl rfl rfl) rfl rfl (Nat.le_of_ble_eq_true rfl) (kc2 := 0) (ks2 := 0) (by decide) ?_
      refine j_iinc (pc := 20) C d_Te_addPiece_20 4 rfl (v := x.2.2.1 + 1) (iv ci_1) [1, 2, 3, 4, 0] (by decide) (lc' := [(0, .ref (ad 1)), (1, .ref (bd 1)), (2, .int x.1), (3, .int x.2.1), (4, .int (x.2.2.1 + 1))]) rfl ?_
      refine j_goto (pc := 23) C d_Te_addPiece_23 (tgt := 3) rfl ?_
      exact k3_ih (x.1, x.2.1, x.2.2.1 + 1, q3, x.2.2.2.2) hf
  unfold f_Te_addPiece at hf
  change 𝒥 0 0 (wD g ad d.1 d.2 ++ wD g bd b.1 b.2) [(0, .ref (ad 1)), (1, .ref (bd 1)), (2, .int a2), (3, .int a3)] [] 0
  refine j_iload_n (pc := 0) C d_Te_addPiece_0 rfl 2 rfl ?_
  refine j_istore (pc := 1) C d_Te_addPiece_1 [1, 2, 3, 4, 0] (by decide) (lc' := [(0, .ref (ad 1)), (1, .ref (bd 1)), (2, .int a2), (3, .int a3), (4, .int a2)]) rfl ?_
  exact L3 100000 (a2, a3, a2, d, b) hf
abbrev rm_Dr_copyRenamed : Room := { frames := 2, cells := 0, slots := 0, locals := 45 }
theorem cv_Dr_copyRenamed : CV y_Dr_copyRenamed b_Dr_copyRenamed 6 none 3 := ⟨⟨tw796, tw3, by decide +kernel⟩, tw794, tw795⟩
set_option maxHeartbeats 4000000 in
set_option maxRecDepth 100000 in
theorem c_Dr_copyRenamed {g : GT} {ad : Nat → Nat} {bd : Nat → Nat} {a2 : Int32} {a3 : Int32} {d : DS} {b : DS} {q : DS × DS} (hf : f_Dr_copyRenamed a2 a3 d b = some q) : MV g y_Dr_copyRenamed b_Dr_copyRenamed 6 none rm_Dr_copyRenamed [.ref (ad 0), .ref (bd 0), .int a2, .int a3] (wD g ad d.1 d.2 ++ wD g bd b.1 b.2) (wD g ad q.1.1 q.1.2 ++ wD g bd q.2.1 q.2.2) := by
  refine MV.of (by decide) (Nat.le_of_ble_eq_true rfl) (fun 𝒥 C => ?_)
  have L19 : ∀ (n : Nat) (x : Int32 × Int32 × Int32 × Int32 × DS × DS), lpN (BDr_copyRenamed_19) n x = some q → 𝒥 0 0 (wD g ad x.2.2.2.2.1.1 x.2.2.2.2.1.2 ++ wD g bd x.2.2.2.2.2.1 x.2.2.2.2.2.2) [(0, .ref (ad 0)), (1, .ref (bd 0)), (2, .int x.1), (3, .int x.2.1), (4, .int x.2.2.1), (5, .int x.2.2.2.1)] [] 19 := by
    refine lp_ind (fun k19 k19_ih x hf => ?_)
    unfold BDr_copyRenamed_19 at hf
    refine j_iload (pc := 19) C d_Dr_copyRenamed_19 5 rfl ?_
    refine j_aload_n (pc := 21) C d_Dr_copyRenamed_21 rfl 1 rfl ?_
    refine j_get (pc := 22) C d_Dr_copyRenamed_22 30 1 rfl rfl (v := .ref (bd 3)) rfl (by decide) tw271 ?_
    refine j_get (pc := 25) C d_Dr_copyRenamed_25 33 4 rfl rfl (v := .int (x.2.2.2.2.2.2 4)) rfl (by decide) tw125 ?_
    refine j_icmp_ge (pc := 28) C d_Dr_copyRenamed_28 (tgt := 94) rfl (fun h1 => ?_) (fun h1 => ?_)
    · rw [if_pos h1] at hf
      refine j_aload_n (pc := 94) C d_Dr_copyRenamed_94 rfl 0 rfl ?_
      refine j_get (pc := 95) C d_Dr_copyRenamed_95 0 0 rfl rfl (v := .ref (ad 1)) rfl (by decide) tw269 ?_
      refine j_aload_n (pc := 98) C d_Dr_copyRenamed_98 rfl 1 rfl ?_
      refine j_get (pc := 99) C d_Dr_copyRenamed_99 30 0 rfl rfl (v := .ref (bd 1)) rfl (by decide) tw269 ?_
      refine j_iload (pc := 102) C d_Dr_copyRenamed_102 4 rfl ?_
      refine j_aload_n (pc := 104) C d_Dr_copyRenamed_104 rfl 1 rfl ?_
      refine j_get (pc := 105) C d_Dr_copyRenamed_105 30 0 rfl rfl (v := .ref (bd 1)) rfl (by decide) tw269 ?_
      refine j_get (pc := 108) C d_Dr_copyRenamed_108 31 1 rfl rfl (v := .int (x.2.2.2.2.2.2 3)) rfl (by decide) tw95 ?_
      obtain ⟨q2, eq2, hf⟩ := ob hf
      refine j_callVv (pc := 111) C (rest := []) d_Dr_copyRenamed_111 (c_Te_addPiece (g := g) (ad := ad) (bd := bd) eq2) cv_Te_addPiece tw797 1 rfl rfl cut_same rfl rfl (Nat.le_of_ble_eq_true rfl) (kc2 := 0) (ks2 := 0) (by decide) ?_
      cases hf
      exact j_vret (pc := 114) C d_Dr_copyRenamed_114 ⟨rfl, rfl⟩ (Nat.le_of_ble_eq_true rfl) (Nat.le_of_ble_eq_true rfl)
    · rw [if_neg h1] at hf
      refine j_aload_n (pc := 31) C d_Dr_copyRenamed_31 rfl 1 rfl ?_
      refine j_get (pc := 32) C d_Dr_copyRenamed_32 30 3 rfl rfl (v := .ref (bd 12)) rfl (by decide) tw277 ?_
      refine j_get (pc := 35) C d_Dr_copyRenamed_35 42 1 rfl rfl (v := .ref (bd 14)) rfl (by decide) tw177 ?_
      refine j_iload (pc := 38) C d_Dr_copyRenamed_38 5 rfl ?_
      obtain ⟨b3, hf⟩ := og hf
      refine j_iald (pc := 40) C d_Dr_copyRenamed_40 44 (inb_in b3) (x := x.2.2.2.2.2.1 14 x.2.2.2.1.toNatClampNeg) rfl rfl ?_
      refine j_iload_n (pc := 41) C d_Dr_copyRenamed_41 rfl 2 rfl ?_
      refine j_icmp_ne (pc := 42) C d_Dr_copyRenamed_42 (tgt := 88) rfl (fun h4 => ?_) (fun h4 => ?_)
      · rw [if_neg h4] at hf
        refine j_iinc (pc := 88) C d_Dr_copyRenamed_88 5 rfl (v := x.2.2.2.1 + 1) (iv ci_1) [1, 2, 3, 4, 5, 0] (by decide) (lc' := [(0, .ref (ad 0)), (1, .ref (bd 0)), (2, .int x.1), (3, .int x.2.1), (4, .int x.2.2.1), (5, .int (x.2.2.2.1 + 1))]) rfl ?_
        refine j_goto (pc := 91) C d_Dr_copyRenamed_91 (tgt := 19) rfl ?_
        exact k19_ih (x.1, x.2.1, x.2.2.1, x.2.2.2.1 + 1, x.2.2.2.2.1, x.2.2.2.2.2) hf
      · rw [if_pos h4] at hf
        refine j_aload_n (pc := 45) C d_Dr_copyRenamed_45 rfl 0 rfl ?_
        refine j_get (pc := 46) C d_Dr_copyRenamed_46 0 0 rfl rfl (v := .ref (ad 1)) rfl (by decide) tw269 ?_
        refine j_aload_n (pc := 49) C d_Dr_copyRenamed_49 rfl 1 rfl ?_
        refine j_get (pc := 50) C d_Dr_copyRenamed_50 30 0 rfl rfl (v := .ref (bd 1)) rfl (by decide) tw269 ?_
        refine j_iload (pc := 53) C d_Dr_copyRenamed_53 4 rfl ?_
        refine j_aload_n (pc := 55) C d_Dr_copyRenamed_55 rfl 1 rfl ?_
        refine j_get (pc := 56) C d_Dr_copyRenamed_56 30 1 rfl rfl (v := .ref (bd 3)) rfl (by decide) tw271 ?_
        refine j_get (pc := 59) C d_Dr_copyRenamed_59 33 2 rfl rfl (v := .ref (bd 6)) rfl (by decide) tw118 ?_
        refine j_iload (pc := 62) C d_Dr_copyRenamed_62 5 rfl ?_
        obtain ⟨b5, hf⟩ := og hf
        refine j_iald (pc := 64) C d_Dr_copyRenamed_64 36 (inb_in b5) (x := x.2.2.2.2.2.1 6 x.2.2.2.1.toNatClampNeg) rfl rfl ?_
        obtain ⟨q6, eq6, hf⟩ := ob hf
        refine j_callVv (pc := 65) C (rest := []) d_Dr_copyRenamed_65 (c_Te_addPiece (g := g) (ad := ad) (bd := bd) eq6) cv_Te_addPiece tw797 1 rfl rfl cut_same rfl rfl (Nat.le_of_ble_eq_true rfl) (kc2 := 0) (ks2 := 0) (by decide) ?_
        refine j_aload_n (pc := 68) C d_Dr_copyRenamed_68 rfl 0 rfl ?_
        refine j_get (pc := 69) C d_Dr_copyRenamed_69 0 0 rfl rfl (v := .ref (ad 1)) rfl (by decide) tw269 ?_
        refine j_iload_n (pc := 72) C d_Dr_copyRenamed_72 rfl 3 rfl ?_
        obtain ⟨q7, eq7, hf⟩ := ob hf
        refine j_callVv (pc := 73) C (rest := []) d_Dr_copyRenamed_73 (c_Te_addName (g := g) (ad := ad) eq7) cv_Te_addName tw801 1 rfl rfl (cut_blk [wD g ad q6.1.1 q6.1.2, wD g bd q6.2.1 q6.2.2] [wD g ad q7.1 q7.2, wD g bd q6.2.1 q6.2.2] [1] [0] rfl rfl rfl rfl rfl rfl rfl) rfl rfl (Nat.le_of_ble_eq_true rfl) (kc2 := 0) (ks2 := 0) (by decide) ?_
        refine j_aload_n (pc := 76) C d_Dr_copyRenamed_76 rfl 1 rfl ?_
        refine j_get (pc := 77) C d_Dr_copyRenamed_77 30 1 rfl rfl (v := .ref (bd 3)) rfl (by decide) tw271 ?_
        refine j_get (pc := 80) C d_Dr_copyRenamed_80 33 3 rfl rfl (v := .ref (bd 7)) rfl (by decide) tw121 ?_
        refine j_iload (pc := 83) C d_Dr_copyRenamed_83 5 rfl ?_
        obtain ⟨b8, hf⟩ := og hf
        refine j_iald (pc := 85) C d_Dr_copyRenamed_85 37 (inb_in b8) (x := q6.2.1 7 x.2.2.2.1.toNatClampNeg) rfl rfl ?_
        refine j_istore (pc := 86) C d_Dr_copyRenamed_86 [1, 2, 3, 4, 0, 5] (by decide) (lc' := [(0, .ref (ad 0)), (1, .ref (bd 0)), (2, .int x.1), (3, .int x.2.1), (4, .int (q6.2.1 7 x.2.2.2.1.toNatClampNeg)), (5, .int x.2.2.2.1)]) rfl ?_
        refine j_iinc (pc := 88) C d_Dr_copyRenamed_88 5 rfl (v := x.2.2.2.1 + 1) (iv ci_1) [1, 2, 3, 4, 5, 0] (by decide) (lc' := [(0, .ref (ad 0)), (1, .ref (bd 0)), (2, .int x.1), (3, .int x.2.1), (4, .int (q6.2.1 7 x.2.2.2.1.toNatClampNeg)), (5, .int (x.2.2.2.1 + 1))]) rfl ?_
        refine j_goto (pc := 91) C d_Dr_copyRenamed_91 (tgt := 19) rfl ?_
        exact k19_ih (x.1, x.2.1, q6.2.1 7 x.2.2.2.1.toNatClampNeg, x.2.2.2.1 + 1, q7, q6.2) hf
  unfold f_Dr_copyRenamed at hf
  change 𝒥 0 0 (wD g ad d.1 d.2 ++ wD g bd b.1 b.2) [(0, .ref (ad 0)), (1, .ref (bd 0)), (2, .int a2), (3, .int a3)] [] 0
  refine j_aload_n (pc := 0) C d_Dr_copyRenamed_0 rfl 0 rfl ?_
  refine j_iconst (pc := 1) C d_Dr_copyRenamed_1 ck_0 ?_
  refine j_put (pc := 2) C d_Dr_copyRenamed_2 0 11 rfl rfl (by decide) tw290 pd_Z rfl rfl rfl (Nat.le_of_ble_eq_true rfl) (ws' := wD g ad d.1 (va_up d.2 2 0) ++ wD g bd b.1 b.2) rfl ?_
  refine j_aload_n (pc := 5) C d_Dr_copyRenamed_5 rfl 0 rfl ?_
  refine j_get (pc := 6) C d_Dr_copyRenamed_6 0 0 rfl rfl (v := .ref (ad 1)) rfl (by decide) tw269 ?_
  refine j_iconst (pc := 9) C d_Dr_copyRenamed_9 ck_0 ?_
  refine j_put (pc := 10) C d_Dr_copyRenamed_10 1 1 rfl rfl (by decide) tw95 pd_I rfl rfl rfl (Nat.le_of_ble_eq_true rfl) (ws' := wD g ad d.1 (va_up (va_up d.2 2 0) 3 0) ++ wD g bd b.1 b.2) rfl ?_
  refine j_iconst (pc := 13) C d_Dr_copyRenamed_13 ck_0 ?_
  refine j_istore (pc := 14) C d_Dr_copyRenamed_14 [1, 2, 3, 4, 0] (by decide) (lc' := [(0, .ref (ad 0)), (1, .ref (bd 0)), (2, .int a2), (3, .int a3), (4, .int 0)]) rfl ?_
  refine j_iconst (pc := 16) C d_Dr_copyRenamed_16 ck_0 ?_
  refine j_istore (pc := 17) C d_Dr_copyRenamed_17 [1, 2, 3, 4, 5, 0] (by decide) (lc' := [(0, .ref (ad 0)), (1, .ref (bd 0)), (2, .int a2), (3, .int a3), (4, .int 0), (5, .int 0)]) rfl ?_
  exact L19 100000 (a2, a3, 0, 0, (d.1, (va_up (va_up d.2 2 0) 3 0)), b) hf
abbrev rm_Dr_meansTheSameAs : Room := { frames := 1, cells := 0, slots := 0, locals := 22 }
theorem cv_Dr_meansTheSameAs : CV y_Dr_meansTheSameAs b_Dr_meansTheSameAs 3 (some .boolean) 1 := ⟨⟨tw805, tw3, by decide +kernel⟩, tw803, tw804⟩
set_option maxHeartbeats 4000000 in
set_option maxRecDepth 100000 in
theorem c_Dr_meansTheSameAs {g : GT} {ad : Nat → Nat} {bd : Nat → Nat} {d : DS} {b : DS} {q : Int32 × DS × DS} (hf : f_Dr_meansTheSameAs d b = some q) : MI g y_Dr_meansTheSameAs b_Dr_meansTheSameAs 3 (some .boolean) rm_Dr_meansTheSameAs [.ref (ad 0), .ref (bd 0)] (wD g ad d.1 d.2 ++ wD g bd b.1 b.2) q.1 (wD g ad q.2.1.1 q.2.1.2 ++ wD g bd q.2.2.1 q.2.2.2) := by
  refine MI.of (by decide) (Nat.le_of_ble_eq_true rfl) (fun 𝒥 C => ?_)
  have L2 : ∀ (n : Nat) (x : Int32 × DS × DS), lpN (BDr_meansTheSameAs_2) n x = some q → 𝒥 0 0 (wD g ad x.2.1.1 x.2.1.2 ++ wD g bd x.2.2.1 x.2.2.2) [(0, .ref (ad 0)), (1, .ref (bd 0)), (2, .int x.1)] [] 2 := by
    refine lp_ind (fun k2 k2_ih x hf => ?_)
    unfold BDr_meansTheSameAs_2 at hf
    refine j_iload_n (pc := 2) C d_Dr_meansTheSameAs_2 rfl 2 rfl ?_
    refine j_aload_n (pc := 3) C d_Dr_meansTheSameAs_3 rfl 0 rfl ?_
    refine j_get (pc := 4) C d_Dr_meansTheSameAs_4 0 1 rfl rfl (v := .ref (ad 3)) rfl (by decide) tw271 ?_
    refine j_get (pc := 7) C d_Dr_meansTheSameAs_7 3 4 rfl rfl (v := .int (x.2.1.2 4)) rfl (by decide) tw125 ?_
    refine j_icmp_ge (pc := 10) C d_Dr_meansTheSameAs_10 (tgt := 42) rfl (fun h1 => ?_) (fun h1 => ?_)
    · rw [if_pos h1] at hf
      refine j_aload_n (pc := 42) C d_Dr_meansTheSameAs_42 rfl 0 rfl ?_
      refine j_get (pc := 43) C d_Dr_meansTheSameAs_43 0 2 rfl rfl (v := .ref (ad 8)) rfl (by decide) tw274 ?_
      refine j_getsN (pc := 46) C d_Dr_meansTheSameAs_46 nw806 ?_
      refine j_bipush (pc := 49) C d_Dr_meansTheSameAs_49 cb_6 ?_
      refine j_tld (pc := 51) C d_Dr_meansTheSameAs_51 (inb_in (by decide)) ?_
      obtain ⟨q3, eq3, hf⟩ := ob hf
      refine j_callVi (pc := 52) C (rest := []) d_Dr_meansTheSameAs_52 (c_Fn_find (g := g) (ad := ad) eq3) cv_Fn_find tw807 8 rfl rfl (cut_blk [wD g ad x.2.1.1 x.2.1.2, wD g bd x.2.2.1 x.2.2.2] [wD g ad q3.2.1 q3.2.2, wD g bd x.2.2.1 x.2.2.2] [1] [0] rfl rfl rfl rfl rfl rfl rfl) rfl rfl (Nat.le_of_ble_eq_true rfl) (kc2 := 0) (ks2 := 0) (by decide) ?_
      refine j_aload_n (pc := 55) C d_Dr_meansTheSameAs_55 rfl 1 rfl ?_
      refine j_get (pc := 56) C d_Dr_meansTheSameAs_56 30 2 rfl rfl (v := .ref (bd 8)) rfl (by decide) tw274 ?_
      refine j_getsN (pc := 59) C d_Dr_meansTheSameAs_59 nw806 ?_
      refine j_bipush (pc := 62) C d_Dr_meansTheSameAs_62 cb_6 ?_
      refine j_tld (pc := 64) C d_Dr_meansTheSameAs_64 (inb_in (by decide)) ?_
      obtain ⟨q5, eq5, hf⟩ := ob hf
      refine j_callVi (pc := 65) C (rest := [.int q3.1]) d_Dr_meansTheSameAs_65 (c_Fn_find (g := g) (ad := bd) eq5) cv_Fn_find tw807 38 rfl rfl (cut_blk [wD g ad q3.2.1 q3.2.2, wD g bd x.2.2.1 x.2.2.2] [wD g ad q3.2.1 q3.2.2, wD g bd q5.2.1 q5.2.2] [0] [1] rfl rfl rfl rfl rfl rfl rfl) rfl rfl (Nat.le_of_ble_eq_true rfl) (kc2 := 0) (ks2 := 0) (by decide) ?_
      refine j_icmp_ne (pc := 68) C d_Dr_meansTheSameAs_68 (tgt := 75) rfl (fun h6 => ?_) (fun h6 => ?_)
      · rw [if_neg h6] at hf
        refine j_iconst (pc := 75) C d_Dr_meansTheSameAs_75 ck_0 ?_
        cases hf
        exact j_zret (pc := 76) C d_Dr_meansTheSameAs_76 rfl ⟨rfl, rfl⟩ (Nat.le_of_ble_eq_true rfl) (Nat.le_of_ble_eq_true rfl)
      · rw [if_pos h6] at hf
        refine j_iconst (pc := 71) C d_Dr_meansTheSameAs_71 ck_1 ?_
        refine j_goto (pc := 72) C d_Dr_meansTheSameAs_72 (tgt := 76) rfl ?_
        cases hf
        exact j_zret (pc := 76) C d_Dr_meansTheSameAs_76 rfl ⟨rfl, rfl⟩ (Nat.le_of_ble_eq_true rfl) (Nat.le_of_ble_eq_true rfl)
    · rw [if_neg h1] at hf
      refine j_aload_n (pc := 13) C d_Dr_meansTheSameAs_13 rfl 0 rfl ?_
      refine j_get (pc := 14) C d_Dr_meansTheSameAs_14 0 3 rfl rfl (v := .ref (ad 12)) rfl (by decide) tw277 ?_
      refine j_get (pc := 17) C d_Dr_meansTheSameAs_17 12 1 rfl rfl (v := .ref (ad 14)) rfl (by decide) tw177 ?_
      refine j_iload_n (pc := 20) C d_Dr_meansTheSameAs_20 rfl 2 rfl ?_
      obtain ⟨b7, hf⟩ := og hf
      refine j_iald (pc := 21) C d_Dr_meansTheSameAs_21 14 (inb_in b7) (x := x.2.1.1 14 x.1.toNatClampNeg) rfl rfl ?_
      refine j_aload_n (pc := 22) C d_Dr_meansTheSameAs_22 rfl 1 rfl ?_
      refine j_get (pc := 23) C d_Dr_meansTheSameAs_23 30 3 rfl rfl (v := .ref (bd 12)) rfl (by decide) tw277 ?_
      refine j_get (pc := 26) C d_Dr_meansTheSameAs_26 42 1 rfl rfl (v := .ref (bd 14)) rfl (by decide) tw177 ?_
      refine j_iload_n (pc := 29) C d_Dr_meansTheSameAs_29 rfl 2 rfl ?_
      obtain ⟨b8, hf⟩ := og hf
      refine j_iald (pc := 30) C d_Dr_meansTheSameAs_30 44 (inb_in b8) (x := x.2.2.1 14 x.1.toNatClampNeg) rfl rfl ?_
      refine j_icmp_eq (pc := 31) C d_Dr_meansTheSameAs_31 (tgt := 36) rfl (fun h9 => ?_) (fun h9 => ?_)
      · rw [if_pos h9] at hf
        refine j_iinc (pc := 36) C d_Dr_meansTheSameAs_36 2 rfl (v := x.1 + 1) (iv ci_1) [1, 2, 0] (by decide) (lc' := [(0, .ref (ad 0)), (1, .ref (bd 0)), (2, .int (x.1 + 1))]) rfl ?_
        refine j_goto (pc := 39) C d_Dr_meansTheSameAs_39 (tgt := 2) rfl ?_
        exact k2_ih (x.1 + 1, x.2.1, x.2.2) hf
      · rw [if_neg h9] at hf
        refine j_iconst (pc := 34) C d_Dr_meansTheSameAs_34 ck_0 ?_
        cases hf
        exact j_zret (pc := 35) C d_Dr_meansTheSameAs_35 rfl ⟨rfl, rfl⟩ (Nat.le_of_ble_eq_true rfl) (Nat.le_of_ble_eq_true rfl)
  unfold f_Dr_meansTheSameAs at hf
  change 𝒥 0 0 (wD g ad d.1 d.2 ++ wD g bd b.1 b.2) [(0, .ref (ad 0)), (1, .ref (bd 0))] [] 0
  refine j_iconst (pc := 0) C d_Dr_meansTheSameAs_0 ck_0 ?_
  refine j_istore_n (pc := 1) C d_Dr_meansTheSameAs_1 rfl [1, 2, 0] (by decide) (lc' := [(0, .ref (ad 0)), (1, .ref (bd 0)), (2, .int 0)]) rfl ?_
  exact L2 100000 (0, d, b) hf
abbrev rm_Dr_referencesOf : Room := { frames := 0, cells := 0, slots := 0, locals := 0 }
theorem cv_Dr_referencesOf : CV y_Dr_referencesOf b_Dr_referencesOf 4 (some .int) 1 := ⟨⟨tw792, tw3, by decide +kernel⟩, tw790, tw791⟩
set_option maxHeartbeats 4000000 in
set_option maxRecDepth 100000 in
theorem c_Dr_referencesOf {g : GT} {ad : Nat → Nat} {a1 : Int32} {d : DS} {q : Int32 × DS} (hf : f_Dr_referencesOf a1 d = some q) : MI g y_Dr_referencesOf b_Dr_referencesOf 4 (some .int) rm_Dr_referencesOf [.ref (ad 0), .int a1] (wD g ad d.1 d.2) q.1 (wD g ad q.2.1 q.2.2) := by
  refine MI.of (by decide) (Nat.le_of_ble_eq_true rfl) (fun 𝒥 C => ?_)
  have L4 : ∀ (n : Nat) (x : Int32 × Int32 × Int32 × DS), lpN (BDr_referencesOf_4) n x = some q → 𝒥 0 0 (wD g ad x.2.2.2.1 x.2.2.2.2) [(0, .ref (ad 0)), (1, .int x.1), (2, .int x.2.1), (3, .int x.2.2.1)] [] 4 := by
    refine lp_ind (fun k4 k4_ih x hf => ?_)
    unfold BDr_referencesOf_4 at hf
    refine j_iload_n (pc := 4) C d_Dr_referencesOf_4 rfl 3 rfl ?_
    refine j_aload_n (pc := 5) C d_Dr_referencesOf_5 rfl 0 rfl ?_
    refine j_get (pc := 6) C d_Dr_referencesOf_6 0 1 wD_o0 rfl (v := .ref (ad 3)) rfl (by decide) tw271 ?_
    refine j_get (pc := 9) C d_Dr_referencesOf_9 3 4 wD_o3 rfl (v := .int (x.2.2.2.2 4)) rfl (by decide) tw125 ?_
    refine j_icmp_ge (pc := 12) C d_Dr_referencesOf_12 (tgt := 37) rfl (fun h1 => ?_) (fun h1 => ?_)
    · rw [if_pos h1] at hf
      refine j_iload_n (pc := 37) C d_Dr_referencesOf_37 rfl 2 rfl ?_
      cases hf
      exact j_iret (pc := 38) C d_Dr_referencesOf_38 ⟨rfl, rfl⟩ (Nat.le_of_ble_eq_true rfl) (Nat.le_of_ble_eq_true rfl)
    · rw [if_neg h1] at hf
      refine j_aload_n (pc := 15) C d_Dr_referencesOf_15 rfl 0 rfl ?_
      refine j_get (pc := 16) C d_Dr_referencesOf_16 0 3 wD_o0 rfl (v := .ref (ad 12)) rfl (by decide) tw277 ?_
      refine j_get (pc := 19) C d_Dr_referencesOf_19 12 1 wD_o12 rfl (v := .ref (ad 14)) rfl (by decide) tw177 ?_
      refine j_iload_n (pc := 22) C d_Dr_referencesOf_22 rfl 3 rfl ?_
      obtain ⟨b2, hf⟩ := og hf
      refine j_iald (pc := 23) C d_Dr_referencesOf_23 14 (inb_in b2) (x := x.2.2.2.1 14 x.2.2.1.toNatClampNeg) wD_a14 rfl ?_
      refine j_iload_n (pc := 24) C d_Dr_referencesOf_24 rfl 1 rfl ?_
      refine j_icmp_ne (pc := 25) C d_Dr_referencesOf_25 (tgt := 31) rfl (fun h3 => ?_) (fun h3 => ?_)
      · rw [if_neg h3] at hf
        refine j_iinc (pc := 31) C d_Dr_referencesOf_31 3 rfl (v := x.2.2.1 + 1) (iv ci_1) [1, 2, 3, 0] (by decide) (lc' := [(0, .ref (ad 0)), (1, .int x.1), (2, .int x.2.1), (3, .int (x.2.2.1 + 1))]) rfl ?_
        refine j_goto (pc := 34) C d_Dr_referencesOf_34 (tgt := 4) rfl ?_
        exact k4_ih (x.1, x.2.1, x.2.2.1 + 1, x.2.2.2) hf
      · rw [if_pos h3] at hf
        refine j_iinc (pc := 28) C d_Dr_referencesOf_28 2 rfl (v := x.2.1 + 1) (iv ci_1) [1, 2, 0, 3] (by decide) (lc' := [(0, .ref (ad 0)), (1, .int x.1), (2, .int (x.2.1 + 1)), (3, .int x.2.2.1)]) rfl ?_
        refine j_iinc (pc := 31) C d_Dr_referencesOf_31 3 rfl (v := x.2.2.1 + 1) (iv ci_1) [1, 2, 3, 0] (by decide) (lc' := [(0, .ref (ad 0)), (1, .int x.1), (2, .int (x.2.1 + 1)), (3, .int (x.2.2.1 + 1))]) rfl ?_
        refine j_goto (pc := 34) C d_Dr_referencesOf_34 (tgt := 4) rfl ?_
        exact k4_ih (x.1, x.2.1 + 1, x.2.2.1 + 1, x.2.2.2) hf
  unfold f_Dr_referencesOf at hf
  change 𝒥 0 0 (wD g ad d.1 d.2) [(0, .ref (ad 0)), (1, .int a1)] [] 0
  refine j_iconst (pc := 0) C d_Dr_referencesOf_0 ck_0 ?_
  refine j_istore_n (pc := 1) C d_Dr_referencesOf_1 rfl [1, 2, 0] (by decide) (lc' := [(0, .ref (ad 0)), (1, .int a1), (2, .int 0)]) rfl ?_
  refine j_iconst (pc := 2) C d_Dr_referencesOf_2 ck_0 ?_
  refine j_istore_n (pc := 3) C d_Dr_referencesOf_3 rfl [1, 2, 3, 0] (by decide) (lc' := [(0, .ref (ad 0)), (1, .int a1), (2, .int 0), (3, .int 0)]) rfl ?_
  exact L4 100000 (a1, 0, 0, d) hf
abbrev rm_X_rename : Room := { frames := 41, cells := 1, slots := 6, locals := 1162 }
theorem cv_X_rename : CV y_X_rename b_X_rename 7 (some .int) 2 := ⟨⟨tw783, tw1, by decide +kernel⟩, tw781, tw782⟩
set_option maxHeartbeats 4000000 in
set_option maxRecDepth 100000 in
theorem c_X_rename {g : GT} {ax : Nat → Nat} {am : Nat → Nat} {ad : Nat → Nat} {bd : Nat → Nat} {a1 : Int32} {a2 : Int64} {k : DS} {d : DS} {b : DS} {q : Nat × Int32 × DS × DS × DS} (hf : f_X_rename a1 a2 k d b = some q) : MX g y_X_rename b_X_rename 7 (some .int) rm_X_rename [.ref (ax 0), .int a1, .long a2] (wX g ax am ad bd ++ (wM g am k.1 k.2 ++ (wD g ad d.1 d.2 ++ wD g bd b.1 b.2))) q.1 (some (.int q.2.1)) (swp q.1 (wX g ax am bd ad ++ (wM g am q.2.2.1.1 q.2.2.1.2 ++ (wD g bd q.2.2.2.1.1 q.2.2.2.1.2 ++ wD g ad q.2.2.2.2.1 q.2.2.2.2.2))) (wX g ax am ad bd ++ (wM g am q.2.2.1.1 q.2.2.1.2 ++ (wD g ad q.2.2.2.1.1 q.2.2.2.1.2 ++ wD g bd q.2.2.2.2.1 q.2.2.2.2.2)))) := by
  refine MX.of (by decide) (Nat.le_of_ble_eq_true rfl) (fun 𝒥 CX => ?_)
  have C := CX.K
  unfold f_X_rename at hf
  change 𝒥 0 0 (wX g ax am ad bd ++ (wM g am k.1 k.2 ++ (wD g ad d.1 d.2 ++ wD g bd b.1 b.2))) [(0, .ref (ax 0)), (1, .int a1), (2, .long a2)] [] 0
  refine j_lload_n (pc := 0) C d_X_rename_0 rfl 2 rfl ?_
  obtain ⟨q1, eq1, hf⟩ := ob hf
  refine j_callSi (pc := 1) C (rest := []) d_X_rename_1 (c_X_isName (g := g)  eq1) cv_X_isName tw784 cut_none rfl rfl (Nat.le_of_ble_eq_true rfl) (kc2 := 0) (ks2 := 0) (by decide) ?_
  refine j_if_ne (pc := 4) C d_X_rename_4 (tgt := 15) rfl (fun h2 => ?_) (fun h2 => ?_)
  · rw [if_neg h2] at hf
    refine j_aload_n (pc := 15) C d_X_rename_15 rfl 0 rfl ?_
    refine j_get (pc := 16) C d_X_rename_16 0 1 rfl rfl (v := .ref (ad 0)) rfl (by decide) tw318 ?_
    obtain ⟨q3, eq3, hf⟩ := ob hf
    refine j_callVv (pc := 19) C (rest := []) d_X_rename_19 (c_Dr_refresh (g := g) (ad := ad) eq3) cv_Dr_refresh tw360 6 rfl rfl (cut_blk [wX g ax am ad bd, wM g am k.1 k.2, wD g ad d.1 d.2, wD g bd b.1 b.2] [wX g ax am ad bd, wM g am k.1 k.2, wD g ad q3.1 q3.2, wD g bd b.1 b.2] [0, 1, 3] [2] rfl rfl rfl rfl rfl rfl rfl) rfl rfl (Nat.le_of_ble_eq_true rfl) (kc2 := 0) (ks2 := 0) (by decide) ?_
    refine j_aload_n (pc := 22) C d_X_rename_22 rfl 0 rfl ?_
    refine j_get (pc := 23) C d_X_rename_23 0 1 rfl rfl (v := .ref (ad 0)) rfl (by decide) tw318 ?_
    refine j_get (pc := 26) C d_X_rename_26 6 10 rfl rfl (v := .int (q3.2 1)) rfl (by decide) tw289 ?_
    refine j_if_le (pc := 29) C d_X_rename_29 (tgt := 40) rfl (fun h4 => ?_) (fun h4 => ?_)
    · rw [if_pos h4] at hf
      refine j_aload_n (pc := 40) C d_X_rename_40 rfl 0 rfl ?_
      refine j_get (pc := 41) C d_X_rename_41 0 1 rfl rfl (v := .ref (ad 0)) rfl (by decide) tw318 ?_
      refine j_iload_n (pc := 44) C d_X_rename_44 rfl 1 rfl ?_
      obtain ⟨q5, eq5, hf⟩ := ob hf
      refine j_callVi (pc := 45) C (rest := []) d_X_rename_45 (c_Dr_declarationAt (g := g) (ad := ad) eq5) cv_Dr_declarationAt tw768 6 rfl rfl (cut_blk [wX g ax am ad bd, wM g am k.1 k.2, wD g ad q3.1 q3.2, wD g bd b.1 b.2] [wX g ax am ad bd, wM g am k.1 k.2, wD g ad q5.2.1 q5.2.2, wD g bd b.1 b.2] [0, 1, 3] [2] rfl rfl rfl rfl rfl rfl rfl) rfl rfl (Nat.le_of_ble_eq_true rfl) (kc2 := 0) (ks2 := 0) (by decide) ?_
      refine j_istore (pc := 48) C d_X_rename_48 [1, 2, 3, 0] (by decide) (lc' := [(0, .ref (ax 0)), (1, .int a1), (2, .long a2), (4, .int q5.1)]) rfl ?_
      refine j_iload (pc := 50) C d_X_rename_50 3 rfl ?_
      refine j_iconst (pc := 52) C d_X_rename_52 ck_m1 ?_
      refine j_icmp_ne (pc := 53) C d_X_rename_53 (tgt := 64) rfl (fun h6 => ?_) (fun h6 => ?_)
      · rw [if_neg h6] at hf
        refine j_aload_n (pc := 64) C d_X_rename_64 rfl 0 rfl ?_
        refine j_get (pc := 65) C d_X_rename_65 0 1 rfl rfl (v := .ref (ad 0)) rfl (by decide) tw318 ?_
        refine j_iload (pc := 68) C d_X_rename_68 3 rfl ?_
        obtain ⟨q7, eq7, hf⟩ := ob hf
        refine j_callVi (pc := 70) C (rest := []) d_X_rename_70 (c_Dr_referencesOf (g := g) (ad := ad) eq7) cv_Dr_referencesOf tw789 6 rfl rfl (cut_blk [wX g ax am ad bd, wM g am k.1 k.2, wD g ad q5.2.1 q5.2.2, wD g bd b.1 b.2] [wX g ax am ad bd, wM g am k.1 k.2, wD g ad q7.2.1 q7.2.2, wD g bd b.1 b.2] [0, 1, 3] [2] rfl rfl rfl rfl rfl rfl rfl) rfl rfl (Nat.le_of_ble_eq_true rfl) (kc2 := 0) (ks2 := 0) (by decide) ?_
        refine j_istore (pc := 73) C d_X_rename_73 [1, 2, 3, 4, 0] (by decide) (lc' := [(0, .ref (ax 0)), (1, .int a1), (2, .long a2), (4, .int q5.1), (5, .int q7.1)]) rfl ?_
        refine j_lload_n (pc := 75) C d_X_rename_75 rfl 2 rfl ?_
        refine j_l2i (pc := 76) C d_X_rename_76 rfl ?_
        obtain ⟨q8, eq8, hf⟩ := ob hf
        refine j_callSi (pc := 77) C (rest := []) d_X_rename_77 (c_X_lettersIn (g := g)  eq8) cv_X_lettersIn tw344 cut_none rfl rfl (Nat.le_of_ble_eq_true rfl) (kc2 := 0) (ks2 := 0) (by decide) ?_
        refine j_aload_n (pc := 80) C d_X_rename_80 rfl 0 rfl ?_
        refine j_get (pc := 81) C d_X_rename_81 0 1 rfl rfl (v := .ref (ad 0)) rfl (by decide) tw318 ?_
        refine j_get (pc := 84) C d_X_rename_84 6 1 rfl rfl (v := .ref (ad 3)) rfl (by decide) tw273 ?_
        refine j_get (pc := 87) C d_X_rename_87 9 1 rfl rfl (v := .ref (ad 5)) rfl (by decide) tw116 ?_
        refine j_iload (pc := 90) C d_X_rename_90 3 rfl ?_
        obtain ⟨b9, hf⟩ := og hf
        refine j_iald (pc := 92) C d_X_rename_92 11 (inb_in b9) (x := q7.2.1 5 q5.1.toNatClampNeg) rfl rfl ?_
        obtain ⟨q10, eq10, hf⟩ := ob hf
        refine j_callSi (pc := 93) C (rest := [.int q8]) d_X_rename_93 (c_X_lettersIn (g := g)  eq10) cv_X_lettersIn tw344 cut_none rfl rfl (Nat.le_of_ble_eq_true rfl) (kc2 := 0) (ks2 := 0) (by decide) ?_
        refine j_isub (pc := 96) C d_X_rename_96 ?_
        refine j_istore (pc := 97) C d_X_rename_97 [1, 2, 3, 4, 5, 0] (by decide) (lc' := [(0, .ref (ax 0)), (1, .int a1), (2, .long a2), (4, .int q5.1), (5, .int q7.1), (6, .int (q8 - q10))]) rfl ?_
        refine j_aload_n (pc := 99) C d_X_rename_99 rfl 0 rfl ?_
        refine j_get (pc := 100) C d_X_rename_100 0 1 rfl rfl (v := .ref (ad 0)) rfl (by decide) tw318 ?_
        refine j_get (pc := 103) C d_X_rename_103 6 0 rfl rfl (v := .ref (ad 1)) rfl (by decide) tw270 ?_
        refine j_get (pc := 106) C d_X_rename_106 7 1 rfl rfl (v := .int (q7.2.2 3)) rfl (by decide) tw94 ?_
        refine j_iload (pc := 109) C d_X_rename_109 4 rfl ?_
        refine j_iload (pc := 111) C d_X_rename_111 5 rfl ?_
        refine j_imul (pc := 113) C d_X_rename_113 ?_
        refine j_iadd (pc := 114) C d_X_rename_114 ?_
        refine j_sipush (pc := 115) C d_X_rename_115 cs_240 ?_
        refine j_icmp_le (pc := 118) C d_X_rename_118 (tgt := 129) rfl (fun h11 => ?_) (fun h11 => ?_)
        · rw [if_pos h11] at hf
          refine j_aload_n (pc := 129) C d_X_rename_129 rfl 0 rfl ?_
          refine j_get (pc := 130) C d_X_rename_130 0 2 rfl rfl (v := .ref (bd 0)) rfl (by decide) tw319 ?_
          refine j_aload_n (pc := 133) C d_X_rename_133 rfl 0 rfl ?_
          refine j_get (pc := 134) C d_X_rename_134 0 1 rfl rfl (v := .ref (ad 0)) rfl (by decide) tw318 ?_
          refine j_iload (pc := 137) C d_X_rename_137 3 rfl ?_
          refine j_lload_n (pc := 139) C d_X_rename_139 rfl 2 rfl ?_
          refine j_l2i (pc := 140) C d_X_rename_140 rfl ?_
          obtain ⟨q12, eq12, hf⟩ := ob hf
          refine j_callVv (pc := 141) C (rest := []) d_X_rename_141 (c_Dr_copyRenamed (g := g) (ad := bd) (bd := ad) eq12) cv_Dr_copyRenamed tw793 36 rfl rfl (cut_blk [wX g ax am ad bd, wM g am k.1 k.2, wD g ad q7.2.1 q7.2.2, wD g bd b.1 b.2] [wX g ax am ad bd, wM g am k.1 k.2, wD g ad q12.2.1 q12.2.2, wD g bd q12.1.1 q12.1.2] [0, 1] [3, 2] rfl rfl rfl rfl rfl rfl rfl) rfl rfl (Nat.le_of_ble_eq_true rfl) (kc2 := 0) (ks2 := 0) (by decide) ?_
          refine j_aload_n (pc := 144) C d_X_rename_144 rfl 0 rfl ?_
          refine j_get (pc := 145) C d_X_rename_145 0 2 rfl rfl (v := .ref (bd 0)) rfl (by decide) tw319 ?_
          obtain ⟨q13, eq13, hf⟩ := ob hf
          refine j_callVv (pc := 148) C (rest := []) d_X_rename_148 (c_Dr_refresh (g := g) (ad := bd) eq13) cv_Dr_refresh tw360 36 rfl rfl (cut_blk [wX g ax am ad bd, wM g am k.1 k.2, wD g ad q12.2.1 q12.2.2, wD g bd q12.1.1 q12.1.2] [wX g ax am ad bd, wM g am k.1 k.2, wD g ad q12.2.1 q12.2.2, wD g bd q13.1 q13.2] [0, 1, 2] [3] rfl rfl rfl rfl rfl rfl rfl) rfl rfl (Nat.le_of_ble_eq_true rfl) (kc2 := 0) (ks2 := 0) (by decide) ?_
          refine j_aload_n (pc := 151) C d_X_rename_151 rfl 0 rfl ?_
          refine j_get (pc := 152) C d_X_rename_152 0 2 rfl rfl (v := .ref (bd 0)) rfl (by decide) tw319 ?_
          refine j_get (pc := 155) C d_X_rename_155 36 10 rfl rfl (v := .int (q13.2 1)) rfl (by decide) tw289 ?_
          refine j_if_gt (pc := 158) C d_X_rename_158 (tgt := 175) rfl (fun h14 => ?_) (fun h14 => ?_)
          · rw [if_pos h14] at hf
            cases hf
            exact j_throw (pc := 175) CX xt_5 d_X_rename_175 d_X_rename_178 d_X_rename_179 d_X_rename_182 ⟨by decide, rfl, rfl⟩ (by decide)
          · rw [if_neg h14] at hf
            refine j_aload_n (pc := 161) C d_X_rename_161 rfl 0 rfl ?_
            refine j_get (pc := 162) C d_X_rename_162 0 2 rfl rfl (v := .ref (bd 0)) rfl (by decide) tw319 ?_
            refine j_aload_n (pc := 165) C d_X_rename_165 rfl 0 rfl ?_
            refine j_get (pc := 166) C d_X_rename_166 0 1 rfl rfl (v := .ref (ad 0)) rfl (by decide) tw318 ?_
            obtain ⟨q15, eq15, hf⟩ := ob hf
            refine j_callVi (pc := 169) C (rest := []) d_X_rename_169 (c_Dr_meansTheSameAs (g := g) (ad := bd) (bd := ad) eq15) cv_Dr_meansTheSameAs tw802 36 rfl rfl (cut_blk [wX g ax am ad bd, wM g am k.1 k.2, wD g ad q12.2.1 q12.2.2, wD g bd q13.1 q13.2] [wX g ax am ad bd, wM g am k.1 k.2, wD g ad q15.2.2.1 q15.2.2.2, wD g bd q15.2.1.1 q15.2.1.2] [0, 1] [3, 2] rfl rfl rfl rfl rfl rfl rfl) rfl rfl (Nat.le_of_ble_eq_true rfl) (kc2 := 0) (ks2 := 0) (by decide) ?_
            refine j_if_ne (pc := 172) C d_X_rename_172 (tgt := 183) rfl (fun h16 => ?_) (fun h16 => ?_)
            · rw [if_neg h16] at hf
              refine j_aload_n (pc := 183) C d_X_rename_183 rfl 0 rfl ?_
              refine j_callVv (pc := 184) C (rest := []) (ws' := catb [wX g ax am bd ad, wM g am k.1 k.2, wD g ad q15.2.2.1 q15.2.2.2, wD g bd q15.2.1.1 q15.2.1.2]) d_X_rename_184 c_X_acceptTrial cv_X_acceptTrial tw823 0 rfl rfl (cut_blk [wX g ax am ad bd, wM g am k.1 k.2, wD g ad q15.2.2.1 q15.2.2.2, wD g bd q15.2.1.1 q15.2.1.2] [wX g ax am bd ad, wM g am k.1 k.2, wD g ad q15.2.2.1 q15.2.2.2, wD g bd q15.2.1.1 q15.2.1.2] [1, 2, 3] [0] rfl rfl rfl rfl rfl rfl rfl) rfl rfl (Nat.le_of_ble_eq_true rfl) (kc2 := 0) (ks2 := 0) (by decide) ?_
              refine j_perm C (ws' := wX g ax am bd ad ++ (wM g am k.1 k.2 ++ (wD g bd q15.2.1.1 q15.2.1.2 ++ wD g ad q15.2.2.1 q15.2.2.2))) (blk_swap rfl rfl) ?_
              refine j_iload (pc := 187) C d_X_rename_187 4 rfl ?_
              cases hf
              exact j_iret (pc := 189) C d_X_rename_189 ⟨rfl, rfl, rfl⟩ (Nat.le_of_ble_eq_true rfl) (Nat.le_of_ble_eq_true rfl)
            · rw [if_pos h16] at hf
              cases hf
              exact j_throw (pc := 175) CX xt_5 d_X_rename_175 d_X_rename_178 d_X_rename_179 d_X_rename_182 ⟨by decide, rfl, rfl⟩ (by decide)
        · rw [if_neg h11] at hf
          cases hf
          exact j_throw (pc := 121) CX xt_3 d_X_rename_121 d_X_rename_124 d_X_rename_125 d_X_rename_128 ⟨by decide, rfl, rfl⟩ (by decide)
      · rw [if_pos h6] at hf
        cases hf
        exact j_throw (pc := 56) CX xt_4 d_X_rename_56 d_X_rename_59 d_X_rename_60 d_X_rename_63 ⟨by decide, rfl, rfl⟩ (by decide)
    · rw [if_neg h4] at hf
      cases hf
      exact j_throw (pc := 32) CX xt_3 d_X_rename_32 d_X_rename_35 d_X_rename_36 d_X_rename_39 ⟨by decide, rfl, rfl⟩ (by decide)
  · rw [if_pos h2] at hf
    cases hf
    exact j_throw (pc := 7) CX xt_1 d_X_rename_7 d_X_rename_10 d_X_rename_11 d_X_rename_14 ⟨by decide, rfl, rfl⟩ (by decide)
abbrev rm_Na_firstOfExpression : Room := { frames := 0, cells := 0, slots := 0, locals := 0 }
theorem cv_Na_firstOfExpression : CV y_Na_firstOfExpression b_Na_firstOfExpression 2 (some .int) 1 := ⟨⟨tw841, tw7, by decide +kernel⟩, tw839, tw840⟩
set_option maxHeartbeats 4000000 in
set_option maxRecDepth 100000 in
theorem c_Na_firstOfExpression {g : GT} {ad : Nat → Nat} {a1 : Int32} {d : DS} {q : Int32 × DS} (hf : f_Na_firstOfExpression a1 d = some q) : MI g y_Na_firstOfExpression b_Na_firstOfExpression 2 (some .int) rm_Na_firstOfExpression [.ref (ad 12), .int a1] (wD g ad d.1 d.2) q.1 (wD g ad q.2.1 q.2.2) := by
  refine MI.of (by decide) (Nat.le_of_ble_eq_true rfl) (fun 𝒥 C => ?_)
  unfold f_Na_firstOfExpression at hf
  change 𝒥 0 0 (wD g ad d.1 d.2) [(0, .ref (ad 12)), (1, .int a1)] [] 0
  refine j_iload_n (pc := 0) C d_Na_firstOfExpression_0 rfl 1 rfl ?_
  refine j_iconst (pc := 1) C d_Na_firstOfExpression_1 ck_2 ?_
  refine j_iadd (pc := 2) C d_Na_firstOfExpression_2 ?_
  cases hf
  exact j_iret (pc := 3) C d_Na_firstOfExpression_3 ⟨rfl, rfl⟩ (Nat.le_of_ble_eq_true rfl) (Nat.le_of_ble_eq_true rfl)
abbrev rm_Na_semicolonOf : Room := { frames := 0, cells := 0, slots := 0, locals := 0 }
theorem cv_Na_semicolonOf : CV y_Na_semicolonOf b_Na_semicolonOf 2 (some .int) 1 := ⟨⟨tw845, tw7, by decide +kernel⟩, tw843, tw844⟩
set_option maxHeartbeats 4000000 in
set_option maxRecDepth 100000 in
theorem c_Na_semicolonOf {g : GT} {ad : Nat → Nat} {a1 : Int32} {d : DS} {q : Int32 × DS} (hf : f_Na_semicolonOf a1 d = some q) : MI g y_Na_semicolonOf b_Na_semicolonOf 2 (some .int) rm_Na_semicolonOf [.ref (ad 12), .int a1] (wD g ad d.1 d.2) q.1 (wD g ad q.2.1 q.2.2) := by
  refine MI.of (by decide) (Nat.le_of_ble_eq_true rfl) (fun 𝒥 C => ?_)
  unfold f_Na_semicolonOf at hf
  change 𝒥 0 0 (wD g ad d.1 d.2) [(0, .ref (ad 12)), (1, .int a1)] [] 0
  refine j_aload_n (pc := 0) C d_Na_semicolonOf_0 rfl 0 rfl ?_
  refine j_get (pc := 1) C d_Na_semicolonOf_1 12 4 wD_o12 rfl (v := .ref (ad 17)) rfl (by decide) tw183 ?_
  refine j_iload_n (pc := 4) C d_Na_semicolonOf_4 rfl 1 rfl ?_
  obtain ⟨b1, hf⟩ := og hf
  refine j_iald (pc := 5) C d_Na_semicolonOf_5 17 (inb_in b1) (x := d.1 17 a1.toNatClampNeg) wD_a17 rfl ?_
  refine j_iconst (pc := 6) C d_Na_semicolonOf_6 ck_1 ?_
  refine j_isub (pc := 7) C d_Na_semicolonOf_7 ?_
  cases hf
  exact j_iret (pc := 8) C d_Na_semicolonOf_8 ⟨rfl, rfl⟩ (Nat.le_of_ble_eq_true rfl) (Nat.le_of_ble_eq_true rfl)
abbrev rm_Dr_copyInlined : Room := { frames := 2, cells := 0, slots := 0, locals := 45 }
theorem cv_Dr_copyInlined : CV y_Dr_copyInlined b_Dr_copyInlined 8 none 2 := ⟨⟨tw871, tw3, by decide +kernel⟩, tw869, tw870⟩
set_option maxHeartbeats 4000000 in
set_option maxRecDepth 100000 in
theorem c_Dr_copyInlined {g : GT} {ad : Nat → Nat} {bd : Nat → Nat} {a2 : Int32} {d : DS} {b : DS} {q : DS × DS} (hf : f_Dr_copyInlined a2 d b = some q) : MV g y_Dr_copyInlined b_Dr_copyInlined 8 none rm_Dr_copyInlined [.ref (ad 0), .ref (bd 0), .int a2] (wD g ad d.1 d.2 ++ wD g bd b.1 b.2) (wD g ad q.1.1 q.1.2 ++ wD g bd q.2.1 q.2.2) := by
  refine MV.of (by decide) (Nat.le_of_ble_eq_true rfl) (fun 𝒥 C => ?_)
  have L90 : ∀ (n : Nat) (x : Int32 × Int32 × Int32 × Int32 × Int32 × Int32 × DS × DS), lpN (BDr_copyInlined_90) n x = some q → 𝒥 0 0 (wD g ad x.2.2.2.2.2.2.1.1 x.2.2.2.2.2.2.1.2 ++ wD g bd x.2.2.2.2.2.2.2.1 x.2.2.2.2.2.2.2.2) [(0, .ref (ad 0)), (1, .ref (bd 0)), (2, .int x.1), (3, .int x.2.1), (4, .int x.2.2.1), (5, .int x.2.2.2.1), (6, .int x.2.2.2.2.1), (7, .int x.2.2.2.2.2.1)] [] 90 := by
    refine lp_ind (fun k90 k90_ih x hf => ?_)
    unfold BDr_copyInlined_90 at hf
    refine j_iload (pc := 90) C d_Dr_copyInlined_90 7 rfl ?_
    refine j_aload_n (pc := 92) C d_Dr_copyInlined_92 rfl 1 rfl ?_
    refine j_get (pc := 93) C d_Dr_copyInlined_93 30 1 rfl rfl (v := .ref (bd 3)) rfl (by decide) tw271 ?_
    refine j_get (pc := 96) C d_Dr_copyInlined_96 33 4 rfl rfl (v := .int (x.2.2.2.2.2.2.2.2 4)) rfl (by decide) tw125 ?_
    refine j_icmp_ge (pc := 99) C d_Dr_copyInlined_99 (tgt := 190) rfl (fun h8 => ?_) (fun h8 => ?_)
    · rw [if_pos h8] at hf
      refine j_aload_n (pc := 190) C d_Dr_copyInlined_190 rfl 0 rfl ?_
      refine j_get (pc := 191) C d_Dr_copyInlined_191 0 0 rfl rfl (v := .ref (ad 1)) rfl (by decide) tw269 ?_
      refine j_aload_n (pc := 194) C d_Dr_copyInlined_194 rfl 1 rfl ?_
      refine j_get (pc := 195) C d_Dr_copyInlined_195 30 0 rfl rfl (v := .ref (bd 1)) rfl (by decide) tw269 ?_
      refine j_iload (pc := 198) C d_Dr_copyInlined_198 6 rfl ?_
      refine j_aload_n (pc := 200) C d_Dr_copyInlined_200 rfl 1 rfl ?_
      refine j_get (pc := 201) C d_Dr_copyInlined_201 30 0 rfl rfl (v := .ref (bd 1)) rfl (by decide) tw269 ?_
      refine j_get (pc := 204) C d_Dr_copyInlined_204 31 1 rfl rfl (v := .int (x.2.2.2.2.2.2.2.2 3)) rfl (by decide) tw95 ?_
      obtain ⟨q9, eq9, hf⟩ := ob hf
      refine j_callVv (pc := 207) C (rest := []) d_Dr_copyInlined_207 (c_Te_addPiece (g := g) (ad := ad) (bd := bd) eq9) cv_Te_addPiece tw797 1 rfl rfl cut_same rfl rfl (Nat.le_of_ble_eq_true rfl) (kc2 := 0) (ks2 := 0) (by decide) ?_
      cases hf
      exact j_vret (pc := 210) C d_Dr_copyInlined_210 ⟨rfl, rfl⟩ (Nat.le_of_ble_eq_true rfl) (Nat.le_of_ble_eq_true rfl)
    · rw [if_neg h8] at hf
      refine j_aload_n (pc := 102) C d_Dr_copyInlined_102 rfl 1 rfl ?_
      refine j_get (pc := 103) C d_Dr_copyInlined_103 30 3 rfl rfl (v := .ref (bd 12)) rfl (by decide) tw277 ?_
      refine j_get (pc := 106) C d_Dr_copyInlined_106 42 1 rfl rfl (v := .ref (bd 14)) rfl (by decide) tw177 ?_
      refine j_iload (pc := 109) C d_Dr_copyInlined_109 7 rfl ?_
      obtain ⟨b10, hf⟩ := og hf
      refine j_iald (pc := 111) C d_Dr_copyInlined_111 44 (inb_in b10) (x := x.2.2.2.2.2.2.2.1 14 x.2.2.2.2.2.1.toNatClampNeg) rfl rfl ?_
      refine j_topi C (fun v11 ev11 => ?_)
      replace hf := ov ev11 hf
      refine j_iload_n (pc := 112) C d_Dr_copyInlined_112 rfl 2 rfl ?_
      refine j_icmp_ne (pc := 113) C d_Dr_copyInlined_113 (tgt := 184) rfl (fun h12 => ?_) (fun h12 => ?_)
      · rw [if_neg h12] at hf
        refine j_iinc (pc := 184) C d_Dr_copyInlined_184 7 rfl (v := x.2.2.2.2.2.1 + 1) (iv ci_1) [1, 2, 3, 4, 5, 6, 7, 0] (by decide) (lc' := [(0, .ref (ad 0)), (1, .ref (bd 0)), (2, .int x.1), (3, .int x.2.1), (4, .int x.2.2.1), (5, .int x.2.2.2.1), (6, .int x.2.2.2.2.1), (7, .int (x.2.2.2.2.2.1 + 1))]) rfl ?_
        refine j_goto (pc := 187) C d_Dr_copyInlined_187 (tgt := 90) rfl ?_
        exact k90_ih (x.1, x.2.1, x.2.2.1, x.2.2.2.1, x.2.2.2.2.1, x.2.2.2.2.2.1 + 1, x.2.2.2.2.2.2.1, x.2.2.2.2.2.2.2) hf
      · rw [if_pos h12] at hf
        refine j_aload_n (pc := 116) C d_Dr_copyInlined_116 rfl 0 rfl ?_
        refine j_get (pc := 117) C d_Dr_copyInlined_117 0 0 rfl rfl (v := .ref (ad 1)) rfl (by decide) tw269 ?_
        refine j_aload_n (pc := 120) C d_Dr_copyInlined_120 rfl 1 rfl ?_
        refine j_get (pc := 121) C d_Dr_copyInlined_121 30 0 rfl rfl (v := .ref (bd 1)) rfl (by decide) tw269 ?_
        refine j_iload (pc := 124) C d_Dr_copyInlined_124 6 rfl ?_
        refine j_aload_n (pc := 126) C d_Dr_copyInlined_126 rfl 1 rfl ?_
        refine j_get (pc := 127) C d_Dr_copyInlined_127 30 1 rfl rfl (v := .ref (bd 3)) rfl (by decide) tw271 ?_
        refine j_get (pc := 130) C d_Dr_copyInlined_130 33 2 rfl rfl (v := .ref (bd 6)) rfl (by decide) tw118 ?_
        refine j_iload (pc := 133) C d_Dr_copyInlined_133 7 rfl ?_
        obtain ⟨b13, hf⟩ := og hf
        refine j_iald (pc := 135) C d_Dr_copyInlined_135 36 (inb_in b13) (x := x.2.2.2.2.2.2.2.1 6 x.2.2.2.2.2.1.toNatClampNeg) rfl rfl ?_
        refine j_topi C (fun v14 ev14 => ?_)
        replace hf := ov ev14 hf
        obtain ⟨q15, eq15, hf⟩ := ob hf
        refine j_callVv (pc := 136) C (rest := []) d_Dr_copyInlined_136 (c_Te_addPiece (g := g) (ad := ad) (bd := bd) eq15) cv_Te_addPiece tw797 1 rfl rfl cut_same rfl rfl (Nat.le_of_ble_eq_true rfl) (kc2 := 0) (ks2 := 0) (by decide) ?_
        refine j_aload_n (pc := 139) C d_Dr_copyInlined_139 rfl 0 rfl ?_
        refine j_get (pc := 140) C d_Dr_copyInlined_140 0 0 rfl rfl (v := .ref (ad 1)) rfl (by decide) tw269 ?_
        refine j_bipush (pc := 143) C d_Dr_copyInlined_143 cb_40 ?_
        obtain ⟨q16, eq16, hf⟩ := ob hf
        refine j_callVv (pc := 145) C (rest := []) d_Dr_copyInlined_145 (c_Te_add (g := g) (ad := ad) eq16) cv_Te_add tw872 1 rfl rfl (cut_blk [wD g ad q15.1.1 q15.1.2, wD g bd q15.2.1 q15.2.2] [wD g ad q16.1 q16.2, wD g bd q15.2.1 q15.2.2] [1] [0] rfl rfl rfl rfl rfl rfl rfl) rfl rfl (Nat.le_of_ble_eq_true rfl) (kc2 := 0) (ks2 := 0) (by decide) ?_
        refine j_aload_n (pc := 148) C d_Dr_copyInlined_148 rfl 0 rfl ?_
        refine j_get (pc := 149) C d_Dr_copyInlined_149 0 0 rfl rfl (v := .ref (ad 1)) rfl (by decide) tw269 ?_
        refine j_aload_n (pc := 152) C d_Dr_copyInlined_152 rfl 1 rfl ?_
        refine j_get (pc := 153) C d_Dr_copyInlined_153 30 0 rfl rfl (v := .ref (bd 1)) rfl (by decide) tw269 ?_
        refine j_iload (pc := 156) C d_Dr_copyInlined_156 4 rfl ?_
        refine j_iload (pc := 158) C d_Dr_copyInlined_158 5 rfl ?_
        obtain ⟨q17, eq17, hf⟩ := ob hf
        refine j_callVv (pc := 160) C (rest := []) d_Dr_copyInlined_160 (c_Te_addPiece (g := g) (ad := ad) (bd := bd) eq17) cv_Te_addPiece tw797 1 rfl rfl cut_same rfl rfl (Nat.le_of_ble_eq_true rfl) (kc2 := 0) (ks2 := 0) (by decide) ?_
        refine j_aload_n (pc := 163) C d_Dr_copyInlined_163 rfl 0 rfl ?_
        refine j_get (pc := 164) C d_Dr_copyInlined_164 0 0 rfl rfl (v := .ref (ad 1)) rfl (by decide) tw269 ?_
        refine j_bipush (pc := 167) C d_Dr_copyInlined_167 cb_41 ?_
        obtain ⟨q18, eq18, hf⟩ := ob hf
        refine j_callVv (pc := 169) C (rest := []) d_Dr_copyInlined_169 (c_Te_add (g := g) (ad := ad) eq18) cv_Te_add tw872 1 rfl rfl (cut_blk [wD g ad q17.1.1 q17.1.2, wD g bd q17.2.1 q17.2.2] [wD g ad q18.1 q18.2, wD g bd q17.2.1 q17.2.2] [1] [0] rfl rfl rfl rfl rfl rfl rfl) rfl rfl (Nat.le_of_ble_eq_true rfl) (kc2 := 0) (ks2 := 0) (by decide) ?_
        refine j_aload_n (pc := 172) C d_Dr_copyInlined_172 rfl 1 rfl ?_
        refine j_get (pc := 173) C d_Dr_copyInlined_173 30 1 rfl rfl (v := .ref (bd 3)) rfl (by decide) tw271 ?_
        refine j_get (pc := 176) C d_Dr_copyInlined_176 33 3 rfl rfl (v := .ref (bd 7)) rfl (by decide) tw121 ?_
        refine j_iload (pc := 179) C d_Dr_copyInlined_179 7 rfl ?_
        obtain ⟨b19, hf⟩ := og hf
        refine j_iald (pc := 181) C d_Dr_copyInlined_181 37 (inb_in b19) (x := q17.2.1 7 x.2.2.2.2.2.1.toNatClampNeg) rfl rfl ?_
        refine j_istore (pc := 182) C d_Dr_copyInlined_182 [1, 2, 3, 4, 5, 6, 0, 7] (by decide) (lc' := [(0, .ref (ad 0)), (1, .ref (bd 0)), (2, .int x.1), (3, .int x.2.1), (4, .int x.2.2.1), (5, .int x.2.2.2.1), (6, .int (q17.2.1 7 x.2.2.2.2.2.1.toNatClampNeg)), (7, .int x.2.2.2.2.2.1)]) rfl ?_
        refine j_iinc (pc := 184) C d_Dr_copyInlined_184 7 rfl (v := x.2.2.2.2.2.1 + 1) (iv ci_1) [1, 2, 3, 4, 5, 6, 7, 0] (by decide) (lc' := [(0, .ref (ad 0)), (1, .ref (bd 0)), (2, .int x.1), (3, .int x.2.1), (4, .int x.2.2.1), (5, .int x.2.2.2.1), (6, .int (q17.2.1 7 x.2.2.2.2.2.1.toNatClampNeg)), (7, .int (x.2.2.2.2.2.1 + 1))]) rfl ?_
        refine j_goto (pc := 187) C d_Dr_copyInlined_187 (tgt := 90) rfl ?_
        exact k90_ih (x.1, x.2.1, x.2.2.1, x.2.2.2.1, q17.2.1 7 x.2.2.2.2.2.1.toNatClampNeg, x.2.2.2.2.2.1 + 1, q18, q17.2) hf
  unfold f_Dr_copyInlined at hf
  change 𝒥 0 0 (wD g ad d.1 d.2 ++ wD g bd b.1 b.2) [(0, .ref (ad 0)), (1, .ref (bd 0)), (2, .int a2)] [] 0
  refine j_aload_n (pc := 0) C d_Dr_copyInlined_0 rfl 0 rfl ?_
  refine j_iconst (pc := 1) C d_Dr_copyInlined_1 ck_0 ?_
  refine j_put (pc := 2) C d_Dr_copyInlined_2 0 11 rfl rfl (by decide) tw290 pd_Z rfl rfl rfl (Nat.le_of_ble_eq_true rfl) (ws' := wD g ad d.1 (va_up d.2 2 0) ++ wD g bd b.1 b.2) rfl ?_
  refine j_aload_n (pc := 5) C d_Dr_copyInlined_5 rfl 1 rfl ?_
  refine j_get (pc := 6) C d_Dr_copyInlined_6 30 3 rfl rfl (v := .ref (bd 12)) rfl (by decide) tw277 ?_
  refine j_iload_n (pc := 9) C d_Dr_copyInlined_9 rfl 2 rfl ?_
  obtain ⟨q1, eq1, hf⟩ := ob hf
  refine j_callVi (pc := 10) C (rest := []) d_Dr_copyInlined_10 (c_Na_semicolonOf (g := g) (ad := bd) eq1) cv_Na_semicolonOf tw866 42 rfl rfl (cut_blk [wD g ad d.1 (va_up d.2 2 0), wD g bd b.1 b.2] [wD g ad d.1 (va_up d.2 2 0), wD g bd q1.2.1 q1.2.2] [0] [1] rfl rfl rfl rfl rfl rfl rfl) rfl rfl (Nat.le_of_ble_eq_true rfl) (kc2 := 0) (ks2 := 0) (by decide) ?_
  refine j_istore_n (pc := 13) C d_Dr_copyInlined_13 rfl [1, 2, 3, 0] (by decide) (lc' := [(0, .ref (ad 0)), (1, .ref (bd 0)), (2, .int a2), (3, .int q1.1)]) rfl ?_
  refine j_aload_n (pc := 14) C d_Dr_copyInlined_14 rfl 1 rfl ?_
  refine j_get (pc := 15) C d_Dr_copyInlined_15 30 1 rfl rfl (v := .ref (bd 3)) rfl (by decide) tw271 ?_
  refine j_get (pc := 18) C d_Dr_copyInlined_18 33 2 rfl rfl (v := .ref (bd 6)) rfl (by decide) tw118 ?_
  refine j_aload_n (pc := 21) C d_Dr_copyInlined_21 rfl 1 rfl ?_
  refine j_get (pc := 22) C d_Dr_copyInlined_22 30 3 rfl rfl (v := .ref (bd 12)) rfl (by decide) tw277 ?_
  refine j_iload_n (pc := 25) C d_Dr_copyInlined_25 rfl 2 rfl ?_
  obtain ⟨q2, eq2, hf⟩ := ob hf
  refine j_callVi (pc := 26) C (rest := [.ref (bd 6)]) d_Dr_copyInlined_26 (c_Na_firstOfExpression (g := g) (ad := bd) eq2) cv_Na_firstOfExpression tw867 42 rfl rfl (cut_blk [wD g ad d.1 (va_up d.2 2 0), wD g bd q1.2.1 q1.2.2] [wD g ad d.1 (va_up d.2 2 0), wD g bd q2.2.1 q2.2.2] [0] [1] rfl rfl rfl rfl rfl rfl rfl) rfl rfl (Nat.le_of_ble_eq_true rfl) (kc2 := 0) (ks2 := 0) (by decide) ?_
  obtain ⟨b3, hf⟩ := og hf
  refine j_iald (pc := 29) C d_Dr_copyInlined_29 36 (inb_in b3) (x := q2.2.1 6 q2.1.toNatClampNeg) rfl rfl ?_
  refine j_istore (pc := 30) C d_Dr_copyInlined_30 [1, 2, 3, 4, 0] (by decide) (lc' := [(0, .ref (ad 0)), (1, .ref (bd 0)), (2, .int a2), (3, .int q1.1), (4, .int (q2.2.1 6 q2.1.toNatClampNeg))]) rfl ?_
  refine j_aload_n (pc := 32) C d_Dr_copyInlined_32 rfl 1 rfl ?_
  refine j_get (pc := 33) C d_Dr_copyInlined_33 30 1 rfl rfl (v := .ref (bd 3)) rfl (by decide) tw271 ?_
  refine j_get (pc := 36) C d_Dr_copyInlined_36 33 3 rfl rfl (v := .ref (bd 7)) rfl (by decide) tw121 ?_
  refine j_iload_n (pc := 39) C d_Dr_copyInlined_39 rfl 3 rfl ?_
  refine j_iconst (pc := 40) C d_Dr_copyInlined_40 ck_1 ?_
  refine j_isub (pc := 41) C d_Dr_copyInlined_41 ?_
  obtain ⟨b4, hf⟩ := og hf
  refine j_iald (pc := 42) C d_Dr_copyInlined_42 37 (inb_in b4) (x := q2.2.1 7 (q1.1 - 1).toNatClampNeg) rfl rfl ?_
  refine j_istore (pc := 43) C d_Dr_copyInlined_43 [1, 2, 3, 4, 5, 0] (by decide) (lc' := [(0, .ref (ad 0)), (1, .ref (bd 0)), (2, .int a2), (3, .int q1.1), (4, .int (q2.2.1 6 q2.1.toNatClampNeg)), (5, .int (q2.2.1 7 (q1.1 - 1).toNatClampNeg))]) rfl ?_
  refine j_aload_n (pc := 45) C d_Dr_copyInlined_45 rfl 0 rfl ?_
  refine j_get (pc := 46) C d_Dr_copyInlined_46 0 0 rfl rfl (v := .ref (ad 1)) rfl (by decide) tw269 ?_
  refine j_iconst (pc := 49) C d_Dr_copyInlined_49 ck_0 ?_
  refine j_put (pc := 50) C d_Dr_copyInlined_50 1 1 rfl rfl (by decide) tw95 pd_I rfl rfl rfl (Nat.le_of_ble_eq_true rfl) (ws' := wD g ad d.1 (va_up (va_up d.2 2 0) 3 0) ++ wD g bd q2.2.1 q2.2.2) rfl ?_
  refine j_aload_n (pc := 53) C d_Dr_copyInlined_53 rfl 0 rfl ?_
  refine j_get (pc := 54) C d_Dr_copyInlined_54 0 0 rfl rfl (v := .ref (ad 1)) rfl (by decide) tw269 ?_
  refine j_aload_n (pc := 57) C d_Dr_copyInlined_57 rfl 1 rfl ?_
  refine j_get (pc := 58) C d_Dr_copyInlined_58 30 0 rfl rfl (v := .ref (bd 1)) rfl (by decide) tw269 ?_
  refine j_iconst (pc := 61) C d_Dr_copyInlined_61 ck_0 ?_
  refine j_aload_n (pc := 62) C d_Dr_copyInlined_62 rfl 1 rfl ?_
  refine j_get (pc := 63) C d_Dr_copyInlined_63 30 1 rfl rfl (v := .ref (bd 3)) rfl (by decide) tw271 ?_
  refine j_get (pc := 66) C d_Dr_copyInlined_66 33 2 rfl rfl (v := .ref (bd 6)) rfl (by decide) tw118 ?_
  refine j_iload_n (pc := 69) C d_Dr_copyInlined_69 rfl 2 rfl ?_
  refine j_iconst (pc := 70) C d_Dr_copyInlined_70 ck_1 ?_
  refine j_isub (pc := 71) C d_Dr_copyInlined_71 ?_
  obtain ⟨b5, hf⟩ := og hf
  refine j_iald (pc := 72) C d_Dr_copyInlined_72 36 (inb_in b5) (x := q2.2.1 6 (a2 - 1).toNatClampNeg) rfl rfl ?_
  obtain ⟨q6, eq6, hf⟩ := ob hf
  refine j_callVv (pc := 73) C (rest := []) d_Dr_copyInlined_73 (c_Te_addPiece (g := g) (ad := ad) (bd := bd) eq6) cv_Te_addPiece tw797 1 rfl rfl cut_same rfl rfl (Nat.le_of_ble_eq_true rfl) (kc2 := 0) (ks2 := 0) (by decide) ?_
  refine j_aload_n (pc := 76) C d_Dr_copyInlined_76 rfl 1 rfl ?_
  refine j_get (pc := 77) C d_Dr_copyInlined_77 30 1 rfl rfl (v := .ref (bd 3)) rfl (by decide) tw271 ?_
  refine j_get (pc := 80) C d_Dr_copyInlined_80 33 3 rfl rfl (v := .ref (bd 7)) rfl (by decide) tw121 ?_
  refine j_iload_n (pc := 83) C d_Dr_copyInlined_83 rfl 3 rfl ?_
  obtain ⟨b7, hf⟩ := og hf
  refine j_iald (pc := 84) C d_Dr_copyInlined_84 37 (inb_in b7) (x := q6.2.1 7 q1.1.toNatClampNeg) rfl rfl ?_
  refine j_istore (pc := 85) C d_Dr_copyInlined_85 [1, 2, 3, 4, 5, 6, 0] (by decide) (lc' := [(0, .ref (ad 0)), (1, .ref (bd 0)), (2, .int a2), (3, .int q1.1), (4, .int (q2.2.1 6 q2.1.toNatClampNeg)), (5, .int (q2.2.1 7 (q1.1 - 1).toNatClampNeg)), (6, .int (q6.2.1 7 q1.1.toNatClampNeg))]) rfl ?_
  refine j_iload_n (pc := 87) C d_Dr_copyInlined_87 rfl 3 rfl ?_
  refine j_istore (pc := 88) C d_Dr_copyInlined_88 [1, 2, 3, 4, 5, 6, 7, 0] (by decide) (lc' := [(0, .ref (ad 0)), (1, .ref (bd 0)), (2, .int a2), (3, .int q1.1), (4, .int (q2.2.1 6 q2.1.toNatClampNeg)), (5, .int (q2.2.1 7 (q1.1 - 1).toNatClampNeg)), (6, .int (q6.2.1 7 q1.1.toNatClampNeg)), (7, .int q1.1)]) rfl ?_
  exact L90 100000 (a2, q1.1, q2.2.1 6 q2.1.toNatClampNeg, q2.2.1 7 (q1.1 - 1).toNatClampNeg, q6.2.1 7 q1.1.toNatClampNeg, q1.1, q6.1, q6.2) hf
abbrev rm_Dr_sizeInlined : Room := { frames := 1, cells := 0, slots := 0, locals := 21 }
theorem cv_Dr_sizeInlined : CV y_Dr_sizeInlined b_Dr_sizeInlined 7 (some .int) 2 := ⟨⟨tw865, tw3, by decide +kernel⟩, tw863, tw864⟩
set_option maxHeartbeats 4000000 in
set_option maxRecDepth 100000 in
theorem c_Dr_sizeInlined {g : GT} {ad : Nat → Nat} {a1 : Int32} {a2 : Int32} {d : DS} {q : Int32 × DS} (hf : f_Dr_sizeInlined a1 a2 d = some q) : MI g y_Dr_sizeInlined b_Dr_sizeInlined 7 (some .int) rm_Dr_sizeInlined [.ref (ad 0), .int a1, .int a2] (wD g ad d.1 d.2) q.1 (wD g ad q.2.1 q.2.2) := by
  refine MI.of (by decide) (Nat.le_of_ble_eq_true rfl) (fun 𝒥 C => ?_)
  unfold f_Dr_sizeInlined at hf
  change 𝒥 0 0 (wD g ad d.1 d.2) [(0, .ref (ad 0)), (1, .int a1), (2, .int a2)] [] 0
  refine j_aload_n (pc := 0) C d_Dr_sizeInlined_0 rfl 0 rfl ?_
  refine j_get (pc := 1) C d_Dr_sizeInlined_1 0 3 wD_o0 rfl (v := .ref (ad 12)) rfl (by decide) tw277 ?_
  refine j_iload_n (pc := 4) C d_Dr_sizeInlined_4 rfl 1 rfl ?_
  obtain ⟨q1, eq1, hf⟩ := ob hf
  refine j_callVi (pc := 5) C (rest := []) d_Dr_sizeInlined_5 (c_Na_semicolonOf (g := g) (ad := ad) eq1) cv_Na_semicolonOf tw866 12 rfl rfl cut_same rfl rfl (Nat.le_of_ble_eq_true rfl) (kc2 := 0) (ks2 := 0) (by decide) ?_
  refine j_istore_n (pc := 8) C d_Dr_sizeInlined_8 rfl [1, 2, 3, 0] (by decide) (lc' := [(0, .ref (ad 0)), (1, .int a1), (2, .int a2), (3, .int q1.1)]) rfl ?_
  refine j_aload_n (pc := 9) C d_Dr_sizeInlined_9 rfl 0 rfl ?_
  refine j_get (pc := 10) C d_Dr_sizeInlined_10 0 1 wD_o0 rfl (v := .ref (ad 3)) rfl (by decide) tw271 ?_
  refine j_get (pc := 13) C d_Dr_sizeInlined_13 3 3 wD_o3 rfl (v := .ref (ad 7)) rfl (by decide) tw121 ?_
  refine j_iload_n (pc := 16) C d_Dr_sizeInlined_16 rfl 3 rfl ?_
  obtain ⟨b2, hf⟩ := og hf
  refine j_iald (pc := 17) C d_Dr_sizeInlined_17 7 (inb_in b2) (x := q1.2.1 7 q1.1.toNatClampNeg) wD_a7 rfl ?_
  refine j_aload_n (pc := 18) C d_Dr_sizeInlined_18 rfl 0 rfl ?_
  refine j_get (pc := 19) C d_Dr_sizeInlined_19 0 1 wD_o0 rfl (v := .ref (ad 3)) rfl (by decide) tw271 ?_
  refine j_get (pc := 22) C d_Dr_sizeInlined_22 3 2 wD_o3 rfl (v := .ref (ad 6)) rfl (by decide) tw118 ?_
  refine j_iload_n (pc := 25) C d_Dr_sizeInlined_25 rfl 1 rfl ?_
  refine j_iconst (pc := 26) C d_Dr_sizeInlined_26 ck_1 ?_
  refine j_isub (pc := 27) C d_Dr_sizeInlined_27 ?_
  obtain ⟨b3, hf⟩ := og hf
  refine j_iald (pc := 28) C d_Dr_sizeInlined_28 6 (inb_in b3) (x := q1.2.1 6 (a1 - 1).toNatClampNeg) wD_a6 rfl ?_
  refine j_isub (pc := 29) C d_Dr_sizeInlined_29 ?_
  refine j_topi C (fun v4 ev4 => ?_)
  replace hf := ov ev4 hf
  refine j_istore (pc := 30) C d_Dr_sizeInlined_30 [1, 2, 3, 4, 0] (by decide) (lc' := [(0, .ref (ad 0)), (1, .int a1), (2, .int a2), (3, .int q1.1), (4, .int v4)]) rfl ?_
  refine j_aload_n (pc := 32) C d_Dr_sizeInlined_32 rfl 0 rfl ?_
  refine j_get (pc := 33) C d_Dr_sizeInlined_33 0 1 wD_o0 rfl (v := .ref (ad 3)) rfl (by decide) tw271 ?_
  refine j_get (pc := 36) C d_Dr_sizeInlined_36 3 3 wD_o3 rfl (v := .ref (ad 7)) rfl (by decide) tw121 ?_
  refine j_iload_n (pc := 39) C d_Dr_sizeInlined_39 rfl 3 rfl ?_
  refine j_iconst (pc := 40) C d_Dr_sizeInlined_40 ck_1 ?_
  refine j_isub (pc := 41) C d_Dr_sizeInlined_41 ?_
  obtain ⟨b5, hf⟩ := og hf
  refine j_iald (pc := 42) C d_Dr_sizeInlined_42 7 (inb_in b5) (x := q1.2.1 7 (q1.1 - 1).toNatClampNeg) wD_a7 rfl ?_
  refine j_aload_n (pc := 43) C d_Dr_sizeInlined_43 rfl 0 rfl ?_
  refine j_get (pc := 44) C d_Dr_sizeInlined_44 0 1 wD_o0 rfl (v := .ref (ad 3)) rfl (by decide) tw271 ?_
  refine j_get (pc := 47) C d_Dr_sizeInlined_47 3 2 wD_o3 rfl (v := .ref (ad 6)) rfl (by decide) tw118 ?_
  refine j_aload_n (pc := 50) C d_Dr_sizeInlined_50 rfl 0 rfl ?_
  refine j_get (pc := 51) C d_Dr_sizeInlined_51 0 3 wD_o0 rfl (v := .ref (ad 12)) rfl (by decide) tw277 ?_
  refine j_iload_n (pc := 54) C d_Dr_sizeInlined_54 rfl 1 rfl ?_
  obtain ⟨q6, eq6, hf⟩ := ob hf
  refine j_callVi (pc := 55) C (rest := [.ref (ad 6), .int (q1.2.1 7 (q1.1 - 1).toNatClampNeg)]) d_Dr_sizeInlined_55 (c_Na_firstOfExpression (g := g) (ad := ad) eq6) cv_Na_firstOfExpression tw867 12 rfl rfl cut_same rfl rfl (Nat.le_of_ble_eq_true rfl) (kc2 := 0) (ks2 := 0) (by decide) ?_
  obtain ⟨b7, hf⟩ := og hf
  refine j_iald (pc := 58) C d_Dr_sizeInlined_58 6 (inb_in b7) (x := q6.2.1 6 q6.1.toNatClampNeg) wD_a6 rfl ?_
  refine j_isub (pc := 59) C d_Dr_sizeInlined_59 ?_
  refine j_topi C (fun v8 ev8 => ?_)
  replace hf := ov ev8 hf
  refine j_istore (pc := 60) C d_Dr_sizeInlined_60 [1, 2, 3, 4, 5, 0] (by decide) (lc' := [(0, .ref (ad 0)), (1, .int a1), (2, .int a2), (3, .int q1.1), (4, .int v4), (5, .int v8)]) rfl ?_
  refine j_aload_n (pc := 62) C d_Dr_sizeInlined_62 rfl 0 rfl ?_
  refine j_get (pc := 63) C d_Dr_sizeInlined_63 0 1 wD_o0 rfl (v := .ref (ad 3)) rfl (by decide) tw271 ?_
  refine j_get (pc := 66) C d_Dr_sizeInlined_66 3 3 wD_o3 rfl (v := .ref (ad 7)) rfl (by decide) tw121 ?_
  refine j_iload_n (pc := 69) C d_Dr_sizeInlined_69 rfl 1 rfl ?_
  obtain ⟨b9, hf⟩ := og hf
  refine j_iald (pc := 70) C d_Dr_sizeInlined_70 7 (inb_in b9) (x := q6.2.1 7 a1.toNatClampNeg) wD_a7 rfl ?_
  refine j_aload_n (pc := 71) C d_Dr_sizeInlined_71 rfl 0 rfl ?_
  refine j_get (pc := 72) C d_Dr_sizeInlined_72 0 1 wD_o0 rfl (v := .ref (ad 3)) rfl (by decide) tw271 ?_
  refine j_get (pc := 75) C d_Dr_sizeInlined_75 3 2 wD_o3 rfl (v := .ref (ad 6)) rfl (by decide) tw118 ?_
  refine j_iload_n (pc := 78) C d_Dr_sizeInlined_78 rfl 1 rfl ?_
  obtain ⟨b10, hf⟩ := og hf
  refine j_iald (pc := 79) C d_Dr_sizeInlined_79 6 (inb_in b10) (x := q6.2.1 6 a1.toNatClampNeg) wD_a6 rfl ?_
  refine j_isub (pc := 80) C d_Dr_sizeInlined_80 ?_
  refine j_topi C (fun v11 ev11 => ?_)
  replace hf := ov ev11 hf
  refine j_istore (pc := 81) C d_Dr_sizeInlined_81 [1, 2, 3, 4, 5, 6, 0] (by decide) (lc' := [(0, .ref (ad 0)), (1, .int a1), (2, .int a2), (3, .int q1.1), (4, .int v4), (5, .int v8), (6, .int v11)]) rfl ?_
  refine j_aload_n (pc := 83) C d_Dr_sizeInlined_83 rfl 0 rfl ?_
  refine j_get (pc := 84) C d_Dr_sizeInlined_84 0 0 wD_o0 rfl (v := .ref (ad 1)) rfl (by decide) tw269 ?_
  refine j_get (pc := 87) C d_Dr_sizeInlined_87 1 1 wD_o1 rfl (v := .int (q6.2.2 3)) rfl (by decide) tw95 ?_
  refine j_iload (pc := 90) C d_Dr_sizeInlined_90 4 rfl ?_
  refine j_isub (pc := 92) C d_Dr_sizeInlined_92 ?_
  refine j_iload_n (pc := 93) C d_Dr_sizeInlined_93 rfl 2 rfl ?_
  refine j_iload (pc := 94) C d_Dr_sizeInlined_94 5 rfl ?_
  refine j_iconst (pc := 96) C d_Dr_sizeInlined_96 ck_2 ?_
  refine j_iadd (pc := 97) C d_Dr_sizeInlined_97 ?_
  refine j_iload (pc := 98) C d_Dr_sizeInlined_98 6 rfl ?_
  refine j_isub (pc := 100) C d_Dr_sizeInlined_100 ?_
  refine j_imul (pc := 101) C d_Dr_sizeInlined_101 ?_
  refine j_iadd (pc := 102) C d_Dr_sizeInlined_102 ?_
  refine j_topi C (fun v12 ev12 => ?_)
  replace hf := ov ev12 hf
  cases hf
  exact j_iret (pc := 103) C d_Dr_sizeInlined_103 ⟨rfl, rfl⟩ (Nat.le_of_ble_eq_true rfl) (Nat.le_of_ble_eq_true rfl)
abbrev rm_Na_hasCall : Room := { frames := 1, cells := 0, slots := 0, locals := 21 }
theorem cv_Na_hasCall : CV y_Na_hasCall b_Na_hasCall 3 (some .boolean) 1 := ⟨⟨tw837, tw7, by decide +kernel⟩, tw835, tw836⟩
set_option maxHeartbeats 4000000 in
set_option maxRecDepth 100000 in
theorem c_Na_hasCall {g : GT} {ad : Nat → Nat} {a1 : Int32} {d : DS} {q : Int32 × DS} (hf : f_Na_hasCall a1 d = some q) : MI g y_Na_hasCall b_Na_hasCall 3 (some .boolean) rm_Na_hasCall [.ref (ad 12), .int a1] (wD g ad d.1 d.2) q.1 (wD g ad q.2.1 q.2.2) := by
  refine MI.of (by decide) (Nat.le_of_ble_eq_true rfl) (fun 𝒥 C => ?_)
  have L6 : ∀ (n : Nat) (x : Int32 × Int32 × DS), lpN (BNa_hasCall_6) n x = some q → 𝒥 0 0 (wD g ad x.2.2.1 x.2.2.2) [(0, .ref (ad 12)), (1, .int x.1), (2, .int x.2.1)] [] 6 := by
    refine lp_ind (fun k6 k6_ih x hf => ?_)
    unfold BNa_hasCall_6 at hf
    refine j_iload_n (pc := 6) C d_Na_hasCall_6 rfl 2 rfl ?_
    refine j_aload_n (pc := 7) C d_Na_hasCall_7 rfl 0 rfl ?_
    refine j_iload_n (pc := 8) C d_Na_hasCall_8 rfl 1 rfl ?_
    obtain ⟨q2, eq2, hf⟩ := ob hf
    refine j_callVi (pc := 9) C (rest := [.int x.2.1]) d_Na_hasCall_9 (c_Na_semicolonOf (g := g) (ad := ad) eq2) cv_Na_semicolonOf tw842 12 rfl rfl cut_same rfl rfl (Nat.le_of_ble_eq_true rfl) (kc2 := 0) (ks2 := 0) (by decide) ?_
    refine j_icmp_ge (pc := 12) C d_Na_hasCall_12 (tgt := 34) rfl (fun h3 => ?_) (fun h3 => ?_)
    · rw [if_pos h3] at hf
      refine j_iconst (pc := 34) C d_Na_hasCall_34 ck_0 ?_
      cases hf
      exact j_zret (pc := 35) C d_Na_hasCall_35 rfl ⟨rfl, rfl⟩ (Nat.le_of_ble_eq_true rfl) (Nat.le_of_ble_eq_true rfl)
    · rw [if_neg h3] at hf
      refine j_aload_n (pc := 15) C d_Na_hasCall_15 rfl 0 rfl ?_
      refine j_get (pc := 16) C d_Na_hasCall_16 12 0 wD_o12 rfl (v := .ref (ad 13)) rfl (by decide) tw172 ?_
      refine j_iload_n (pc := 19) C d_Na_hasCall_19 rfl 2 rfl ?_
      obtain ⟨b4, hf⟩ := og hf
      refine j_iald (pc := 20) C d_Na_hasCall_20 13 (inb_in b4) (x := q2.2.1 13 x.2.1.toNatClampNeg) wD_a13 rfl ?_
      refine j_bipush (pc := 21) C d_Na_hasCall_21 cb_6 ?_
      refine j_icmp_ne (pc := 23) C d_Na_hasCall_23 (tgt := 28) rfl (fun h5 => ?_) (fun h5 => ?_)
      · rw [if_neg h5] at hf
        refine j_iinc (pc := 28) C d_Na_hasCall_28 2 rfl (v := x.2.1 + 1) (iv ci_1) [1, 2, 0] (by decide) (lc' := [(0, .ref (ad 12)), (1, .int x.1), (2, .int (x.2.1 + 1))]) rfl ?_
        refine j_goto (pc := 31) C d_Na_hasCall_31 (tgt := 6) rfl ?_
        exact k6_ih (x.1, x.2.1 + 1, q2.2) hf
      · rw [if_pos h5] at hf
        refine j_iconst (pc := 26) C d_Na_hasCall_26 ck_1 ?_
        cases hf
        exact j_zret (pc := 27) C d_Na_hasCall_27 rfl ⟨rfl, rfl⟩ (Nat.le_of_ble_eq_true rfl) (Nat.le_of_ble_eq_true rfl)
  unfold f_Na_hasCall at hf
  change 𝒥 0 0 (wD g ad d.1 d.2) [(0, .ref (ad 12)), (1, .int a1)] [] 0
  refine j_aload_n (pc := 0) C d_Na_hasCall_0 rfl 0 rfl ?_
  refine j_iload_n (pc := 1) C d_Na_hasCall_1 rfl 1 rfl ?_
  obtain ⟨q1, eq1, hf⟩ := ob hf
  refine j_callVi (pc := 2) C (rest := []) d_Na_hasCall_2 (c_Na_firstOfExpression (g := g) (ad := ad) eq1) cv_Na_firstOfExpression tw838 12 rfl rfl cut_same rfl rfl (Nat.le_of_ble_eq_true rfl) (kc2 := 0) (ks2 := 0) (by decide) ?_
  refine j_istore_n (pc := 5) C d_Na_hasCall_5 rfl [1, 2, 0] (by decide) (lc' := [(0, .ref (ad 12)), (1, .int a1), (2, .int q1.1)]) rfl ?_
  exact L6 100000 (a1, q1.1, q1.2) hf
abbrev rm_Na_standsOn : Room := { frames := 1, cells := 0, slots := 0, locals := 21 }
theorem cv_Na_standsOn : CV y_Na_standsOn b_Na_standsOn 4 (some .boolean) 2 := ⟨⟨tw853, tw7, by decide +kernel⟩, tw852, (sw_ (q := (y_Na_standsOn, 9)) (by decide +kernel) (by decide +kernel))⟩
set_option maxHeartbeats 4000000 in
set_option maxRecDepth 100000 in
theorem c_Na_standsOn {g : GT} {ad : Nat → Nat} {a1 : Int32} {a2 : Int32} {d : DS} {q : Int32 × DS} (hf : f_Na_standsOn a1 a2 d = some q) : MI g y_Na_standsOn b_Na_standsOn 4 (some .boolean) rm_Na_standsOn [.ref (ad 12), .int a1, .int a2] (wD g ad d.1 d.2) q.1 (wD g ad q.2.1 q.2.2) := by
  refine MI.of (by decide) (Nat.le_of_ble_eq_true rfl) (fun 𝒥 C => ?_)
  have L6 : ∀ (n : Nat) (x : Int32 × Int32 × Int32 × DS), lpN (BNa_standsOn_6) n x = some q → 𝒥 0 0 (wD g ad x.2.2.2.1 x.2.2.2.2) [(0, .ref (ad 12)), (1, .int x.1), (2, .int x.2.1), (3, .int x.2.2.1)] [] 6 := by
    refine lp_ind (fun k6 k6_ih x hf => ?_)
    unfold BNa_standsOn_6 at hf
    refine j_iload_n (pc := 6) C d_Na_standsOn_6 rfl 3 rfl ?_
    refine j_aload_n (pc := 7) C d_Na_standsOn_7 rfl 0 rfl ?_
    refine j_iload_n (pc := 8) C d_Na_standsOn_8 rfl 1 rfl ?_
    obtain ⟨q2, eq2, hf⟩ := ob hf
    refine j_callVi (pc := 9) C (rest := [.int x.2.2.1]) d_Na_standsOn_9 (c_Na_semicolonOf (g := g) (ad := ad) eq2) cv_Na_semicolonOf tw842 12 rfl rfl cut_same rfl rfl (Nat.le_of_ble_eq_true rfl) (kc2 := 0) (ks2 := 0) (by decide) ?_
    refine j_icmp_ge (pc := 12) C d_Na_standsOn_12 (tgt := 33) rfl (fun h3 => ?_) (fun h3 => ?_)
    · rw [if_pos h3] at hf
      refine j_iconst (pc := 33) C d_Na_standsOn_33 ck_0 ?_
      cases hf
      exact j_zret (pc := 34) C d_Na_standsOn_34 rfl ⟨rfl, rfl⟩ (Nat.le_of_ble_eq_true rfl) (Nat.le_of_ble_eq_true rfl)
    · rw [if_neg h3] at hf
      refine j_aload_n (pc := 15) C d_Na_standsOn_15 rfl 0 rfl ?_
      refine j_get (pc := 16) C d_Na_standsOn_16 12 1 wD_o12 rfl (v := .ref (ad 14)) rfl (by decide) tw175 ?_
      refine j_iload_n (pc := 19) C d_Na_standsOn_19 rfl 3 rfl ?_
      obtain ⟨b4, hf⟩ := og hf
      refine j_iald (pc := 20) C d_Na_standsOn_20 14 (inb_in b4) (x := q2.2.1 14 x.2.2.1.toNatClampNeg) wD_a14 rfl ?_
      refine j_iload_n (pc := 21) C d_Na_standsOn_21 rfl 2 rfl ?_
      refine j_icmp_ne (pc := 22) C d_Na_standsOn_22 (tgt := 27) rfl (fun h5 => ?_) (fun h5 => ?_)
      · rw [if_neg h5] at hf
        refine j_iinc (pc := 27) C d_Na_standsOn_27 3 rfl (v := x.2.2.1 + 1) (iv ci_1) [1, 2, 3, 0] (by decide) (lc' := [(0, .ref (ad 12)), (1, .int x.1), (2, .int x.2.1), (3, .int (x.2.2.1 + 1))]) rfl ?_
        refine j_goto (pc := 30) C d_Na_standsOn_30 (tgt := 6) rfl ?_
        exact k6_ih (x.1, x.2.1, x.2.2.1 + 1, q2.2) hf
      · rw [if_pos h5] at hf
        refine j_iconst (pc := 25) C d_Na_standsOn_25 ck_1 ?_
        cases hf
        exact j_zret (pc := 26) C d_Na_standsOn_26 rfl ⟨rfl, rfl⟩ (Nat.le_of_ble_eq_true rfl) (Nat.le_of_ble_eq_true rfl)
  unfold f_Na_standsOn at hf
  change 𝒥 0 0 (wD g ad d.1 d.2) [(0, .ref (ad 12)), (1, .int a1), (2, .int a2)] [] 0
  refine j_aload_n (pc := 0) C d_Na_standsOn_0 rfl 0 rfl ?_
  refine j_iload_n (pc := 1) C d_Na_standsOn_1 rfl 1 rfl ?_
  obtain ⟨q1, eq1, hf⟩ := ob hf
  refine j_callVi (pc := 2) C (rest := []) d_Na_standsOn_2 (c_Na_firstOfExpression (g := g) (ad := ad) eq1) cv_Na_firstOfExpression tw838 12 rfl rfl cut_same rfl rfl (Nat.le_of_ble_eq_true rfl) (kc2 := 0) (ks2 := 0) (by decide) ?_
  refine j_istore_n (pc := 5) C d_Na_standsOn_5 rfl [1, 2, 3, 0] (by decide) (lc' := [(0, .ref (ad 12)), (1, .int a1), (2, .int a2), (3, .int q1.1)]) rfl ?_
  exact L6 100000 (a1, a2, q1.1, q1.2) hf
abbrev rm_Na_isOvertaken : Room := { frames := 2, cells := 0, slots := 0, locals := 44 }
theorem cv_Na_isOvertaken : CV y_Na_isOvertaken b_Na_isOvertaken 3 (some .boolean) 1 := ⟨⟨tw849, tw7, by decide +kernel⟩, tw847, tw848⟩
set_option maxHeartbeats 4000000 in
set_option maxRecDepth 100000 in
theorem c_Na_isOvertaken {g : GT} {ad : Nat → Nat} {a1 : Int32} {d : DS} {q : Int32 × DS} (hf : f_Na_isOvertaken a1 d = some q) : MI g y_Na_isOvertaken b_Na_isOvertaken 3 (some .boolean) rm_Na_isOvertaken [.ref (ad 12), .int a1] (wD g ad d.1 d.2) q.1 (wD g ad q.2.1 q.2.2) := by
  refine MI.of (by decide) (Nat.le_of_ble_eq_true rfl) (fun 𝒥 C => ?_)
  have L7 : ∀ (n : Nat) (x : Int32 × Int32 × DS), lpN (BNa_isOvertaken_7) n x = some q → 𝒥 0 0 (wD g ad x.2.2.1 x.2.2.2) [(0, .ref (ad 12)), (1, .int x.1), (2, .int x.2.1)] [] 7 := by
    refine lp_ind (fun k7 k7_ih x hf => ?_)
    unfold BNa_isOvertaken_7 at hf
    refine j_iload_n (pc := 7) C d_Na_isOvertaken_7 rfl 2 rfl ?_
    refine j_aload_n (pc := 8) C d_Na_isOvertaken_8 rfl 0 rfl ?_
    refine j_get (pc := 9) C d_Na_isOvertaken_9 12 5 wD_o12 rfl (v := .ref (ad 18)) rfl (by decide) tw185 ?_
    refine j_aload_n (pc := 12) C d_Na_isOvertaken_12 rfl 0 rfl ?_
    refine j_get (pc := 13) C d_Na_isOvertaken_13 12 3 wD_o12 rfl (v := .ref (ad 16)) rfl (by decide) tw181 ?_
    refine j_iload_n (pc := 16) C d_Na_isOvertaken_16 rfl 1 rfl ?_
    obtain ⟨b2, hf⟩ := og hf
    refine j_iald (pc := 17) C d_Na_isOvertaken_17 16 (inb_in b2) (x := x.2.2.1 16 x.1.toNatClampNeg) wD_a16 rfl ?_
    obtain ⟨b3, hf⟩ := og hf
    refine j_iald (pc := 18) C d_Na_isOvertaken_18 18 (inb_in b3) (x := x.2.2.1 18 (x.2.2.1 16 x.1.toNatClampNeg).toNatClampNeg) wD_a18 rfl ?_
    refine j_topi C (fun v4 ev4 => ?_)
    replace hf := ov ev4 hf
    refine j_icmp_ge (pc := 19) C d_Na_isOvertaken_19 (tgt := 64) rfl (fun h5 => ?_) (fun h5 => ?_)
    · rw [if_pos h5] at hf
      refine j_iconst (pc := 64) C d_Na_isOvertaken_64 ck_0 ?_
      cases hf
      exact j_zret (pc := 65) C d_Na_isOvertaken_65 rfl ⟨rfl, rfl⟩ (Nat.le_of_ble_eq_true rfl) (Nat.le_of_ble_eq_true rfl)
    · rw [if_neg h5] at hf
      refine j_aload_n (pc := 22) C d_Na_isOvertaken_22 rfl 0 rfl ?_
      refine j_get (pc := 23) C d_Na_isOvertaken_23 12 0 wD_o12 rfl (v := .ref (ad 13)) rfl (by decide) tw172 ?_
      refine j_iload_n (pc := 26) C d_Na_isOvertaken_26 rfl 2 rfl ?_
      obtain ⟨b6, hf⟩ := og hf
      refine j_iald (pc := 27) C d_Na_isOvertaken_27 13 (inb_in b6) (x := x.2.2.1 13 x.2.1.toNatClampNeg) wD_a13 rfl ?_
      refine j_iconst (pc := 28) C d_Na_isOvertaken_28 ck_5 ?_
      refine j_icmp_ne (pc := 29) C d_Na_isOvertaken_29 (tgt := 58) rfl (fun h7 => ?_) (fun h7 => ?_)
      · rw [if_neg h7] at hf
        refine j_iinc (pc := 58) C d_Na_isOvertaken_58 2 rfl (v := x.2.1 + 1) (iv ci_1) [1, 2, 0] (by decide) (lc' := [(0, .ref (ad 12)), (1, .int x.1), (2, .int (x.2.1 + 1))]) rfl ?_
        refine j_goto (pc := 61) C d_Na_isOvertaken_61 (tgt := 7) rfl ?_
        exact k7_ih (x.1, x.2.1 + 1, x.2.2) hf
      · rw [if_pos h7] at hf
        refine j_aload_n (pc := 32) C d_Na_isOvertaken_32 rfl 0 rfl ?_
        refine j_get (pc := 33) C d_Na_isOvertaken_33 12 1 wD_o12 rfl (v := .ref (ad 14)) rfl (by decide) tw175 ?_
        refine j_iload_n (pc := 36) C d_Na_isOvertaken_36 rfl 2 rfl ?_
        obtain ⟨b8, hf⟩ := og hf
        refine j_iald (pc := 37) C d_Na_isOvertaken_37 14 (inb_in b8) (x := x.2.2.1 14 x.2.1.toNatClampNeg) wD_a14 rfl ?_
        refine j_iload_n (pc := 38) C d_Na_isOvertaken_38 rfl 1 rfl ?_
        refine j_icmp_eq (pc := 39) C d_Na_isOvertaken_39 (tgt := 56) rfl (fun h9 => ?_) (fun h9 => ?_)
        · rw [if_pos h9] at hf
          refine j_iconst (pc := 56) C d_Na_isOvertaken_56 ck_1 ?_
          cases hf
          exact j_zret (pc := 57) C d_Na_isOvertaken_57 rfl ⟨rfl, rfl⟩ (Nat.le_of_ble_eq_true rfl) (Nat.le_of_ble_eq_true rfl)
        · rw [if_neg h9] at hf
          refine j_aload_n (pc := 42) C d_Na_isOvertaken_42 rfl 0 rfl ?_
          refine j_iload_n (pc := 43) C d_Na_isOvertaken_43 rfl 1 rfl ?_
          refine j_aload_n (pc := 44) C d_Na_isOvertaken_44 rfl 0 rfl ?_
          refine j_get (pc := 45) C d_Na_isOvertaken_45 12 1 wD_o12 rfl (v := .ref (ad 14)) rfl (by decide) tw175 ?_
          refine j_iload_n (pc := 48) C d_Na_isOvertaken_48 rfl 2 rfl ?_
          obtain ⟨b10, hf⟩ := og hf
          refine j_iald (pc := 49) C d_Na_isOvertaken_49 14 (inb_in b10) (x := x.2.2.1 14 x.2.1.toNatClampNeg) wD_a14 rfl ?_
          obtain ⟨q11, eq11, hf⟩ := ob hf
          refine j_callVi (pc := 50) C (rest := []) d_Na_isOvertaken_50 (c_Na_standsOn (g := g) (ad := ad) eq11) cv_Na_standsOn tw850 12 rfl rfl cut_same rfl rfl (Nat.le_of_ble_eq_true rfl) (kc2 := 0) (ks2 := 0) (by decide) ?_
          refine j_if_eq (pc := 53) C d_Na_isOvertaken_53 (tgt := 58) rfl (fun h12 => ?_) (fun h12 => ?_)
          · rw [if_pos h12] at hf
            refine j_iinc (pc := 58) C d_Na_isOvertaken_58 2 rfl (v := x.2.1 + 1) (iv ci_1) [1, 2, 0] (by decide) (lc' := [(0, .ref (ad 12)), (1, .int x.1), (2, .int (x.2.1 + 1))]) rfl ?_
            refine j_goto (pc := 61) C d_Na_isOvertaken_61 (tgt := 7) rfl ?_
            exact k7_ih (x.1, x.2.1 + 1, q11.2) hf
          · rw [if_neg h12] at hf
            refine j_iconst (pc := 56) C d_Na_isOvertaken_56 ck_1 ?_
            cases hf
            exact j_zret (pc := 57) C d_Na_isOvertaken_57 rfl ⟨rfl, rfl⟩ (Nat.le_of_ble_eq_true rfl) (Nat.le_of_ble_eq_true rfl)
  unfold f_Na_isOvertaken at hf
  change 𝒥 0 0 (wD g ad d.1 d.2) [(0, .ref (ad 12)), (1, .int a1)] [] 0
  refine j_aload_n (pc := 0) C d_Na_isOvertaken_0 rfl 0 rfl ?_
  refine j_get (pc := 1) C d_Na_isOvertaken_1 12 4 wD_o12 rfl (v := .ref (ad 17)) rfl (by decide) tw183 ?_
  refine j_iload_n (pc := 4) C d_Na_isOvertaken_4 rfl 1 rfl ?_
  obtain ⟨b1, hf⟩ := og hf
  refine j_iald (pc := 5) C d_Na_isOvertaken_5 17 (inb_in b1) (x := d.1 17 a1.toNatClampNeg) wD_a17 rfl ?_
  refine j_istore_n (pc := 6) C d_Na_isOvertaken_6 rfl [1, 2, 0] (by decide) (lc' := [(0, .ref (ad 12)), (1, .int a1), (2, .int (d.1 17 a1.toNatClampNeg))]) rfl ?_
  exact L7 100000 (a1, d.1 17 a1.toNatClampNeg, d) hf
abbrev rm_Na_keepsMeaningAt : Room := { frames := 2, cells := 0, slots := 0, locals := 45 }
theorem cv_Na_keepsMeaningAt : CV y_Na_keepsMeaningAt b_Na_keepsMeaningAt 4 (some .boolean) 2 := ⟨⟨tw861, tw7, by decide +kernel⟩, tw860, (sw_ (q := (y_Na_keepsMeaningAt, 9)) (by decide +kernel) (by decide +kernel))⟩
set_option maxHeartbeats 4000000 in
set_option maxRecDepth 100000 in
theorem c_Na_keepsMeaningAt {g : GT} {ad : Nat → Nat} {a1 : Int32} {a2 : Int32} {d : DS} {q : Int32 × DS} (hf : f_Na_keepsMeaningAt a1 a2 d = some q) : MI g y_Na_keepsMeaningAt b_Na_keepsMeaningAt 4 (some .boolean) rm_Na_keepsMeaningAt [.ref (ad 12), .int a1, .int a2] (wD g ad d.1 d.2) q.1 (wD g ad q.2.1 q.2.2) := by
  refine MI.of (by decide) (Nat.le_of_ble_eq_true rfl) (fun 𝒥 C => ?_)
  have L6 : ∀ (n : Nat) (x : Int32 × Int32 × Int32 × DS), lpN (BNa_keepsMeaningAt_6) n x = some q → 𝒥 0 0 (wD g ad x.2.2.2.1 x.2.2.2.2) [(0, .ref (ad 12)), (1, .int x.1), (2, .int x.2.1), (3, .int x.2.2.1)] [] 6 := by
    refine lp_ind (fun k6 k6_ih x hf => ?_)
    unfold BNa_keepsMeaningAt_6 at hf
    refine j_iload_n (pc := 6) C d_Na_keepsMeaningAt_6 rfl 3 rfl ?_
    refine j_aload_n (pc := 7) C d_Na_keepsMeaningAt_7 rfl 0 rfl ?_
    refine j_iload_n (pc := 8) C d_Na_keepsMeaningAt_8 rfl 1 rfl ?_
    obtain ⟨q2, eq2, hf⟩ := ob hf
    refine j_callVi (pc := 9) C (rest := [.int x.2.2.1]) d_Na_keepsMeaningAt_9 (c_Na_semicolonOf (g := g) (ad := ad) eq2) cv_Na_semicolonOf tw842 12 rfl rfl cut_same rfl rfl (Nat.le_of_ble_eq_true rfl) (kc2 := 0) (ks2 := 0) (by decide) ?_
    refine j_icmp_ge (pc := 12) C d_Na_keepsMeaningAt_12 (tgt := 56) rfl (fun h3 => ?_) (fun h3 => ?_)
    · rw [if_pos h3] at hf
      refine j_iconst (pc := 56) C d_Na_keepsMeaningAt_56 ck_1 ?_
      cases hf
      exact j_zret (pc := 57) C d_Na_keepsMeaningAt_57 rfl ⟨rfl, rfl⟩ (Nat.le_of_ble_eq_true rfl) (Nat.le_of_ble_eq_true rfl)
    · rw [if_neg h3] at hf
      refine j_aload_n (pc := 15) C d_Na_keepsMeaningAt_15 rfl 0 rfl ?_
      refine j_get (pc := 16) C d_Na_keepsMeaningAt_16 12 0 wD_o12 rfl (v := .ref (ad 13)) rfl (by decide) tw172 ?_
      refine j_iload_n (pc := 19) C d_Na_keepsMeaningAt_19 rfl 3 rfl ?_
      obtain ⟨b4, hf⟩ := og hf
      refine j_iald (pc := 20) C d_Na_keepsMeaningAt_20 13 (inb_in b4) (x := q2.2.1 13 x.2.2.1.toNatClampNeg) wD_a13 rfl ?_
      refine j_iconst (pc := 21) C d_Na_keepsMeaningAt_21 ck_4 ?_
      refine j_icmp_ne (pc := 22) C d_Na_keepsMeaningAt_22 (tgt := 50) rfl (fun h5 => ?_) (fun h5 => ?_)
      · rw [if_neg h5] at hf
        refine j_iinc (pc := 50) C d_Na_keepsMeaningAt_50 3 rfl (v := x.2.2.1 + 1) (iv ci_1) [1, 2, 3, 0] (by decide) (lc' := [(0, .ref (ad 12)), (1, .int x.1), (2, .int x.2.1), (3, .int (x.2.2.1 + 1))]) rfl ?_
        refine j_goto (pc := 53) C d_Na_keepsMeaningAt_53 (tgt := 6) rfl ?_
        exact k6_ih (x.1, x.2.1, x.2.2.1 + 1, q2.2) hf
      · rw [if_pos h5] at hf
        refine j_aload_n (pc := 25) C d_Na_keepsMeaningAt_25 rfl 0 rfl ?_
        refine j_iload_n (pc := 26) C d_Na_keepsMeaningAt_26 rfl 2 rfl ?_
        refine j_aload_n (pc := 27) C d_Na_keepsMeaningAt_27 rfl 0 rfl ?_
        refine j_get (pc := 28) C d_Na_keepsMeaningAt_28 12 7 wD_o12 rfl (v := .ref (ad 3)) rfl (by decide) tw189 ?_
        refine j_get (pc := 31) C d_Na_keepsMeaningAt_31 3 1 wD_o3 rfl (v := .ref (ad 5)) rfl (by decide) tw113 ?_
        refine j_iload_n (pc := 34) C d_Na_keepsMeaningAt_34 rfl 3 rfl ?_
        obtain ⟨b6, hf⟩ := og hf
        refine j_iald (pc := 35) C d_Na_keepsMeaningAt_35 5 (inb_in b6) (x := q2.2.1 5 x.2.2.1.toNatClampNeg) wD_a5 rfl ?_
        obtain ⟨q7, eq7, hf⟩ := ob hf
        refine j_callVi (pc := 36) C (rest := []) d_Na_keepsMeaningAt_36 (c_Na_meaning (g := g) (ad := ad) eq7) cv_Na_meaning tw590 12 rfl rfl cut_same rfl rfl (Nat.le_of_ble_eq_true rfl) (kc2 := 0) (ks2 := 0) (by decide) ?_
        refine j_aload_n (pc := 39) C d_Na_keepsMeaningAt_39 rfl 0 rfl ?_
        refine j_get (pc := 40) C d_Na_keepsMeaningAt_40 12 1 wD_o12 rfl (v := .ref (ad 14)) rfl (by decide) tw175 ?_
        refine j_iload_n (pc := 43) C d_Na_keepsMeaningAt_43 rfl 3 rfl ?_
        obtain ⟨b8, hf⟩ := og hf
        refine j_iald (pc := 44) C d_Na_keepsMeaningAt_44 14 (inb_in b8) (x := q7.2.1 14 x.2.2.1.toNatClampNeg) wD_a14 rfl ?_
        refine j_icmp_eq (pc := 45) C d_Na_keepsMeaningAt_45 (tgt := 50) rfl (fun h9 => ?_) (fun h9 => ?_)
        · rw [if_pos h9] at hf
          refine j_iinc (pc := 50) C d_Na_keepsMeaningAt_50 3 rfl (v := x.2.2.1 + 1) (iv ci_1) [1, 2, 3, 0] (by decide) (lc' := [(0, .ref (ad 12)), (1, .int x.1), (2, .int x.2.1), (3, .int (x.2.2.1 + 1))]) rfl ?_
          refine j_goto (pc := 53) C d_Na_keepsMeaningAt_53 (tgt := 6) rfl ?_
          exact k6_ih (x.1, x.2.1, x.2.2.1 + 1, q7.2) hf
        · rw [if_neg h9] at hf
          refine j_iconst (pc := 48) C d_Na_keepsMeaningAt_48 ck_0 ?_
          cases hf
          exact j_zret (pc := 49) C d_Na_keepsMeaningAt_49 rfl ⟨rfl, rfl⟩ (Nat.le_of_ble_eq_true rfl) (Nat.le_of_ble_eq_true rfl)
  unfold f_Na_keepsMeaningAt at hf
  change 𝒥 0 0 (wD g ad d.1 d.2) [(0, .ref (ad 12)), (1, .int a1), (2, .int a2)] [] 0
  refine j_aload_n (pc := 0) C d_Na_keepsMeaningAt_0 rfl 0 rfl ?_
  refine j_iload_n (pc := 1) C d_Na_keepsMeaningAt_1 rfl 1 rfl ?_
  obtain ⟨q1, eq1, hf⟩ := ob hf
  refine j_callVi (pc := 2) C (rest := []) d_Na_keepsMeaningAt_2 (c_Na_firstOfExpression (g := g) (ad := ad) eq1) cv_Na_firstOfExpression tw838 12 rfl rfl cut_same rfl rfl (Nat.le_of_ble_eq_true rfl) (kc2 := 0) (ks2 := 0) (by decide) ?_
  refine j_istore_n (pc := 5) C d_Na_keepsMeaningAt_5 rfl [1, 2, 3, 0] (by decide) (lc' := [(0, .ref (ad 12)), (1, .int a1), (2, .int a2), (3, .int q1.1)]) rfl ?_
  exact L6 100000 (a1, a2, q1.1, q1.2) hf
abbrev rm_Na_losesMeaning : Room := { frames := 3, cells := 0, slots := 0, locals := 68 }
theorem cv_Na_losesMeaning : CV y_Na_losesMeaning b_Na_losesMeaning 3 (some .boolean) 1 := ⟨⟨tw857, tw7, by decide +kernel⟩, tw855, tw856⟩
set_option maxHeartbeats 4000000 in
set_option maxRecDepth 100000 in
theorem c_Na_losesMeaning {g : GT} {ad : Nat → Nat} {a1 : Int32} {d : DS} {q : Int32 × DS} (hf : f_Na_losesMeaning a1 d = some q) : MI g y_Na_losesMeaning b_Na_losesMeaning 3 (some .boolean) rm_Na_losesMeaning [.ref (ad 12), .int a1] (wD g ad d.1 d.2) q.1 (wD g ad q.2.1 q.2.2) := by
  refine MI.of (by decide) (Nat.le_of_ble_eq_true rfl) (fun 𝒥 C => ?_)
  have L7 : ∀ (n : Nat) (x : Int32 × Int32 × DS), lpN (BNa_losesMeaning_7) n x = some q → 𝒥 0 0 (wD g ad x.2.2.1 x.2.2.2) [(0, .ref (ad 12)), (1, .int x.1), (2, .int x.2.1)] [] 7 := by
    refine lp_ind (fun k7 k7_ih x hf => ?_)
    unfold BNa_losesMeaning_7 at hf
    refine j_iload_n (pc := 7) C d_Na_losesMeaning_7 rfl 2 rfl ?_
    refine j_aload_n (pc := 8) C d_Na_losesMeaning_8 rfl 0 rfl ?_
    refine j_get (pc := 9) C d_Na_losesMeaning_9 12 5 wD_o12 rfl (v := .ref (ad 18)) rfl (by decide) tw185 ?_
    refine j_aload_n (pc := 12) C d_Na_losesMeaning_12 rfl 0 rfl ?_
    refine j_get (pc := 13) C d_Na_losesMeaning_13 12 3 wD_o12 rfl (v := .ref (ad 16)) rfl (by decide) tw181 ?_
    refine j_iload_n (pc := 16) C d_Na_losesMeaning_16 rfl 1 rfl ?_
    obtain ⟨b2, hf⟩ := og hf
    refine j_iald (pc := 17) C d_Na_losesMeaning_17 16 (inb_in b2) (x := x.2.2.1 16 x.1.toNatClampNeg) wD_a16 rfl ?_
    obtain ⟨b3, hf⟩ := og hf
    refine j_iald (pc := 18) C d_Na_losesMeaning_18 18 (inb_in b3) (x := x.2.2.1 18 (x.2.2.1 16 x.1.toNatClampNeg).toNatClampNeg) wD_a18 rfl ?_
    refine j_topi C (fun v4 ev4 => ?_)
    replace hf := ov ev4 hf
    refine j_icmp_ge (pc := 19) C d_Na_losesMeaning_19 (tgt := 49) rfl (fun h5 => ?_) (fun h5 => ?_)
    · rw [if_pos h5] at hf
      refine j_iconst (pc := 49) C d_Na_losesMeaning_49 ck_0 ?_
      cases hf
      exact j_zret (pc := 50) C d_Na_losesMeaning_50 rfl ⟨rfl, rfl⟩ (Nat.le_of_ble_eq_true rfl) (Nat.le_of_ble_eq_true rfl)
    · rw [if_neg h5] at hf
      refine j_aload_n (pc := 22) C d_Na_losesMeaning_22 rfl 0 rfl ?_
      refine j_get (pc := 23) C d_Na_losesMeaning_23 12 1 wD_o12 rfl (v := .ref (ad 14)) rfl (by decide) tw175 ?_
      refine j_iload_n (pc := 26) C d_Na_losesMeaning_26 rfl 2 rfl ?_
      obtain ⟨b6, hf⟩ := og hf
      refine j_iald (pc := 27) C d_Na_losesMeaning_27 14 (inb_in b6) (x := x.2.2.1 14 x.2.1.toNatClampNeg) wD_a14 rfl ?_
      refine j_iload_n (pc := 28) C d_Na_losesMeaning_28 rfl 1 rfl ?_
      refine j_icmp_ne (pc := 29) C d_Na_losesMeaning_29 (tgt := 43) rfl (fun h7 => ?_) (fun h7 => ?_)
      · rw [if_neg h7] at hf
        refine j_iinc (pc := 43) C d_Na_losesMeaning_43 2 rfl (v := x.2.1 + 1) (iv ci_1) [1, 2, 0] (by decide) (lc' := [(0, .ref (ad 12)), (1, .int x.1), (2, .int (x.2.1 + 1))]) rfl ?_
        refine j_goto (pc := 46) C d_Na_losesMeaning_46 (tgt := 7) rfl ?_
        exact k7_ih (x.1, x.2.1 + 1, x.2.2) hf
      · rw [if_pos h7] at hf
        refine j_aload_n (pc := 32) C d_Na_losesMeaning_32 rfl 0 rfl ?_
        refine j_iload_n (pc := 33) C d_Na_losesMeaning_33 rfl 1 rfl ?_
        refine j_iload_n (pc := 34) C d_Na_losesMeaning_34 rfl 2 rfl ?_
        obtain ⟨q8, eq8, hf⟩ := ob hf
        refine j_callVi (pc := 35) C (rest := []) d_Na_losesMeaning_35 (c_Na_keepsMeaningAt (g := g) (ad := ad) eq8) cv_Na_keepsMeaningAt tw858 12 rfl rfl cut_same rfl rfl (Nat.le_of_ble_eq_true rfl) (kc2 := 0) (ks2 := 0) (by decide) ?_
        refine j_if_ne (pc := 38) C d_Na_losesMeaning_38 (tgt := 43) rfl (fun h9 => ?_) (fun h9 => ?_)
        · rw [if_neg h9] at hf
          refine j_iinc (pc := 43) C d_Na_losesMeaning_43 2 rfl (v := x.2.1 + 1) (iv ci_1) [1, 2, 0] (by decide) (lc' := [(0, .ref (ad 12)), (1, .int x.1), (2, .int (x.2.1 + 1))]) rfl ?_
          refine j_goto (pc := 46) C d_Na_losesMeaning_46 (tgt := 7) rfl ?_
          exact k7_ih (x.1, x.2.1 + 1, q8.2) hf
        · rw [if_pos h9] at hf
          refine j_iconst (pc := 41) C d_Na_losesMeaning_41 ck_1 ?_
          cases hf
          exact j_zret (pc := 42) C d_Na_losesMeaning_42 rfl ⟨rfl, rfl⟩ (Nat.le_of_ble_eq_true rfl) (Nat.le_of_ble_eq_true rfl)
  unfold f_Na_losesMeaning at hf
  change 𝒥 0 0 (wD g ad d.1 d.2) [(0, .ref (ad 12)), (1, .int a1)] [] 0
  refine j_aload_n (pc := 0) C d_Na_losesMeaning_0 rfl 0 rfl ?_
  refine j_get (pc := 1) C d_Na_losesMeaning_1 12 4 wD_o12 rfl (v := .ref (ad 17)) rfl (by decide) tw183 ?_
  refine j_iload_n (pc := 4) C d_Na_losesMeaning_4 rfl 1 rfl ?_
  obtain ⟨b1, hf⟩ := og hf
  refine j_iald (pc := 5) C d_Na_losesMeaning_5 17 (inb_in b1) (x := d.1 17 a1.toNatClampNeg) wD_a17 rfl ?_
  refine j_istore_n (pc := 6) C d_Na_losesMeaning_6 rfl [1, 2, 0] (by decide) (lc' := [(0, .ref (ad 12)), (1, .int a1), (2, .int (d.1 17 a1.toNatClampNeg))]) rfl ?_
  exact L7 100000 (a1, d.1 17 a1.toNatClampNeg, d) hf
abbrev rm_X_inline : Room := { frames := 41, cells := 1, slots := 6, locals := 1162 }
theorem cv_X_inline : CV y_X_inline b_X_inline 4 (some .int) 1 := ⟨⟨tw833, tw1, by decide +kernel⟩, tw831, tw832⟩
set_option maxHeartbeats 4000000 in
set_option maxRecDepth 100000 in
theorem c_X_inline {g : GT} {ax : Nat → Nat} {am : Nat → Nat} {ad : Nat → Nat} {bd : Nat → Nat} {a1 : Int32} {k : DS} {d : DS} {b : DS} {q : Nat × Int32 × DS × DS × DS} (hf : f_X_inline a1 k d b = some q) : MX g y_X_inline b_X_inline 4 (some .int) rm_X_inline [.ref (ax 0), .int a1] (wX g ax am ad bd ++ (wM g am k.1 k.2 ++ (wD g ad d.1 d.2 ++ wD g bd b.1 b.2))) q.1 (some (.int q.2.1)) (swp q.1 (wX g ax am bd ad ++ (wM g am q.2.2.1.1 q.2.2.1.2 ++ (wD g bd q.2.2.2.1.1 q.2.2.2.1.2 ++ wD g ad q.2.2.2.2.1 q.2.2.2.2.2))) (wX g ax am ad bd ++ (wM g am q.2.2.1.1 q.2.2.1.2 ++ (wD g ad q.2.2.2.1.1 q.2.2.2.1.2 ++ wD g bd q.2.2.2.2.1 q.2.2.2.2.2)))) := by
  refine MX.of (by decide) (Nat.le_of_ble_eq_true rfl) (fun 𝒥 CX => ?_)
  have C := CX.K
  unfold f_X_inline at hf
  change 𝒥 0 0 (wX g ax am ad bd ++ (wM g am k.1 k.2 ++ (wD g ad d.1 d.2 ++ wD g bd b.1 b.2))) [(0, .ref (ax 0)), (1, .int a1)] [] 0
  refine j_aload_n (pc := 0) C d_X_inline_0 rfl 0 rfl ?_
  refine j_get (pc := 1) C d_X_inline_1 0 1 rfl rfl (v := .ref (ad 0)) rfl (by decide) tw318 ?_
  obtain ⟨q1, eq1, hf⟩ := ob hf
  refine j_callVv (pc := 4) C (rest := []) d_X_inline_4 (c_Dr_refresh (g := g) (ad := ad) eq1) cv_Dr_refresh tw360 6 rfl rfl (cut_blk [wX g ax am ad bd, wM g am k.1 k.2, wD g ad d.1 d.2, wD g bd b.1 b.2] [wX g ax am ad bd, wM g am k.1 k.2, wD g ad q1.1 q1.2, wD g bd b.1 b.2] [0, 1, 3] [2] rfl rfl rfl rfl rfl rfl rfl) rfl rfl (Nat.le_of_ble_eq_true rfl) (kc2 := 0) (ks2 := 0) (by decide) ?_
  refine j_aload_n (pc := 7) C d_X_inline_7 rfl 0 rfl ?_
  refine j_get (pc := 8) C d_X_inline_8 0 1 rfl rfl (v := .ref (ad 0)) rfl (by decide) tw318 ?_
  refine j_get (pc := 11) C d_X_inline_11 6 10 rfl rfl (v := .int (q1.2 1)) rfl (by decide) tw289 ?_
  refine j_if_le (pc := 14) C d_X_inline_14 (tgt := 25) rfl (fun h2 => ?_) (fun h2 => ?_)
  · rw [if_pos h2] at hf
    refine j_aload_n (pc := 25) C d_X_inline_25 rfl 0 rfl ?_
    refine j_get (pc := 26) C d_X_inline_26 0 1 rfl rfl (v := .ref (ad 0)) rfl (by decide) tw318 ?_
    refine j_iload_n (pc := 29) C d_X_inline_29 rfl 1 rfl ?_
    obtain ⟨q3, eq3, hf⟩ := ob hf
    refine j_callVi (pc := 30) C (rest := []) d_X_inline_30 (c_Dr_declarationAt (g := g) (ad := ad) eq3) cv_Dr_declarationAt tw768 6 rfl rfl (cut_blk [wX g ax am ad bd, wM g am k.1 k.2, wD g ad q1.1 q1.2, wD g bd b.1 b.2] [wX g ax am ad bd, wM g am k.1 k.2, wD g ad q3.2.1 q3.2.2, wD g bd b.1 b.2] [0, 1, 3] [2] rfl rfl rfl rfl rfl rfl rfl) rfl rfl (Nat.le_of_ble_eq_true rfl) (kc2 := 0) (ks2 := 0) (by decide) ?_
    refine j_istore_n (pc := 33) C d_X_inline_33 rfl [1, 2, 0] (by decide) (lc' := [(0, .ref (ax 0)), (1, .int a1), (2, .int q3.1)]) rfl ?_
    refine j_iload_n (pc := 34) C d_X_inline_34 rfl 2 rfl ?_
    refine j_iconst (pc := 35) C d_X_inline_35 ck_m1 ?_
    refine j_icmp_eq (pc := 36) C d_X_inline_36 (tgt := 55) rfl (fun h4 => ?_) (fun h4 => ?_)
    · rw [if_pos h4] at hf
      cases hf
      exact j_throw (pc := 55) CX xt_4 d_X_inline_55 d_X_inline_58 d_X_inline_59 d_X_inline_62 ⟨by decide, rfl, rfl⟩ (by decide)
    · rw [if_neg h4] at hf
      refine j_aload_n (pc := 39) C d_X_inline_39 rfl 0 rfl ?_
      refine j_get (pc := 40) C d_X_inline_40 0 1 rfl rfl (v := .ref (ad 0)) rfl (by decide) tw318 ?_
      refine j_get (pc := 43) C d_X_inline_43 6 3 rfl rfl (v := .ref (ad 12)) rfl (by decide) tw279 ?_
      refine j_get (pc := 46) C d_X_inline_46 18 0 rfl rfl (v := .ref (ad 13)) rfl (by decide) tw174 ?_
      refine j_iload_n (pc := 49) C d_X_inline_49 rfl 2 rfl ?_
      obtain ⟨b5, hf⟩ := og hf
      refine j_iald (pc := 50) C d_X_inline_50 19 (inb_in b5) (x := q3.2.1 13 q3.1.toNatClampNeg) rfl rfl ?_
      refine j_iconst (pc := 51) C d_X_inline_51 ck_3 ?_
      refine j_icmp_eq (pc := 52) C d_X_inline_52 (tgt := 63) rfl (fun h6 => ?_) (fun h6 => ?_)
      · rw [if_pos h6] at hf
        refine j_aload_n (pc := 63) C d_X_inline_63 rfl 0 rfl ?_
        refine j_get (pc := 64) C d_X_inline_64 0 1 rfl rfl (v := .ref (ad 0)) rfl (by decide) tw318 ?_
        refine j_get (pc := 67) C d_X_inline_67 6 3 rfl rfl (v := .ref (ad 12)) rfl (by decide) tw279 ?_
        refine j_iload_n (pc := 70) C d_X_inline_70 rfl 2 rfl ?_
        obtain ⟨q7, eq7, hf⟩ := ob hf
        refine j_callVi (pc := 71) C (rest := []) d_X_inline_71 (c_Na_hasCall (g := g) (ad := ad) eq7) cv_Na_hasCall tw834 18 rfl rfl (cut_blk [wX g ax am ad bd, wM g am k.1 k.2, wD g ad q3.2.1 q3.2.2, wD g bd b.1 b.2] [wX g ax am ad bd, wM g am k.1 k.2, wD g ad q7.2.1 q7.2.2, wD g bd b.1 b.2] [0, 1, 3] [2] rfl rfl rfl rfl rfl rfl rfl) rfl rfl (Nat.le_of_ble_eq_true rfl) (kc2 := 0) (ks2 := 0) (by decide) ?_
        refine j_if_ne (pc := 74) C d_X_inline_74 (tgt := 105) rfl (fun h8 => ?_) (fun h8 => ?_)
        · rw [if_neg h8] at hf
          cases hf
          exact j_throw (pc := 105) CX xt_5 d_X_inline_105 d_X_inline_108 d_X_inline_109 d_X_inline_112 ⟨by decide, rfl, rfl⟩ (by decide)
        · rw [if_pos h8] at hf
          refine j_aload_n (pc := 77) C d_X_inline_77 rfl 0 rfl ?_
          refine j_get (pc := 78) C d_X_inline_78 0 1 rfl rfl (v := .ref (ad 0)) rfl (by decide) tw318 ?_
          refine j_get (pc := 81) C d_X_inline_81 6 3 rfl rfl (v := .ref (ad 12)) rfl (by decide) tw279 ?_
          refine j_iload_n (pc := 84) C d_X_inline_84 rfl 2 rfl ?_
          obtain ⟨q9, eq9, hf⟩ := ob hf
          refine j_callVi (pc := 85) C (rest := []) d_X_inline_85 (c_Na_isOvertaken (g := g) (ad := ad) eq9) cv_Na_isOvertaken tw846 18 rfl rfl (cut_blk [wX g ax am ad bd, wM g am k.1 k.2, wD g ad q7.2.1 q7.2.2, wD g bd b.1 b.2] [wX g ax am ad bd, wM g am k.1 k.2, wD g ad q9.2.1 q9.2.2, wD g bd b.1 b.2] [0, 1, 3] [2] rfl rfl rfl rfl rfl rfl rfl) rfl rfl (Nat.le_of_ble_eq_true rfl) (kc2 := 0) (ks2 := 0) (by decide) ?_
          refine j_if_ne (pc := 88) C d_X_inline_88 (tgt := 105) rfl (fun h10 => ?_) (fun h10 => ?_)
          · rw [if_neg h10] at hf
            cases hf
            exact j_throw (pc := 105) CX xt_5 d_X_inline_105 d_X_inline_108 d_X_inline_109 d_X_inline_112 ⟨by decide, rfl, rfl⟩ (by decide)
          · rw [if_pos h10] at hf
            refine j_aload_n (pc := 91) C d_X_inline_91 rfl 0 rfl ?_
            refine j_get (pc := 92) C d_X_inline_92 0 1 rfl rfl (v := .ref (ad 0)) rfl (by decide) tw318 ?_
            refine j_get (pc := 95) C d_X_inline_95 6 3 rfl rfl (v := .ref (ad 12)) rfl (by decide) tw279 ?_
            refine j_iload_n (pc := 98) C d_X_inline_98 rfl 2 rfl ?_
            obtain ⟨q11, eq11, hf⟩ := ob hf
            refine j_callVi (pc := 99) C (rest := []) d_X_inline_99 (c_Na_losesMeaning (g := g) (ad := ad) eq11) cv_Na_losesMeaning tw854 18 rfl rfl (cut_blk [wX g ax am ad bd, wM g am k.1 k.2, wD g ad q9.2.1 q9.2.2, wD g bd b.1 b.2] [wX g ax am ad bd, wM g am k.1 k.2, wD g ad q11.2.1 q11.2.2, wD g bd b.1 b.2] [0, 1, 3] [2] rfl rfl rfl rfl rfl rfl rfl) rfl rfl (Nat.le_of_ble_eq_true rfl) (kc2 := 0) (ks2 := 0) (by decide) ?_
            refine j_if_eq (pc := 102) C d_X_inline_102 (tgt := 113) rfl (fun h12 => ?_) (fun h12 => ?_)
            · rw [if_pos h12] at hf
              refine j_aload_n (pc := 113) C d_X_inline_113 rfl 0 rfl ?_
              refine j_get (pc := 114) C d_X_inline_114 0 1 rfl rfl (v := .ref (ad 0)) rfl (by decide) tw318 ?_
              refine j_iload_n (pc := 117) C d_X_inline_117 rfl 2 rfl ?_
              obtain ⟨q13, eq13, hf⟩ := ob hf
              refine j_callVi (pc := 118) C (rest := []) d_X_inline_118 (c_Dr_referencesOf (g := g) (ad := ad) eq13) cv_Dr_referencesOf tw789 6 rfl rfl (cut_blk [wX g ax am ad bd, wM g am k.1 k.2, wD g ad q11.2.1 q11.2.2, wD g bd b.1 b.2] [wX g ax am ad bd, wM g am k.1 k.2, wD g ad q13.2.1 q13.2.2, wD g bd b.1 b.2] [0, 1, 3] [2] rfl rfl rfl rfl rfl rfl rfl) rfl rfl (Nat.le_of_ble_eq_true rfl) (kc2 := 0) (ks2 := 0) (by decide) ?_
              refine j_iconst (pc := 121) C d_X_inline_121 ck_1 ?_
              refine j_isub (pc := 122) C d_X_inline_122 ?_
              refine j_istore_n (pc := 123) C d_X_inline_123 rfl [1, 2, 3, 0] (by decide) (lc' := [(0, .ref (ax 0)), (1, .int a1), (2, .int q3.1), (3, .int (q13.1 - 1))]) rfl ?_
              refine j_aload_n (pc := 124) C d_X_inline_124 rfl 0 rfl ?_
              refine j_get (pc := 125) C d_X_inline_125 0 1 rfl rfl (v := .ref (ad 0)) rfl (by decide) tw318 ?_
              refine j_iload_n (pc := 128) C d_X_inline_128 rfl 2 rfl ?_
              refine j_iload_n (pc := 129) C d_X_inline_129 rfl 3 rfl ?_
              obtain ⟨q14, eq14, hf⟩ := ob hf
              refine j_callVi (pc := 130) C (rest := []) d_X_inline_130 (c_Dr_sizeInlined (g := g) (ad := ad) eq14) cv_Dr_sizeInlined tw862 6 rfl rfl (cut_blk [wX g ax am ad bd, wM g am k.1 k.2, wD g ad q13.2.1 q13.2.2, wD g bd b.1 b.2] [wX g ax am ad bd, wM g am k.1 k.2, wD g ad q14.2.1 q14.2.2, wD g bd b.1 b.2] [0, 1, 3] [2] rfl rfl rfl rfl rfl rfl rfl) rfl rfl (Nat.le_of_ble_eq_true rfl) (kc2 := 0) (ks2 := 0) (by decide) ?_
              refine j_sipush (pc := 133) C d_X_inline_133 cs_240 ?_
              refine j_icmp_le (pc := 136) C d_X_inline_136 (tgt := 147) rfl (fun h15 => ?_) (fun h15 => ?_)
              · rw [if_pos h15] at hf
                refine j_aload_n (pc := 147) C d_X_inline_147 rfl 0 rfl ?_
                refine j_get (pc := 148) C d_X_inline_148 0 2 rfl rfl (v := .ref (bd 0)) rfl (by decide) tw319 ?_
                refine j_aload_n (pc := 151) C d_X_inline_151 rfl 0 rfl ?_
                refine j_get (pc := 152) C d_X_inline_152 0 1 rfl rfl (v := .ref (ad 0)) rfl (by decide) tw318 ?_
                refine j_iload_n (pc := 155) C d_X_inline_155 rfl 2 rfl ?_
                obtain ⟨q16, eq16, hf⟩ := ob hf
                refine j_callVv (pc := 156) C (rest := []) d_X_inline_156 (c_Dr_copyInlined (g := g) (ad := bd) (bd := ad) eq16) cv_Dr_copyInlined tw868 36 rfl rfl (cut_blk [wX g ax am ad bd, wM g am k.1 k.2, wD g ad q14.2.1 q14.2.2, wD g bd b.1 b.2] [wX g ax am ad bd, wM g am k.1 k.2, wD g ad q16.2.1 q16.2.2, wD g bd q16.1.1 q16.1.2] [0, 1] [3, 2] rfl rfl rfl rfl rfl rfl rfl) rfl rfl (Nat.le_of_ble_eq_true rfl) (kc2 := 0) (ks2 := 0) (by decide) ?_
                refine j_aload_n (pc := 159) C d_X_inline_159 rfl 0 rfl ?_
                refine j_get (pc := 160) C d_X_inline_160 0 2 rfl rfl (v := .ref (bd 0)) rfl (by decide) tw319 ?_
                obtain ⟨q17, eq17, hf⟩ := ob hf
                refine j_callVv (pc := 163) C (rest := []) d_X_inline_163 (c_Dr_refresh (g := g) (ad := bd) eq17) cv_Dr_refresh tw360 36 rfl rfl (cut_blk [wX g ax am ad bd, wM g am k.1 k.2, wD g ad q16.2.1 q16.2.2, wD g bd q16.1.1 q16.1.2] [wX g ax am ad bd, wM g am k.1 k.2, wD g ad q16.2.1 q16.2.2, wD g bd q17.1 q17.2] [0, 1, 2] [3] rfl rfl rfl rfl rfl rfl rfl) rfl rfl (Nat.le_of_ble_eq_true rfl) (kc2 := 0) (ks2 := 0) (by decide) ?_
                refine j_aload_n (pc := 166) C d_X_inline_166 rfl 0 rfl ?_
                refine j_get (pc := 167) C d_X_inline_167 0 2 rfl rfl (v := .ref (bd 0)) rfl (by decide) tw319 ?_
                refine j_get (pc := 170) C d_X_inline_170 36 10 rfl rfl (v := .int (q17.2 1)) rfl (by decide) tw289 ?_
                refine j_if_le (pc := 173) C d_X_inline_173 (tgt := 184) rfl (fun h18 => ?_) (fun h18 => ?_)
                · rw [if_pos h18] at hf
                  refine j_aload_n (pc := 184) C d_X_inline_184 rfl 0 rfl ?_
                  refine j_callVv (pc := 185) C (rest := []) (ws' := catb [wX g ax am bd ad, wM g am k.1 k.2, wD g ad q16.2.1 q16.2.2, wD g bd q17.1 q17.2]) d_X_inline_185 c_X_acceptTrial cv_X_acceptTrial tw823 0 rfl rfl (cut_blk [wX g ax am ad bd, wM g am k.1 k.2, wD g ad q16.2.1 q16.2.2, wD g bd q17.1 q17.2] [wX g ax am bd ad, wM g am k.1 k.2, wD g ad q16.2.1 q16.2.2, wD g bd q17.1 q17.2] [1, 2, 3] [0] rfl rfl rfl rfl rfl rfl rfl) rfl rfl (Nat.le_of_ble_eq_true rfl) (kc2 := 0) (ks2 := 0) (by decide) ?_
                  refine j_perm C (ws' := wX g ax am bd ad ++ (wM g am k.1 k.2 ++ (wD g bd q17.1 q17.2 ++ wD g ad q16.2.1 q16.2.2))) (blk_swap rfl rfl) ?_
                  refine j_iload_n (pc := 188) C d_X_inline_188 rfl 3 rfl ?_
                  cases hf
                  exact j_iret (pc := 189) C d_X_inline_189 ⟨rfl, rfl, rfl⟩ (Nat.le_of_ble_eq_true rfl) (Nat.le_of_ble_eq_true rfl)
                · rw [if_neg h18] at hf
                  cases hf
                  exact j_throw (pc := 176) CX xt_5 d_X_inline_176 d_X_inline_179 d_X_inline_180 d_X_inline_183 ⟨by decide, rfl, rfl⟩ (by decide)
              · rw [if_neg h15] at hf
                cases hf
                exact j_throw (pc := 139) CX xt_3 d_X_inline_139 d_X_inline_142 d_X_inline_143 d_X_inline_146 ⟨by decide, rfl, rfl⟩ (by decide)
            · rw [if_neg h12] at hf
              cases hf
              exact j_throw (pc := 105) CX xt_5 d_X_inline_105 d_X_inline_108 d_X_inline_109 d_X_inline_112 ⟨by decide, rfl, rfl⟩ (by decide)
      · rw [if_neg h6] at hf
        cases hf
        exact j_throw (pc := 55) CX xt_4 d_X_inline_55 d_X_inline_58 d_X_inline_59 d_X_inline_62 ⟨by decide, rfl, rfl⟩ (by decide)
  · rw [if_neg h2] at hf
    cases hf
    exact j_throw (pc := 17) CX xt_3 d_X_inline_17 d_X_inline_20 d_X_inline_21 d_X_inline_24 ⟨by decide, rfl, rfl⟩ (by decide)
abbrev rm_Ma_countOne : Room := { frames := 0, cells := 0, slots := 0, locals := 0 }
theorem cv_Ma_countOne : CV y_Ma_countOne b_Ma_countOne 1 none 0 := ⟨⟨tw896, tw2, by decide +kernel⟩, tw895, (sw_ (q := (y_Ma_countOne, 11)) (by decide +kernel) (by decide +kernel))⟩
set_option maxHeartbeats 4000000 in
set_option maxRecDepth 100000 in
theorem c_Ma_countOne {g : GT} {am : Nat → Nat} {k : DS} {q : DS} (hf : f_Ma_countOne k = some q) : MV g y_Ma_countOne b_Ma_countOne 1 none rm_Ma_countOne [.ref (am 0)] (wM g am k.1 k.2) (wM g am q.1 q.2) := by
  refine MV.of (by decide) (Nat.le_of_ble_eq_true rfl) (fun 𝒥 C => ?_)
  unfold f_Ma_countOne at hf
  change 𝒥 0 0 (wM g am k.1 k.2) [(0, .ref (am 0))] [] 0
  refine j_aload_n (pc := 0) C d_Ma_countOne_0 rfl 0 rfl ?_
  refine j_get (pc := 1) C d_Ma_countOne_1 0 8 wM_o0 rfl (v := .int (k.2 4)) rfl (by decide) tw50 ?_
  refine j_sipush (pc := 4) C d_Ma_countOne_4 cs_300 ?_
  refine j_icmp_lt (pc := 7) C d_Ma_countOne_7 (tgt := 18) rfl (fun h1 => ?_) (fun h1 => ?_)
  · rw [if_pos h1] at hf
    refine j_aload_n (pc := 18) C d_Ma_countOne_18 rfl 0 rfl ?_
    refine j_dup (pc := 19) C d_Ma_countOne_19 rfl ?_
    refine j_get (pc := 20) C d_Ma_countOne_20 0 8 wM_o0 rfl (v := .int (k.2 4)) rfl (by decide) tw50 ?_
    refine j_iconst (pc := 23) C d_Ma_countOne_23 ck_1 ?_
    refine j_iadd (pc := 24) C d_Ma_countOne_24 ?_
    refine j_put (pc := 25) C d_Ma_countOne_25 0 8 wM_o0 rfl (by decide) tw50 pd_I rfl rfl rfl (Nat.le_of_ble_eq_true rfl) (ws' := wM g am k.1 (va_up k.2 4 ((k.2 4) + 1))) wM_p0_8 ?_
    cases hf
    exact j_vret (pc := 28) C d_Ma_countOne_28 ⟨rfl, rfl⟩ (Nat.le_of_ble_eq_true rfl) (Nat.le_of_ble_eq_true rfl)
  · rw [if_neg h1] at hf
    refine j_aload_n (pc := 10) C d_Ma_countOne_10 rfl 0 rfl ?_
    refine j_iconst (pc := 11) C d_Ma_countOne_11 ck_1 ?_
    refine j_put (pc := 12) C d_Ma_countOne_12 0 10 wM_o0 rfl (by decide) tw52 pd_I rfl rfl rfl (Nat.le_of_ble_eq_true rfl) (ws' := wM g am k.1 (va_up k.2 6 1)) wM_p0_10 ?_
    refine j_goto (pc := 15) C d_Ma_countOne_15 (tgt := 28) rfl ?_
    cases hf
    exact j_vret (pc := 28) C d_Ma_countOne_28 ⟨rfl, rfl⟩ (Nat.le_of_ble_eq_true rfl) (Nat.le_of_ble_eq_true rfl)
abbrev rm_Ma_pop : Room := { frames := 0, cells := 0, slots := 0, locals := 0 }
theorem cv_Ma_pop : CV y_Ma_pop b_Ma_pop 1 (some .int) 0 := ⟨⟨tw904, tw2, by decide +kernel⟩, tw903, (sw_ (q := (y_Ma_pop, 11)) (by decide +kernel) (by decide +kernel))⟩
set_option maxHeartbeats 4000000 in
set_option maxRecDepth 100000 in
theorem c_Ma_pop {g : GT} {am : Nat → Nat} {k : DS} {q : Int32 × DS} (hf : f_Ma_pop k = some q) : MI g y_Ma_pop b_Ma_pop 1 (some .int) rm_Ma_pop [.ref (am 0)] (wM g am k.1 k.2) q.1 (wM g am q.2.1 q.2.2) := by
  refine MI.of (by decide) (Nat.le_of_ble_eq_true rfl) (fun 𝒥 C => ?_)
  unfold f_Ma_pop at hf
  change 𝒥 0 0 (wM g am k.1 k.2) [(0, .ref (am 0))] [] 0
  refine j_aload_n (pc := 0) C d_Ma_pop_0 rfl 0 rfl ?_
  refine j_get (pc := 1) C d_Ma_pop_1 0 5 wM_o0 rfl (v := .int (k.2 2)) rfl (by decide) tw47 ?_
  refine j_if_ne (pc := 4) C d_Ma_pop_4 (tgt := 9) rfl (fun h1 => ?_) (fun h1 => ?_)
  · rw [if_neg h1] at hf
    refine j_aload_n (pc := 9) C d_Ma_pop_9 rfl 0 rfl ?_
    refine j_dup (pc := 10) C d_Ma_pop_10 rfl ?_
    refine j_get (pc := 11) C d_Ma_pop_11 0 5 wM_o0 rfl (v := .int (k.2 2)) rfl (by decide) tw47 ?_
    refine j_iconst (pc := 14) C d_Ma_pop_14 ck_1 ?_
    refine j_isub (pc := 15) C d_Ma_pop_15 ?_
    refine j_put (pc := 16) C d_Ma_pop_16 0 5 wM_o0 rfl (by decide) tw47 pd_I rfl rfl rfl (Nat.le_of_ble_eq_true rfl) (ws' := wM g am k.1 (va_up k.2 2 ((k.2 2) - 1))) wM_p0_5 ?_
    refine j_aload_n (pc := 19) C d_Ma_pop_19 rfl 0 rfl ?_
    refine j_get (pc := 20) C d_Ma_pop_20 0 4 wM_o0 rfl (v := .ref (am 3)) rfl (by decide) tw46 ?_
    refine j_aload_n (pc := 23) C d_Ma_pop_23 rfl 0 rfl ?_
    refine j_get (pc := 24) C d_Ma_pop_24 0 5 wM_o0 rfl (v := .int ((k.2 2) - 1)) rfl (by decide) tw47 ?_
    obtain ⟨b2, hf⟩ := og hf
    refine j_iald (pc := 27) C d_Ma_pop_27 3 (inb_in b2) (x := k.1 3 ((k.2 2) - 1).toNatClampNeg) wM_a3 rfl ?_
    cases hf
    exact j_iret (pc := 28) C d_Ma_pop_28 ⟨rfl, rfl⟩ (Nat.le_of_ble_eq_true rfl) (Nat.le_of_ble_eq_true rfl)
  · rw [if_pos h1] at hf
    refine j_iconst (pc := 7) C d_Ma_pop_7 ck_0 ?_
    cases hf
    exact j_iret (pc := 8) C d_Ma_pop_8 ⟨rfl, rfl⟩ (Nat.le_of_ble_eq_true rfl) (Nat.le_of_ble_eq_true rfl)
abbrev rm_Ma_slot : Room := { frames := 0, cells := 0, slots := 0, locals := 0 }
theorem cv_Ma_slot : CV y_Ma_slot b_Ma_slot 2 (some .int) 1 := ⟨⟨tw900, tw2, by decide +kernel⟩, tw899, (sw_ (q := (y_Ma_slot, 11)) (by decide +kernel) (by decide +kernel))⟩
set_option maxHeartbeats 4000000 in
set_option maxRecDepth 100000 in
theorem c_Ma_slot {g : GT} {am : Nat → Nat} {a1 : Int32} {k : DS} {q : Int32 × DS} (hf : f_Ma_slot a1 k = some q) : MI g y_Ma_slot b_Ma_slot 2 (some .int) rm_Ma_slot [.ref (am 0), .int a1] (wM g am k.1 k.2) q.1 (wM g am q.2.1 q.2.2) := by
  refine MI.of (by decide) (Nat.le_of_ble_eq_true rfl) (fun 𝒥 C => ?_)
  unfold f_Ma_slot at hf
  change 𝒥 0 0 (wM g am k.1 k.2) [(0, .ref (am 0)), (1, .int a1)] [] 0
  refine j_aload_n (pc := 0) C d_Ma_slot_0 rfl 0 rfl ?_
  refine j_get (pc := 1) C d_Ma_slot_1 0 7 wM_o0 rfl (v := .int (k.2 3)) rfl (by decide) tw49 ?_
  refine j_iconst (pc := 4) C d_Ma_slot_4 ck_1 ?_
  refine j_isub (pc := 5) C d_Ma_slot_5 ?_
  refine j_sipush (pc := 6) C d_Ma_slot_6 cs_240 ?_
  refine j_imul (pc := 9) C d_Ma_slot_9 ?_
  refine j_iload_n (pc := 10) C d_Ma_slot_10 rfl 1 rfl ?_
  refine j_iadd (pc := 11) C d_Ma_slot_11 ?_
  cases hf
  exact j_iret (pc := 12) C d_Ma_slot_12 ⟨rfl, rfl⟩ (Nat.le_of_ble_eq_true rfl) (Nat.le_of_ble_eq_true rfl)
abbrev rm_Ma_begin : Room := { frames := 1, cells := 0, slots := 0, locals := 21 }
theorem cv_Ma_begin : CV y_Ma_begin b_Ma_begin 4 none 2 := ⟨⟨tw892, tw2, by decide +kernel⟩, tw891, (sw_ (q := (y_Ma_begin, 11)) (by decide +kernel) (by decide +kernel))⟩
set_option maxHeartbeats 4000000 in
set_option maxRecDepth 100000 in
theorem c_Ma_begin {g : GT} {am : Nat → Nat} {ad : Nat → Nat} {a2 : Int32} {k : DS} {d : DS} {q : DS × DS} (hf : f_Ma_begin a2 k d = some q) : MV g y_Ma_begin b_Ma_begin 4 none rm_Ma_begin [.ref (am 0), .ref (ad 8), .int a2] (wM g am k.1 k.2 ++ wD g ad d.1 d.2) (wM g am q.1.1 q.1.2 ++ wD g ad q.2.1 q.2.2) := by
  refine MV.of (by decide) (Nat.le_of_ble_eq_true rfl) (fun 𝒥 C => ?_)
  have L60 : ∀ (n : Nat) (x : Int32 × Int32 × DS × DS), lpN (BMa_begin_60) n x = some q → 𝒥 0 0 (wM g am x.2.2.1.1 x.2.2.1.2 ++ wD g ad x.2.2.2.1 x.2.2.2.2) [(0, .ref (am 0)), (1, .ref (ad 8)), (2, .int x.1), (3, .int x.2.1)] [] 60 := by
    refine lp_ind (fun k60 k60_ih x hf => ?_)
    unfold BMa_begin_60 at hf
    refine j_iload_n (pc := 60) C d_Ma_begin_60 rfl 3 rfl ?_
    refine j_if_lt (pc := 61) C d_Ma_begin_61 (tgt := 95) rfl (fun h6 => ?_) (fun h6 => ?_)
    · rw [if_pos h6] at hf
      refine j_aload_n (pc := 95) C d_Ma_begin_95 rfl 0 rfl ?_
      refine j_aload_n (pc := 96) C d_Ma_begin_96 rfl 1 rfl ?_
      refine j_get (pc := 97) C d_Ma_begin_97 13 2 rfl rfl (v := .ref (ad 11)) rfl (by decide) tw151 ?_
      refine j_iload_n (pc := 100) C d_Ma_begin_100 rfl 2 rfl ?_
      obtain ⟨b7, hf⟩ := og hf
      refine j_iald (pc := 101) C d_Ma_begin_101 16 (inb_in b7) (x := x.2.2.2.1 11 x.1.toNatClampNeg) rfl rfl ?_
      refine j_put (pc := 102) C d_Ma_begin_102 0 9 rfl rfl (by decide) tw51 pd_I rfl rfl rfl (Nat.le_of_ble_eq_true rfl) (ws' := wM g am x.2.2.1.1 (va_up x.2.2.1.2 5 (x.2.2.2.1 11 x.1.toNatClampNeg)) ++ wD g ad x.2.2.2.1 x.2.2.2.2) rfl ?_
      cases hf
      exact j_vret (pc := 105) C d_Ma_begin_105 ⟨rfl, rfl⟩ (Nat.le_of_ble_eq_true rfl) (Nat.le_of_ble_eq_true rfl)
    · rw [if_neg h6] at hf
      refine j_aload_n (pc := 64) C d_Ma_begin_64 rfl 0 rfl ?_
      refine j_get (pc := 65) C d_Ma_begin_65 0 3 rfl rfl (v := .ref (am 2)) rfl (by decide) tw45 ?_
      refine j_aload_n (pc := 68) C d_Ma_begin_68 rfl 0 rfl ?_
      refine j_aload_n (pc := 69) C d_Ma_begin_69 rfl 1 rfl ?_
      refine j_get (pc := 70) C d_Ma_begin_70 13 0 rfl rfl (v := .ref (ad 9)) rfl (by decide) tw146 ?_
      refine j_iload_n (pc := 73) C d_Ma_begin_73 rfl 2 rfl ?_
      obtain ⟨b8, hf⟩ := og hf
      refine j_iald (pc := 74) C d_Ma_begin_74 14 (inb_in b8) (x := x.2.2.2.1 9 x.1.toNatClampNeg) rfl rfl ?_
      refine j_iconst (pc := 75) C d_Ma_begin_75 ck_2 ?_
      refine j_iadd (pc := 76) C d_Ma_begin_76 ?_
      refine j_iconst (pc := 77) C d_Ma_begin_77 ck_2 ?_
      refine j_iload_n (pc := 78) C d_Ma_begin_78 rfl 3 rfl ?_
      refine j_imul (pc := 79) C d_Ma_begin_79 ?_
      refine j_iadd (pc := 80) C d_Ma_begin_80 ?_
      refine j_topi C (fun v9 ev9 => ?_)
      replace hf := ov ev9 hf
      obtain ⟨q10, eq10, hf⟩ := ob hf
      refine j_callVi (pc := 81) C (rest := [.ref (am 2)]) d_Ma_begin_81 (c_Ma_slot (g := g) (am := am) eq10) cv_Ma_slot tw897 0 rfl rfl (cut_blk [wM g am x.2.2.1.1 x.2.2.1.2, wD g ad x.2.2.2.1 x.2.2.2.2] [wM g am q10.2.1 q10.2.2, wD g ad x.2.2.2.1 x.2.2.2.2] [1] [0] rfl rfl rfl rfl rfl rfl rfl) rfl rfl (Nat.le_of_ble_eq_true rfl) (kc2 := 0) (ks2 := 0) (by decide) ?_
      refine j_aload_n (pc := 84) C d_Ma_begin_84 rfl 0 rfl ?_
      obtain ⟨q11, eq11, hf⟩ := ob hf
      refine j_callVi (pc := 85) C (rest := [.int q10.1, .ref (am 2)]) d_Ma_begin_85 (c_Ma_pop (g := g) (am := am) eq11) cv_Ma_pop tw901 0 rfl rfl (cut_blk [wM g am q10.2.1 q10.2.2, wD g ad x.2.2.2.1 x.2.2.2.2] [wM g am q11.2.1 q11.2.2, wD g ad x.2.2.2.1 x.2.2.2.2] [1] [0] rfl rfl rfl rfl rfl rfl rfl) rfl rfl (Nat.le_of_ble_eq_true rfl) (kc2 := 0) (ks2 := 0) (by decide) ?_
      obtain ⟨b12, hf⟩ := og hf
      refine j_iast (pc := 88) C d_Ma_begin_88 2 (inb_in b12) rfl (ws' := wM g am (va_up q11.2.1 2 (upd (q11.2.1 2) q10.1.toNatClampNeg q11.1)) q11.2.2 ++ wD g ad x.2.2.2.1 x.2.2.2.2) rfl ?_
      refine j_iinc (pc := 89) C d_Ma_begin_89 3 rfl (v := x.2.1 - 1) id_m1 [1, 2, 3, 0] (by decide) (lc' := [(0, .ref (am 0)), (1, .ref (ad 8)), (2, .int x.1), (3, .int (x.2.1 - 1))]) rfl ?_
      refine j_goto (pc := 92) C d_Ma_begin_92 (tgt := 60) rfl ?_
      exact k60_ih (x.1, x.2.1 - 1, ((va_up q11.2.1 2 (upd (q11.2.1 2) q10.1.toNatClampNeg q11.1)), q11.2.2), x.2.2.2) hf
  unfold f_Ma_begin at hf
  change 𝒥 0 0 (wM g am k.1 k.2 ++ wD g ad d.1 d.2) [(0, .ref (am 0)), (1, .ref (ad 8)), (2, .int a2)] [] 0
  refine j_aload_n (pc := 0) C d_Ma_begin_0 rfl 0 rfl ?_
  refine j_get (pc := 1) C d_Ma_begin_1 0 7 rfl rfl (v := .int (k.2 3)) rfl (by decide) tw49 ?_
  refine j_bipush (pc := 4) C d_Ma_begin_4 cb_8 ?_
  refine j_icmp_lt (pc := 6) C d_Ma_begin_6 (tgt := 15) rfl (fun h1 => ?_) (fun h1 => ?_)
  · rw [if_pos h1] at hf
    refine j_aload_n (pc := 15) C d_Ma_begin_15 rfl 0 rfl ?_
    obtain ⟨q2, eq2, hf⟩ := ob hf
    refine j_callVv (pc := 16) C (rest := []) d_Ma_begin_16 (c_Ma_countOne (g := g) (am := am) eq2) cv_Ma_countOne tw893 0 rfl rfl (cut_blk [wM g am k.1 k.2, wD g ad d.1 d.2] [wM g am q2.1 q2.2, wD g ad d.1 d.2] [1] [0] rfl rfl rfl rfl rfl rfl rfl) rfl rfl (Nat.le_of_ble_eq_true rfl) (kc2 := 0) (ks2 := 0) (by decide) ?_
    refine j_aload_n (pc := 19) C d_Ma_begin_19 rfl 0 rfl ?_
    refine j_get (pc := 20) C d_Ma_begin_20 0 10 rfl rfl (v := .int (q2.2 6)) rfl (by decide) tw52 ?_
    refine j_iconst (pc := 23) C d_Ma_begin_23 ck_m1 ?_
    refine j_icmp_eq (pc := 24) C d_Ma_begin_24 (tgt := 28) rfl (fun h3 => ?_) (fun h3 => ?_)
    · rw [if_pos h3] at hf
      refine j_aload_n (pc := 28) C d_Ma_begin_28 rfl 0 rfl ?_
      refine j_get (pc := 29) C d_Ma_begin_29 0 6 rfl rfl (v := .ref (am 4)) rfl (by decide) tw48 ?_
      refine j_aload_n (pc := 32) C d_Ma_begin_32 rfl 0 rfl ?_
      refine j_get (pc := 33) C d_Ma_begin_33 0 7 rfl rfl (v := .int (q2.2 3)) rfl (by decide) tw49 ?_
      refine j_aload_n (pc := 36) C d_Ma_begin_36 rfl 0 rfl ?_
      refine j_get (pc := 37) C d_Ma_begin_37 0 9 rfl rfl (v := .int (q2.2 5)) rfl (by decide) tw51 ?_
      obtain ⟨b4, hf⟩ := og hf
      refine j_iast (pc := 40) C d_Ma_begin_40 4 (inb_in b4) rfl (ws' := wM g am (va_up q2.1 4 (upd (q2.1 4) (q2.2 3).toNatClampNeg (q2.2 5))) q2.2 ++ wD g ad d.1 d.2) rfl ?_
      refine j_aload_n (pc := 41) C d_Ma_begin_41 rfl 0 rfl ?_
      refine j_dup (pc := 42) C d_Ma_begin_42 rfl ?_
      refine j_get (pc := 43) C d_Ma_begin_43 0 7 rfl rfl (v := .int (q2.2 3)) rfl (by decide) tw49 ?_
      refine j_iconst (pc := 46) C d_Ma_begin_46 ck_1 ?_
      refine j_iadd (pc := 47) C d_Ma_begin_47 ?_
      refine j_put (pc := 48) C d_Ma_begin_48 0 7 rfl rfl (by decide) tw49 pd_I rfl rfl rfl (Nat.le_of_ble_eq_true rfl) (ws' := wM g am (va_up q2.1 4 (upd (q2.1 4) (q2.2 3).toNatClampNeg (q2.2 5))) (va_up q2.2 3 ((q2.2 3) + 1)) ++ wD g ad d.1 d.2) rfl ?_
      refine j_aload_n (pc := 51) C d_Ma_begin_51 rfl 1 rfl ?_
      refine j_get (pc := 52) C d_Ma_begin_52 13 1 rfl rfl (v := .ref (ad 10)) rfl (by decide) tw148 ?_
      refine j_iload_n (pc := 55) C d_Ma_begin_55 rfl 2 rfl ?_
      obtain ⟨b5, hf⟩ := og hf
      refine j_iald (pc := 56) C d_Ma_begin_56 15 (inb_in b5) (x := d.1 10 a2.toNatClampNeg) rfl rfl ?_
      refine j_iconst (pc := 57) C d_Ma_begin_57 ck_1 ?_
      refine j_isub (pc := 58) C d_Ma_begin_58 ?_
      refine j_istore_n (pc := 59) C d_Ma_begin_59 rfl [1, 2, 3, 0] (by decide) (lc' := [(0, .ref (am 0)), (1, .ref (ad 8)), (2, .int a2), (3, .int ((d.1 10 a2.toNatClampNeg) - 1))]) rfl ?_
      exact L60 100000 (a2, (d.1 10 a2.toNatClampNeg) - 1, ((va_up q2.1 4 (upd (q2.1 4) (q2.2 3).toNatClampNeg (q2.2 5))), (va_up q2.2 3 ((q2.2 3) + 1))), d) hf
    · rw [if_neg h3] at hf
      cases hf
      exact j_vret (pc := 27) C d_Ma_begin_27 ⟨rfl, rfl⟩ (Nat.le_of_ble_eq_true rfl) (Nat.le_of_ble_eq_true rfl)
  · rw [if_neg h1] at hf
    refine j_aload_n (pc := 9) C d_Ma_begin_9 rfl 0 rfl ?_
    refine j_iconst (pc := 10) C d_Ma_begin_10 ck_2 ?_
    refine j_put (pc := 11) C d_Ma_begin_11 0 10 rfl rfl (by decide) tw52 pd_I rfl rfl rfl (Nat.le_of_ble_eq_true rfl) (ws' := wM g am k.1 (va_up k.2 6 2) ++ wD g ad d.1 d.2) rfl ?_
    cases hf
    exact j_vret (pc := 14) C d_Ma_begin_14 ⟨rfl, rfl⟩ (Nat.le_of_ble_eq_true rfl) (Nat.le_of_ble_eq_true rfl)
abbrev rm_Ma_push : Room := { frames := 0, cells := 0, slots := 0, locals := 0 }
theorem cv_Ma_push : CV y_Ma_push b_Ma_push 2 none 1 := ⟨⟨tw888, tw2, by decide +kernel⟩, tw887, (sw_ (q := (y_Ma_push, 11)) (by decide +kernel) (by decide +kernel))⟩
set_option maxHeartbeats 4000000 in
set_option maxRecDepth 100000 in
theorem c_Ma_push {g : GT} {am : Nat → Nat} {a1 : Int32} {k : DS} {q : DS} (hf : f_Ma_push a1 k = some q) : MV g y_Ma_push b_Ma_push 2 none rm_Ma_push [.ref (am 0), .int a1] (wM g am k.1 k.2) (wM g am q.1 q.2) := by
  refine MV.of (by decide) (Nat.le_of_ble_eq_true rfl) (fun 𝒥 C => ?_)
  unfold f_Ma_push at hf
  change 𝒥 0 0 (wM g am k.1 k.2) [(0, .ref (am 0)), (1, .int a1)] [] 0
  refine j_aload_n (pc := 0) C d_Ma_push_0 rfl 0 rfl ?_
  refine j_get (pc := 1) C d_Ma_push_1 0 5 wM_o0 rfl (v := .int (k.2 2)) rfl (by decide) tw47 ?_
  refine j_aload_n (pc := 4) C d_Ma_push_4 rfl 0 rfl ?_
  refine j_get (pc := 5) C d_Ma_push_5 0 4 wM_o0 rfl (v := .ref (am 3)) rfl (by decide) tw46 ?_
  refine j_alen (pc := 8) C d_Ma_push_8 3 rfl (v := 960) rfl ?_
  refine j_icmp_ge (pc := 9) C d_Ma_push_9 (tgt := 32) rfl (fun h1 => ?_) (fun h1 => ?_)
  · rw [if_pos h1] at hf
    cases hf
    exact j_vret (pc := 32) C d_Ma_push_32 ⟨rfl, rfl⟩ (Nat.le_of_ble_eq_true rfl) (Nat.le_of_ble_eq_true rfl)
  · rw [if_neg h1] at hf
    refine j_aload_n (pc := 12) C d_Ma_push_12 rfl 0 rfl ?_
    refine j_get (pc := 13) C d_Ma_push_13 0 4 wM_o0 rfl (v := .ref (am 3)) rfl (by decide) tw46 ?_
    refine j_aload_n (pc := 16) C d_Ma_push_16 rfl 0 rfl ?_
    refine j_get (pc := 17) C d_Ma_push_17 0 5 wM_o0 rfl (v := .int (k.2 2)) rfl (by decide) tw47 ?_
    refine j_iload_n (pc := 20) C d_Ma_push_20 rfl 1 rfl ?_
    obtain ⟨b2, hf⟩ := og hf
    refine j_iast (pc := 21) C d_Ma_push_21 3 (inb_in b2) wM_a3 (ws' := wM g am (va_up k.1 3 (upd (k.1 3) (k.2 2).toNatClampNeg a1)) k.2) wM_s3 ?_
    refine j_aload_n (pc := 22) C d_Ma_push_22 rfl 0 rfl ?_
    refine j_dup (pc := 23) C d_Ma_push_23 rfl ?_
    refine j_get (pc := 24) C d_Ma_push_24 0 5 wM_o0 rfl (v := .int (k.2 2)) rfl (by decide) tw47 ?_
    refine j_iconst (pc := 27) C d_Ma_push_27 ck_1 ?_
    refine j_iadd (pc := 28) C d_Ma_push_28 ?_
    refine j_put (pc := 29) C d_Ma_push_29 0 5 wM_o0 rfl (by decide) tw47 pd_I rfl rfl rfl (Nat.le_of_ble_eq_true rfl) (ws' := wM g am (va_up k.1 3 (upd (k.1 3) (k.2 2).toNatClampNeg a1)) (va_up k.2 2 ((k.2 2) + 1))) wM_p0_5 ?_
    cases hf
    exact j_vret (pc := 32) C d_Ma_push_32 ⟨rfl, rfl⟩ (Nat.le_of_ble_eq_true rfl) (Nat.le_of_ble_eq_true rfl)
abbrev rm_Ma_combine : Room := { frames := 1, cells := 0, slots := 0, locals := 21 }
theorem cv_Ma_combine : CV y_Ma_combine b_Ma_combine 4 none 1 := ⟨⟨tw922, tw2, by decide +kernel⟩, tw921, (sw_ (q := (y_Ma_combine, 11)) (by decide +kernel) (by decide +kernel))⟩
set_option maxHeartbeats 4000000 in
set_option maxRecDepth 100000 in
theorem c_Ma_combine {g : GT} {am : Nat → Nat} {a1 : Int32} {k : DS} {q : DS} (hf : f_Ma_combine a1 k = some q) : MV g y_Ma_combine b_Ma_combine 4 none rm_Ma_combine [.ref (am 0), .int a1] (wM g am k.1 k.2) (wM g am q.1 q.2) := by
  refine MV.of (by decide) (Nat.le_of_ble_eq_true rfl) (fun 𝒥 C => ?_)
  unfold f_Ma_combine at hf
  change 𝒥 0 0 (wM g am k.1 k.2) [(0, .ref (am 0)), (1, .int a1)] [] 0
  refine j_aload_n (pc := 0) C d_Ma_combine_0 rfl 0 rfl ?_
  obtain ⟨q1, eq1, hf⟩ := ob hf
  refine j_callVi (pc := 1) C (rest := []) d_Ma_combine_1 (c_Ma_pop (g := g) (am := am) eq1) cv_Ma_pop tw901 0 rfl rfl cut_same rfl rfl (Nat.le_of_ble_eq_true rfl) (kc2 := 0) (ks2 := 0) (by decide) ?_
  refine j_istore_n (pc := 4) C d_Ma_combine_4 rfl [1, 2, 0] (by decide) (lc' := [(0, .ref (am 0)), (1, .int a1), (2, .int q1.1)]) rfl ?_
  refine j_aload_n (pc := 5) C d_Ma_combine_5 rfl 0 rfl ?_
  obtain ⟨q2, eq2, hf⟩ := ob hf
  refine j_callVi (pc := 6) C (rest := []) d_Ma_combine_6 (c_Ma_pop (g := g) (am := am) eq2) cv_Ma_pop tw901 0 rfl rfl cut_same rfl rfl (Nat.le_of_ble_eq_true rfl) (kc2 := 0) (ks2 := 0) (by decide) ?_
  refine j_istore_n (pc := 9) C d_Ma_combine_9 rfl [1, 2, 3, 0] (by decide) (lc' := [(0, .ref (am 0)), (1, .int a1), (2, .int q1.1), (3, .int q2.1)]) rfl ?_
  refine j_iload_n (pc := 10) C d_Ma_combine_10 rfl 1 rfl ?_
  refine j_case (pc := 11) C d_Ma_combine_11 (z := 42) (off := 49) (tgt := 60) (by decide) rfl (fun h3 => ?_) (fun h3 => ?_)
  · rw [if_pos h3] at hf
    refine j_aload_n (pc := 60) C d_Ma_combine_60 rfl 0 rfl ?_
    refine j_iload_n (pc := 61) C d_Ma_combine_61 rfl 3 rfl ?_
    refine j_iload_n (pc := 62) C d_Ma_combine_62 rfl 2 rfl ?_
    refine j_imul (pc := 63) C d_Ma_combine_63 ?_
    obtain ⟨q4, eq4, hf⟩ := ob hf
    refine j_callVv (pc := 64) C (rest := []) d_Ma_combine_64 (c_Ma_push (g := g) (am := am) eq4) cv_Ma_push tw885 0 rfl rfl cut_same rfl rfl (Nat.le_of_ble_eq_true rfl) (kc2 := 0) (ks2 := 0) (by decide) ?_
    refine j_goto (pc := 67) C d_Ma_combine_67 (tgt := 84) rfl ?_
    cases hf
    exact j_vret (pc := 84) C d_Ma_combine_84 ⟨rfl, rfl⟩ (Nat.le_of_ble_eq_true rfl) (Nat.le_of_ble_eq_true rfl)
  rw [if_neg h3] at hf
  refine j_case (pc := 11) C d_Ma_combine_11 (z := 43) (off := 29) (tgt := 40) (by decide) rfl (fun h5 => ?_) (fun h5 => ?_)
  · rw [if_pos h5] at hf
    refine j_aload_n (pc := 40) C d_Ma_combine_40 rfl 0 rfl ?_
    refine j_iload_n (pc := 41) C d_Ma_combine_41 rfl 3 rfl ?_
    refine j_iload_n (pc := 42) C d_Ma_combine_42 rfl 2 rfl ?_
    refine j_iadd (pc := 43) C d_Ma_combine_43 ?_
    obtain ⟨q6, eq6, hf⟩ := ob hf
    refine j_callVv (pc := 44) C (rest := []) d_Ma_combine_44 (c_Ma_push (g := g) (am := am) eq6) cv_Ma_push tw885 0 rfl rfl cut_same rfl rfl (Nat.le_of_ble_eq_true rfl) (kc2 := 0) (ks2 := 0) (by decide) ?_
    refine j_goto (pc := 47) C d_Ma_combine_47 (tgt := 84) rfl ?_
    cases hf
    exact j_vret (pc := 84) C d_Ma_combine_84 ⟨rfl, rfl⟩ (Nat.le_of_ble_eq_true rfl) (Nat.le_of_ble_eq_true rfl)
  rw [if_neg h5] at hf
  refine j_case (pc := 11) C d_Ma_combine_11 (z := 44) (off := 59) (tgt := 70) (by decide) rfl (fun h7 => ?_) (fun h7 => ?_)
  · rw [if_pos h7] at hf
    refine j_aload_n (pc := 70) C d_Ma_combine_70 rfl 0 rfl ?_
    refine j_iload_n (pc := 71) C d_Ma_combine_71 rfl 3 rfl ?_
    refine j_iload_n (pc := 72) C d_Ma_combine_72 rfl 2 rfl ?_
    refine j_icmp_ge (pc := 73) C d_Ma_combine_73 (tgt := 80) rfl (fun h8 => ?_) (fun h8 => ?_)
    · rw [if_pos h8] at hf
      refine j_iconst (pc := 80) C d_Ma_combine_80 ck_0 ?_
      obtain ⟨q9, eq9, hf⟩ := ob hf
      refine j_callVv (pc := 81) C (rest := []) d_Ma_combine_81 (c_Ma_push (g := g) (am := am) eq9) cv_Ma_push tw885 0 rfl rfl cut_same rfl rfl (Nat.le_of_ble_eq_true rfl) (kc2 := 0) (ks2 := 0) (by decide) ?_
      cases hf
      exact j_vret (pc := 84) C d_Ma_combine_84 ⟨rfl, rfl⟩ (Nat.le_of_ble_eq_true rfl) (Nat.le_of_ble_eq_true rfl)
    · rw [if_neg h8] at hf
      refine j_iconst (pc := 76) C d_Ma_combine_76 ck_1 ?_
      refine j_goto (pc := 77) C d_Ma_combine_77 (tgt := 81) rfl ?_
      obtain ⟨q10, eq10, hf⟩ := ob hf
      refine j_callVv (pc := 81) C (rest := []) d_Ma_combine_81 (c_Ma_push (g := g) (am := am) eq10) cv_Ma_push tw885 0 rfl rfl cut_same rfl rfl (Nat.le_of_ble_eq_true rfl) (kc2 := 0) (ks2 := 0) (by decide) ?_
      cases hf
      exact j_vret (pc := 84) C d_Ma_combine_84 ⟨rfl, rfl⟩ (Nat.le_of_ble_eq_true rfl) (Nat.le_of_ble_eq_true rfl)
  rw [if_neg h7] at hf
  refine j_case (pc := 11) C d_Ma_combine_11 (z := 45) (off := 39) (tgt := 50) (by decide) rfl (fun h11 => ?_) (fun h11 => ?_)
  · rw [if_pos h11] at hf
    refine j_aload_n (pc := 50) C d_Ma_combine_50 rfl 0 rfl ?_
    refine j_iload_n (pc := 51) C d_Ma_combine_51 rfl 3 rfl ?_
    refine j_iload_n (pc := 52) C d_Ma_combine_52 rfl 2 rfl ?_
    refine j_isub (pc := 53) C d_Ma_combine_53 ?_
    obtain ⟨q12, eq12, hf⟩ := ob hf
    refine j_callVv (pc := 54) C (rest := []) d_Ma_combine_54 (c_Ma_push (g := g) (am := am) eq12) cv_Ma_push tw885 0 rfl rfl cut_same rfl rfl (Nat.le_of_ble_eq_true rfl) (kc2 := 0) (ks2 := 0) (by decide) ?_
    refine j_goto (pc := 57) C d_Ma_combine_57 (tgt := 84) rfl ?_
    cases hf
    exact j_vret (pc := 84) C d_Ma_combine_84 ⟨rfl, rfl⟩ (Nat.le_of_ble_eq_true rfl) (Nat.le_of_ble_eq_true rfl)
  rw [if_neg h11] at hf
  have ih3 := ine 42 (by decide) h3
  have ih5 := ine 43 (by decide) h5
  have ih7 := ine 44 (by decide) h7
  have ih11 := ine 45 (by decide) h11
  refine j_dflt C d_Ma_combine_11 (tgt := 70) (by omega) rfl ?_
  refine j_aload_n (pc := 70) C d_Ma_combine_70 rfl 0 rfl ?_
  refine j_iload_n (pc := 71) C d_Ma_combine_71 rfl 3 rfl ?_
  refine j_iload_n (pc := 72) C d_Ma_combine_72 rfl 2 rfl ?_
  refine j_icmp_ge (pc := 73) C d_Ma_combine_73 (tgt := 80) rfl (fun h13 => ?_) (fun h13 => ?_)
  · rw [if_pos h13] at hf
    refine j_iconst (pc := 80) C d_Ma_combine_80 ck_0 ?_
    obtain ⟨q14, eq14, hf⟩ := ob hf
    refine j_callVv (pc := 81) C (rest := []) d_Ma_combine_81 (c_Ma_push (g := g) (am := am) eq14) cv_Ma_push tw885 0 rfl rfl cut_same rfl rfl (Nat.le_of_ble_eq_true rfl) (kc2 := 0) (ks2 := 0) (by decide) ?_
    cases hf
    exact j_vret (pc := 84) C d_Ma_combine_84 ⟨rfl, rfl⟩ (Nat.le_of_ble_eq_true rfl) (Nat.le_of_ble_eq_true rfl)
  · rw [if_neg h13] at hf
    refine j_iconst (pc := 76) C d_Ma_combine_76 ck_1 ?_
    refine j_goto (pc := 77) C d_Ma_combine_77 (tgt := 81) rfl ?_
    obtain ⟨q15, eq15, hf⟩ := ob hf
    refine j_callVv (pc := 81) C (rest := []) d_Ma_combine_81 (c_Ma_push (g := g) (am := am) eq15) cv_Ma_push tw885 0 rfl rfl cut_same rfl rfl (Nat.le_of_ble_eq_true rfl) (kc2 := 0) (ks2 := 0) (by decide) ?_
    cases hf
    exact j_vret (pc := 84) C d_Ma_combine_84 ⟨rfl, rfl⟩ (Nat.le_of_ble_eq_true rfl) (Nat.le_of_ble_eq_true rfl)
abbrev rm_Ma_end : Room := { frames := 1, cells := 0, slots := 0, locals := 21 }
theorem cv_Ma_end : CV y_Ma_end b_Ma_end 2 none 1 := ⟨⟨tw918, tw2, by decide +kernel⟩, tw917, (sw_ (q := (y_Ma_end, 11)) (by decide +kernel) (by decide +kernel))⟩
set_option maxHeartbeats 4000000 in
set_option maxRecDepth 100000 in
theorem c_Ma_end {g : GT} {am : Nat → Nat} {a1 : Int32} {k : DS} {q : DS} (hf : f_Ma_end a1 k = some q) : MV g y_Ma_end b_Ma_end 2 none rm_Ma_end [.ref (am 0), .int a1] (wM g am k.1 k.2) (wM g am q.1 q.2) := by
  refine MV.of (by decide) (Nat.le_of_ble_eq_true rfl) (fun 𝒥 C => ?_)
  unfold f_Ma_end at hf
  change 𝒥 0 0 (wM g am k.1 k.2) [(0, .ref (am 0)), (1, .int a1)] [] 0
  refine j_aload_n (pc := 0) C d_Ma_end_0 rfl 0 rfl ?_
  refine j_dup (pc := 1) C d_Ma_end_1 rfl ?_
  refine j_get (pc := 2) C d_Ma_end_2 0 7 wM_o0 rfl (v := .int (k.2 3)) rfl (by decide) tw49 ?_
  refine j_iconst (pc := 5) C d_Ma_end_5 ck_1 ?_
  refine j_isub (pc := 6) C d_Ma_end_6 ?_
  refine j_put (pc := 7) C d_Ma_end_7 0 7 wM_o0 rfl (by decide) tw49 pd_I rfl rfl rfl (Nat.le_of_ble_eq_true rfl) (ws' := wM g am k.1 (va_up k.2 3 ((k.2 3) - 1))) wM_p0_7 ?_
  refine j_aload_n (pc := 10) C d_Ma_end_10 rfl 0 rfl ?_
  refine j_get (pc := 11) C d_Ma_end_11 0 7 wM_o0 rfl (v := .int ((k.2 3) - 1)) rfl (by decide) tw49 ?_
  refine j_if_ne (pc := 14) C d_Ma_end_14 (tgt := 30) rfl (fun h1 => ?_) (fun h1 => ?_)
  · rw [if_neg h1] at hf
    refine j_aload_n (pc := 30) C d_Ma_end_30 rfl 0 rfl ?_
    refine j_aload_n (pc := 31) C d_Ma_end_31 rfl 0 rfl ?_
    refine j_get (pc := 32) C d_Ma_end_32 0 6 wM_o0 rfl (v := .ref (am 4)) rfl (by decide) tw48 ?_
    refine j_aload_n (pc := 35) C d_Ma_end_35 rfl 0 rfl ?_
    refine j_get (pc := 36) C d_Ma_end_36 0 7 wM_o0 rfl (v := .int ((k.2 3) - 1)) rfl (by decide) tw49 ?_
    obtain ⟨b2, hf⟩ := og hf
    refine j_iald (pc := 39) C d_Ma_end_39 4 (inb_in b2) (x := k.1 4 ((k.2 3) - 1).toNatClampNeg) wM_a4 rfl ?_
    refine j_put (pc := 40) C d_Ma_end_40 0 9 wM_o0 rfl (by decide) tw51 pd_I rfl rfl rfl (Nat.le_of_ble_eq_true rfl) (ws' := wM g am k.1 (va_up (va_up k.2 3 ((k.2 3) - 1)) 5 (k.1 4 ((k.2 3) - 1).toNatClampNeg))) wM_p0_9 ?_
    refine j_aload_n (pc := 43) C d_Ma_end_43 rfl 0 rfl ?_
    refine j_iload_n (pc := 44) C d_Ma_end_44 rfl 1 rfl ?_
    obtain ⟨q3, eq3, hf⟩ := ob hf
    refine j_callVv (pc := 45) C (rest := []) d_Ma_end_45 (c_Ma_push (g := g) (am := am) eq3) cv_Ma_push tw885 0 rfl rfl cut_same rfl rfl (Nat.le_of_ble_eq_true rfl) (kc2 := 0) (ks2 := 0) (by decide) ?_
    cases hf
    exact j_vret (pc := 48) C d_Ma_end_48 ⟨rfl, rfl⟩ (Nat.le_of_ble_eq_true rfl) (Nat.le_of_ble_eq_true rfl)
  · rw [if_pos h1] at hf
    refine j_aload_n (pc := 17) C d_Ma_end_17 rfl 0 rfl ?_
    refine j_iload_n (pc := 18) C d_Ma_end_18 rfl 1 rfl ?_
    refine j_put (pc := 19) C d_Ma_end_19 0 2 wM_o0 rfl (by decide) tw43 pd_I rfl rfl rfl (Nat.le_of_ble_eq_true rfl) (ws' := wM g am k.1 (va_up (va_up k.2 3 ((k.2 3) - 1)) 1 a1)) wM_p0_2 ?_
    refine j_aload_n (pc := 22) C d_Ma_end_22 rfl 0 rfl ?_
    refine j_iconst (pc := 23) C d_Ma_end_23 ck_0 ?_
    refine j_put (pc := 24) C d_Ma_end_24 0 10 wM_o0 rfl (by decide) tw52 pd_I rfl rfl rfl (Nat.le_of_ble_eq_true rfl) (ws' := wM g am k.1 (va_up (va_up (va_up k.2 3 ((k.2 3) - 1)) 1 a1) 6 0)) wM_p0_10 ?_
    refine j_goto (pc := 27) C d_Ma_end_27 (tgt := 48) rfl ?_
    cases hf
    exact j_vret (pc := 48) C d_Ma_end_48 ⟨rfl, rfl⟩ (Nat.le_of_ble_eq_true rfl) (Nat.le_of_ble_eq_true rfl)
abbrev rm_Ma_keep : Room := { frames := 0, cells := 0, slots := 0, locals := 0 }
theorem cv_Ma_keep : CV y_Ma_keep b_Ma_keep 2 none 1 := ⟨⟨tw914, tw2, by decide +kernel⟩, tw913, (sw_ (q := (y_Ma_keep, 11)) (by decide +kernel) (by decide +kernel))⟩
set_option maxHeartbeats 4000000 in
set_option maxRecDepth 100000 in
theorem c_Ma_keep {g : GT} {am : Nat → Nat} {a1 : Int32} {k : DS} {q : DS} (hf : f_Ma_keep a1 k = some q) : MV g y_Ma_keep b_Ma_keep 2 none rm_Ma_keep [.ref (am 0), .int a1] (wM g am k.1 k.2) (wM g am q.1 q.2) := by
  refine MV.of (by decide) (Nat.le_of_ble_eq_true rfl) (fun 𝒥 C => ?_)
  unfold f_Ma_keep at hf
  change 𝒥 0 0 (wM g am k.1 k.2) [(0, .ref (am 0)), (1, .int a1)] [] 0
  refine j_aload_n (pc := 0) C d_Ma_keep_0 rfl 0 rfl ?_
  refine j_get (pc := 1) C d_Ma_keep_1 0 1 wM_o0 rfl (v := .int (k.2 0)) rfl (by decide) tw41 ?_
  refine j_bipush (pc := 4) C d_Ma_keep_4 cb_32 ?_
  refine j_icmp_ge (pc := 6) C d_Ma_keep_6 (tgt := 19) rfl (fun h1 => ?_) (fun h1 => ?_)
  · rw [if_pos h1] at hf
    refine j_aload_n (pc := 19) C d_Ma_keep_19 rfl 0 rfl ?_
    refine j_dup (pc := 20) C d_Ma_keep_20 rfl ?_
    refine j_get (pc := 21) C d_Ma_keep_21 0 1 wM_o0 rfl (v := .int (k.2 0)) rfl (by decide) tw41 ?_
    refine j_iconst (pc := 24) C d_Ma_keep_24 ck_1 ?_
    refine j_iadd (pc := 25) C d_Ma_keep_25 ?_
    refine j_put (pc := 26) C d_Ma_keep_26 0 1 wM_o0 rfl (by decide) tw41 pd_I rfl rfl rfl (Nat.le_of_ble_eq_true rfl) (ws' := wM g am k.1 (va_up k.2 0 ((k.2 0) + 1))) wM_p0_1 ?_
    cases hf
    exact j_vret (pc := 29) C d_Ma_keep_29 ⟨rfl, rfl⟩ (Nat.le_of_ble_eq_true rfl) (Nat.le_of_ble_eq_true rfl)
  · rw [if_neg h1] at hf
    refine j_aload_n (pc := 9) C d_Ma_keep_9 rfl 0 rfl ?_
    refine j_get (pc := 10) C d_Ma_keep_10 0 0 wM_o0 rfl (v := .ref (am 1)) rfl (by decide) tw39 ?_
    refine j_aload_n (pc := 13) C d_Ma_keep_13 rfl 0 rfl ?_
    refine j_get (pc := 14) C d_Ma_keep_14 0 1 wM_o0 rfl (v := .int (k.2 0)) rfl (by decide) tw41 ?_
    refine j_iload_n (pc := 17) C d_Ma_keep_17 rfl 1 rfl ?_
    obtain ⟨b2, hf⟩ := og hf
    refine j_iast (pc := 18) C d_Ma_keep_18 1 (inb_in b2) wM_a1 (ws' := wM g am (va_up k.1 1 (upd (k.1 1) (k.2 0).toNatClampNeg a1)) k.2) wM_s1 ?_
    refine j_aload_n (pc := 19) C d_Ma_keep_19 rfl 0 rfl ?_
    refine j_dup (pc := 20) C d_Ma_keep_20 rfl ?_
    refine j_get (pc := 21) C d_Ma_keep_21 0 1 wM_o0 rfl (v := .int (k.2 0)) rfl (by decide) tw41 ?_
    refine j_iconst (pc := 24) C d_Ma_keep_24 ck_1 ?_
    refine j_iadd (pc := 25) C d_Ma_keep_25 ?_
    refine j_put (pc := 26) C d_Ma_keep_26 0 1 wM_o0 rfl (by decide) tw41 pd_I rfl rfl rfl (Nat.le_of_ble_eq_true rfl) (ws' := wM g am (va_up k.1 1 (upd (k.1 1) (k.2 0).toNatClampNeg a1)) (va_up k.2 0 ((k.2 0) + 1))) wM_p0_1 ?_
    cases hf
    exact j_vret (pc := 29) C d_Ma_keep_29 ⟨rfl, rfl⟩ (Nat.le_of_ble_eq_true rfl) (Nat.le_of_ble_eq_true rfl)
abbrev rm_Ma_advance : Room := { frames := 2, cells := 0, slots := 0, locals := 44 }
theorem cv_Ma_advance : CV y_Ma_advance b_Ma_advance 4 none 3 := ⟨⟨tw909, tw2, by decide +kernel⟩, tw908, (sw_ (q := (y_Ma_advance, 11)) (by decide +kernel) (by decide +kernel))⟩
set_option maxHeartbeats 4000000 in
set_option maxRecDepth 100000 in
theorem c_Ma_advance {g : GT} {am : Nat → Nat} {ad : Nat → Nat} {a2 : Int32} {a3 : Int32} {k : DS} {d : DS} {q : DS × DS} (hf : f_Ma_advance a2 a3 k d = some q) : MV g y_Ma_advance b_Ma_advance 4 none rm_Ma_advance [.ref (am 0), .ref (ad 0), .int a2, .int a3] (wM g am k.1 k.2 ++ wD g ad d.1 d.2) (wM g am q.1.1 q.1.2 ++ wD g ad q.2.1 q.2.2) := by
  refine MV.of (by decide) (Nat.le_of_ble_eq_true rfl) (fun 𝒥 C => ?_)
  unfold f_Ma_advance at hf
  change 𝒥 0 0 (wM g am k.1 k.2 ++ wD g ad d.1 d.2) [(0, .ref (am 0)), (1, .ref (ad 0)), (2, .int a2), (3, .int a3)] [] 0
  refine j_aload_n (pc := 0) C d_Ma_advance_0 rfl 0 rfl ?_
  refine j_dup (pc := 1) C d_Ma_advance_1 rfl ?_
  refine j_get (pc := 2) C d_Ma_advance_2 0 9 rfl rfl (v := .int (k.2 5)) rfl (by decide) tw51 ?_
  refine j_iconst (pc := 5) C d_Ma_advance_5 ck_1 ?_
  refine j_iadd (pc := 6) C d_Ma_advance_6 ?_
  refine j_put (pc := 7) C d_Ma_advance_7 0 9 rfl rfl (by decide) tw51 pd_I rfl rfl rfl (Nat.le_of_ble_eq_true rfl) (ws' := wM g am k.1 (va_up k.2 5 ((k.2 5) + 1)) ++ wD g ad d.1 d.2) rfl ?_
  refine j_iload_n (pc := 10) C d_Ma_advance_10 rfl 2 rfl ?_
  refine j_case (pc := 11) C d_Ma_advance_11 (z := 0) (off := 49) (tgt := 60) (by decide) rfl (fun h1 => ?_) (fun h1 => ?_)
  · rw [if_pos h1] at hf
    refine j_aload_n (pc := 60) C d_Ma_advance_60 rfl 0 rfl ?_
    refine j_iload_n (pc := 61) C d_Ma_advance_61 rfl 3 rfl ?_
    obtain ⟨q2, eq2, hf⟩ := ob hf
    refine j_callVv (pc := 62) C (rest := []) d_Ma_advance_62 (c_Ma_push (g := g) (am := am) eq2) cv_Ma_push tw885 0 rfl rfl (cut_blk [wM g am k.1 (va_up k.2 5 ((k.2 5) + 1)), wD g ad d.1 d.2] [wM g am q2.1 q2.2, wD g ad d.1 d.2] [1] [0] rfl rfl rfl rfl rfl rfl rfl) rfl rfl (Nat.le_of_ble_eq_true rfl) (kc2 := 0) (ks2 := 0) (by decide) ?_
    refine j_goto (pc := 65) C d_Ma_advance_65 (tgt := 202) rfl ?_
    cases hf
    exact j_vret (pc := 202) C d_Ma_advance_202 ⟨rfl, rfl⟩ (Nat.le_of_ble_eq_true rfl) (Nat.le_of_ble_eq_true rfl)
  rw [if_neg h1] at hf
  refine j_case (pc := 11) C d_Ma_advance_11 (z := 1) (off := 57) (tgt := 68) (by decide) rfl (fun h3 => ?_) (fun h3 => ?_)
  · rw [if_pos h3] at hf
    refine j_aload_n (pc := 68) C d_Ma_advance_68 rfl 0 rfl ?_
    refine j_aload_n (pc := 69) C d_Ma_advance_69 rfl 0 rfl ?_
    refine j_get (pc := 70) C d_Ma_advance_70 0 3 rfl rfl (v := .ref (am 2)) rfl (by decide) tw45 ?_
    refine j_aload_n (pc := 73) C d_Ma_advance_73 rfl 0 rfl ?_
    refine j_aload_n (pc := 74) C d_Ma_advance_74 rfl 1 rfl ?_
    refine j_get (pc := 75) C d_Ma_advance_75 5 3 rfl rfl (v := .ref (ad 12)) rfl (by decide) tw278 ?_
    refine j_get (pc := 78) C d_Ma_advance_78 17 1 rfl rfl (v := .ref (ad 14)) rfl (by decide) tw176 ?_
    refine j_iload_n (pc := 81) C d_Ma_advance_81 rfl 3 rfl ?_
    obtain ⟨b4, hf⟩ := og hf
    refine j_iald (pc := 82) C d_Ma_advance_82 19 (inb_in b4) (x := d.1 14 a3.toNatClampNeg) rfl rfl ?_
    obtain ⟨q5, eq5, hf⟩ := ob hf
    refine j_callVi (pc := 83) C (rest := [.ref (am 2), .ref (am 0)]) d_Ma_advance_83 (c_Ma_slot (g := g) (am := am) eq5) cv_Ma_slot tw897 0 rfl rfl (cut_blk [wM g am k.1 (va_up k.2 5 ((k.2 5) + 1)), wD g ad d.1 d.2] [wM g am q5.2.1 q5.2.2, wD g ad d.1 d.2] [1] [0] rfl rfl rfl rfl rfl rfl rfl) rfl rfl (Nat.le_of_ble_eq_true rfl) (kc2 := 0) (ks2 := 0) (by decide) ?_
    obtain ⟨b6, hf⟩ := og hf
    refine j_iald (pc := 86) C d_Ma_advance_86 2 (inb_in b6) (x := q5.2.1 2 q5.1.toNatClampNeg) rfl rfl ?_
    obtain ⟨q7, eq7, hf⟩ := ob hf
    refine j_callVv (pc := 87) C (rest := []) d_Ma_advance_87 (c_Ma_push (g := g) (am := am) eq7) cv_Ma_push tw885 0 rfl rfl (cut_blk [wM g am q5.2.1 q5.2.2, wD g ad d.1 d.2] [wM g am q7.1 q7.2, wD g ad d.1 d.2] [1] [0] rfl rfl rfl rfl rfl rfl rfl) rfl rfl (Nat.le_of_ble_eq_true rfl) (kc2 := 0) (ks2 := 0) (by decide) ?_
    refine j_goto (pc := 90) C d_Ma_advance_90 (tgt := 202) rfl ?_
    cases hf
    exact j_vret (pc := 202) C d_Ma_advance_202 ⟨rfl, rfl⟩ (Nat.le_of_ble_eq_true rfl) (Nat.le_of_ble_eq_true rfl)
  rw [if_neg h3] at hf
  refine j_case (pc := 11) C d_Ma_advance_11 (z := 2) (off := 82) (tgt := 93) (by decide) rfl (fun h8 => ?_) (fun h8 => ?_)
  · rw [if_pos h8] at hf
    refine j_aload_n (pc := 93) C d_Ma_advance_93 rfl 0 rfl ?_
    refine j_get (pc := 94) C d_Ma_advance_94 0 3 rfl rfl (v := .ref (am 2)) rfl (by decide) tw45 ?_
    refine j_aload_n (pc := 97) C d_Ma_advance_97 rfl 0 rfl ?_
    refine j_aload_n (pc := 98) C d_Ma_advance_98 rfl 1 rfl ?_
    refine j_get (pc := 99) C d_Ma_advance_99 5 3 rfl rfl (v := .ref (ad 12)) rfl (by decide) tw278 ?_
    refine j_get (pc := 102) C d_Ma_advance_102 17 1 rfl rfl (v := .ref (ad 14)) rfl (by decide) tw176 ?_
    refine j_iload_n (pc := 105) C d_Ma_advance_105 rfl 3 rfl ?_
    obtain ⟨b9, hf⟩ := og hf
    refine j_iald (pc := 106) C d_Ma_advance_106 19 (inb_in b9) (x := d.1 14 a3.toNatClampNeg) rfl rfl ?_
    obtain ⟨q10, eq10, hf⟩ := ob hf
    refine j_callVi (pc := 107) C (rest := [.ref (am 2)]) d_Ma_advance_107 (c_Ma_slot (g := g) (am := am) eq10) cv_Ma_slot tw897 0 rfl rfl (cut_blk [wM g am k.1 (va_up k.2 5 ((k.2 5) + 1)), wD g ad d.1 d.2] [wM g am q10.2.1 q10.2.2, wD g ad d.1 d.2] [1] [0] rfl rfl rfl rfl rfl rfl rfl) rfl rfl (Nat.le_of_ble_eq_true rfl) (kc2 := 0) (ks2 := 0) (by decide) ?_
    refine j_aload_n (pc := 110) C d_Ma_advance_110 rfl 0 rfl ?_
    obtain ⟨q11, eq11, hf⟩ := ob hf
    refine j_callVi (pc := 111) C (rest := [.int q10.1, .ref (am 2)]) d_Ma_advance_111 (c_Ma_pop (g := g) (am := am) eq11) cv_Ma_pop tw901 0 rfl rfl (cut_blk [wM g am q10.2.1 q10.2.2, wD g ad d.1 d.2] [wM g am q11.2.1 q11.2.2, wD g ad d.1 d.2] [1] [0] rfl rfl rfl rfl rfl rfl rfl) rfl rfl (Nat.le_of_ble_eq_true rfl) (kc2 := 0) (ks2 := 0) (by decide) ?_
    obtain ⟨b12, hf⟩ := og hf
    refine j_iast (pc := 114) C d_Ma_advance_114 2 (inb_in b12) rfl (ws' := wM g am (va_up q11.2.1 2 (upd (q11.2.1 2) q10.1.toNatClampNeg q11.1)) q11.2.2 ++ wD g ad d.1 d.2) rfl ?_
    refine j_goto (pc := 115) C d_Ma_advance_115 (tgt := 202) rfl ?_
    cases hf
    exact j_vret (pc := 202) C d_Ma_advance_202 ⟨rfl, rfl⟩ (Nat.le_of_ble_eq_true rfl) (Nat.le_of_ble_eq_true rfl)
  rw [if_neg h8] at hf
  refine j_case (pc := 11) C d_Ma_advance_11 (z := 3) (off := 107) (tgt := 118) (by decide) rfl (fun h13 => ?_) (fun h13 => ?_)
  · rw [if_pos h13] at hf
    refine j_aload_n (pc := 118) C d_Ma_advance_118 rfl 0 rfl ?_
    refine j_aload_n (pc := 119) C d_Ma_advance_119 rfl 1 rfl ?_
    refine j_get (pc := 120) C d_Ma_advance_120 5 2 rfl rfl (v := .ref (ad 8)) rfl (by decide) tw275 ?_
    refine j_aload_n (pc := 123) C d_Ma_advance_123 rfl 1 rfl ?_
    refine j_get (pc := 124) C d_Ma_advance_124 5 2 rfl rfl (v := .ref (ad 8)) rfl (by decide) tw275 ?_
    refine j_aload_n (pc := 127) C d_Ma_advance_127 rfl 1 rfl ?_
    refine j_get (pc := 128) C d_Ma_advance_128 5 1 rfl rfl (v := .ref (ad 3)) rfl (by decide) tw272 ?_
    refine j_get (pc := 131) C d_Ma_advance_131 8 1 rfl rfl (v := .ref (ad 5)) rfl (by decide) tw114 ?_
    refine j_iload_n (pc := 134) C d_Ma_advance_134 rfl 3 rfl ?_
    obtain ⟨b14, hf⟩ := og hf
    refine j_iald (pc := 135) C d_Ma_advance_135 10 (inb_in b14) (x := d.1 5 a3.toNatClampNeg) rfl rfl ?_
    obtain ⟨q15, eq15, hf⟩ := ob hf
    refine j_callVi (pc := 136) C (rest := [.ref (ad 8), .ref (am 0)]) d_Ma_advance_136 (c_Fn_find (g := g) (ad := ad) eq15) cv_Fn_find tw910 13 rfl rfl (cut_blk [wM g am k.1 (va_up k.2 5 ((k.2 5) + 1)), wD g ad d.1 d.2] [wM g am k.1 (va_up k.2 5 ((k.2 5) + 1)), wD g ad q15.2.1 q15.2.2] [0] [1] rfl rfl rfl rfl rfl rfl rfl) rfl rfl (Nat.le_of_ble_eq_true rfl) (kc2 := 0) (ks2 := 0) (by decide) ?_
    obtain ⟨q16, eq16, hf⟩ := ob hf
    refine j_callVv (pc := 139) C (rest := []) d_Ma_advance_139 (c_Ma_begin (g := g) (am := am) (ad := ad) eq16) cv_Ma_begin tw889 0 rfl rfl cut_same rfl rfl (Nat.le_of_ble_eq_true rfl) (kc2 := 0) (ks2 := 0) (by decide) ?_
    refine j_goto (pc := 142) C d_Ma_advance_142 (tgt := 202) rfl ?_
    cases hf
    exact j_vret (pc := 202) C d_Ma_advance_202 ⟨rfl, rfl⟩ (Nat.le_of_ble_eq_true rfl) (Nat.le_of_ble_eq_true rfl)
  rw [if_neg h13] at hf
  refine j_case (pc := 11) C d_Ma_advance_11 (z := 4) (off := 134) (tgt := 145) (by decide) rfl (fun h17 => ?_) (fun h17 => ?_)
  · rw [if_pos h17] at hf
    refine j_aload_n (pc := 145) C d_Ma_advance_145 rfl 0 rfl ?_
    obtain ⟨q18, eq18, hf⟩ := ob hf
    refine j_callVi (pc := 146) C (rest := []) d_Ma_advance_146 (c_Ma_pop (g := g) (am := am) eq18) cv_Ma_pop tw901 0 rfl rfl (cut_blk [wM g am k.1 (va_up k.2 5 ((k.2 5) + 1)), wD g ad d.1 d.2] [wM g am q18.2.1 q18.2.2, wD g ad d.1 d.2] [1] [0] rfl rfl rfl rfl rfl rfl rfl) rfl rfl (Nat.le_of_ble_eq_true rfl) (kc2 := 0) (ks2 := 0) (by decide) ?_
    refine j_if_ne (pc := 149) C d_Ma_advance_149 (tgt := 202) rfl (fun h19 => ?_) (fun h19 => ?_)
    · rw [if_neg h19] at hf
      cases hf
      exact j_vret (pc := 202) C d_Ma_advance_202 ⟨rfl, rfl⟩ (Nat.le_of_ble_eq_true rfl) (Nat.le_of_ble_eq_true rfl)
    · rw [if_pos h19] at hf
      refine j_aload_n (pc := 152) C d_Ma_advance_152 rfl 0 rfl ?_
      refine j_iload_n (pc := 153) C d_Ma_advance_153 rfl 3 rfl ?_
      refine j_put (pc := 154) C d_Ma_advance_154 0 9 rfl rfl (by decide) tw51 pd_I rfl rfl rfl (Nat.le_of_ble_eq_true rfl) (ws' := wM g am q18.2.1 (va_up q18.2.2 5 a3) ++ wD g ad d.1 d.2) rfl ?_
      refine j_goto (pc := 157) C d_Ma_advance_157 (tgt := 202) rfl ?_
      cases hf
      exact j_vret (pc := 202) C d_Ma_advance_202 ⟨rfl, rfl⟩ (Nat.le_of_ble_eq_true rfl) (Nat.le_of_ble_eq_true rfl)
  rw [if_neg h17] at hf
  refine j_case (pc := 11) C d_Ma_advance_11 (z := 5) (off := 149) (tgt := 160) (by decide) rfl (fun h20 => ?_) (fun h20 => ?_)
  · rw [if_pos h20] at hf
    refine j_aload_n (pc := 160) C d_Ma_advance_160 rfl 0 rfl ?_
    obtain ⟨q21, eq21, hf⟩ := ob hf
    refine j_callVv (pc := 161) C (rest := []) d_Ma_advance_161 (c_Ma_countOne (g := g) (am := am) eq21) cv_Ma_countOne tw893 0 rfl rfl (cut_blk [wM g am k.1 (va_up k.2 5 ((k.2 5) + 1)), wD g ad d.1 d.2] [wM g am q21.1 q21.2, wD g ad d.1 d.2] [1] [0] rfl rfl rfl rfl rfl rfl rfl) rfl rfl (Nat.le_of_ble_eq_true rfl) (kc2 := 0) (ks2 := 0) (by decide) ?_
    refine j_goto (pc := 164) C d_Ma_advance_164 (tgt := 202) rfl ?_
    cases hf
    exact j_vret (pc := 202) C d_Ma_advance_202 ⟨rfl, rfl⟩ (Nat.le_of_ble_eq_true rfl) (Nat.le_of_ble_eq_true rfl)
  rw [if_neg h20] at hf
  refine j_case (pc := 11) C d_Ma_advance_11 (z := 6) (off := 156) (tgt := 167) (by decide) rfl (fun h22 => ?_) (fun h22 => ?_)
  · rw [if_pos h22] at hf
    refine j_aload_n (pc := 167) C d_Ma_advance_167 rfl 0 rfl ?_
    refine j_iload_n (pc := 168) C d_Ma_advance_168 rfl 3 rfl ?_
    refine j_put (pc := 169) C d_Ma_advance_169 0 9 rfl rfl (by decide) tw51 pd_I rfl rfl rfl (Nat.le_of_ble_eq_true rfl) (ws' := wM g am k.1 (va_up (va_up k.2 5 ((k.2 5) + 1)) 5 a3) ++ wD g ad d.1 d.2) rfl ?_
    refine j_goto (pc := 172) C d_Ma_advance_172 (tgt := 202) rfl ?_
    cases hf
    exact j_vret (pc := 202) C d_Ma_advance_202 ⟨rfl, rfl⟩ (Nat.le_of_ble_eq_true rfl) (Nat.le_of_ble_eq_true rfl)
  rw [if_neg h22] at hf
  refine j_case (pc := 11) C d_Ma_advance_11 (z := 7) (off := 164) (tgt := 175) (by decide) rfl (fun h23 => ?_) (fun h23 => ?_)
  · rw [if_pos h23] at hf
    refine j_aload_n (pc := 175) C d_Ma_advance_175 rfl 0 rfl ?_
    refine j_aload_n (pc := 176) C d_Ma_advance_176 rfl 0 rfl ?_
    obtain ⟨q24, eq24, hf⟩ := ob hf
    refine j_callVi (pc := 177) C (rest := [.ref (am 0)]) d_Ma_advance_177 (c_Ma_pop (g := g) (am := am) eq24) cv_Ma_pop tw901 0 rfl rfl (cut_blk [wM g am k.1 (va_up k.2 5 ((k.2 5) + 1)), wD g ad d.1 d.2] [wM g am q24.2.1 q24.2.2, wD g ad d.1 d.2] [1] [0] rfl rfl rfl rfl rfl rfl rfl) rfl rfl (Nat.le_of_ble_eq_true rfl) (kc2 := 0) (ks2 := 0) (by decide) ?_
    obtain ⟨q25, eq25, hf⟩ := ob hf
    refine j_callVv (pc := 180) C (rest := []) d_Ma_advance_180 (c_Ma_keep (g := g) (am := am) eq25) cv_Ma_keep tw911 0 rfl rfl (cut_blk [wM g am q24.2.1 q24.2.2, wD g ad d.1 d.2] [wM g am q25.1 q25.2, wD g ad d.1 d.2] [1] [0] rfl rfl rfl rfl rfl rfl rfl) rfl rfl (Nat.le_of_ble_eq_true rfl) (kc2 := 0) (ks2 := 0) (by decide) ?_
    refine j_goto (pc := 183) C d_Ma_advance_183 (tgt := 202) rfl ?_
    cases hf
    exact j_vret (pc := 202) C d_Ma_advance_202 ⟨rfl, rfl⟩ (Nat.le_of_ble_eq_true rfl) (Nat.le_of_ble_eq_true rfl)
  rw [if_neg h23] at hf
  refine j_case (pc := 11) C d_Ma_advance_11 (z := 8) (off := 175) (tgt := 186) (by decide) rfl (fun h26 => ?_) (fun h26 => ?_)
  · rw [if_pos h26] at hf
    refine j_aload_n (pc := 186) C d_Ma_advance_186 rfl 0 rfl ?_
    refine j_aload_n (pc := 187) C d_Ma_advance_187 rfl 0 rfl ?_
    obtain ⟨q27, eq27, hf⟩ := ob hf
    refine j_callVi (pc := 188) C (rest := [.ref (am 0)]) d_Ma_advance_188 (c_Ma_pop (g := g) (am := am) eq27) cv_Ma_pop tw901 0 rfl rfl (cut_blk [wM g am k.1 (va_up k.2 5 ((k.2 5) + 1)), wD g ad d.1 d.2] [wM g am q27.2.1 q27.2.2, wD g ad d.1 d.2] [1] [0] rfl rfl rfl rfl rfl rfl rfl) rfl rfl (Nat.le_of_ble_eq_true rfl) (kc2 := 0) (ks2 := 0) (by decide) ?_
    obtain ⟨q28, eq28, hf⟩ := ob hf
    refine j_callVv (pc := 191) C (rest := []) d_Ma_advance_191 (c_Ma_end (g := g) (am := am) eq28) cv_Ma_end tw915 0 rfl rfl (cut_blk [wM g am q27.2.1 q27.2.2, wD g ad d.1 d.2] [wM g am q28.1 q28.2, wD g ad d.1 d.2] [1] [0] rfl rfl rfl rfl rfl rfl rfl) rfl rfl (Nat.le_of_ble_eq_true rfl) (kc2 := 0) (ks2 := 0) (by decide) ?_
    refine j_goto (pc := 194) C d_Ma_advance_194 (tgt := 202) rfl ?_
    cases hf
    exact j_vret (pc := 202) C d_Ma_advance_202 ⟨rfl, rfl⟩ (Nat.le_of_ble_eq_true rfl) (Nat.le_of_ble_eq_true rfl)
  rw [if_neg h26] at hf
  have ih1 := ine 0 (by decide) h1
  have ih3 := ine 1 (by decide) h3
  have ih8 := ine 2 (by decide) h8
  have ih13 := ine 3 (by decide) h13
  have ih17 := ine 4 (by decide) h17
  have ih20 := ine 5 (by decide) h20
  have ih22 := ine 6 (by decide) h22
  have ih23 := ine 7 (by decide) h23
  have ih26 := ine 8 (by decide) h26
  refine j_dflt C d_Ma_advance_11 (tgt := 197) (by omega) rfl ?_
  refine j_aload_n (pc := 197) C d_Ma_advance_197 rfl 0 rfl ?_
  refine j_iload_n (pc := 198) C d_Ma_advance_198 rfl 2 rfl ?_
  obtain ⟨q29, eq29, hf⟩ := ob hf
  refine j_callVv (pc := 199) C (rest := []) d_Ma_advance_199 (c_Ma_combine (g := g) (am := am) eq29) cv_Ma_combine tw919 0 rfl rfl (cut_blk [wM g am k.1 (va_up k.2 5 ((k.2 5) + 1)), wD g ad d.1 d.2] [wM g am q29.1 q29.2, wD g ad d.1 d.2] [1] [0] rfl rfl rfl rfl rfl rfl rfl) rfl rfl (Nat.le_of_ble_eq_true rfl) (kc2 := 0) (ks2 := 0) (by decide) ?_
  cases hf
  exact j_vret (pc := 202) C d_Ma_advance_202 ⟨rfl, rfl⟩ (Nat.le_of_ble_eq_true rfl) (Nat.le_of_ble_eq_true rfl)
