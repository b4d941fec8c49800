abbrev rm_Mo_functionNamed : Room := { frames := 0, cells := 0, slots := 0, locals := 0 }
theorem cv_Mo_functionNamed : CV y_Mo_functionNamed b_Mo_functionNamed 4 (some .int) 1 := ⟨⟨tw1253, tw10, by decide +kernel⟩, tw1252, (sw_ (q := (y_Mo_functionNamed, 54)) (by decide +kernel) (by decide +kernel))⟩
set_option maxHeartbeats 4000000 in
set_option maxRecDepth 100000 in
theorem c_Mo_functionNamed {g : GT} {ar : Nat → Nat} {a1 : Int64} {r : RS} {q : Int32 × RS} (hf : f_Mo_functionNamed a1 r = some q) : MI g y_Mo_functionNamed b_Mo_functionNamed 4 (some .int) rm_Mo_functionNamed [.ref (ar 0), .long a1] (wR g ar r.1 r.2.1 r.2.2) q.1 (wR g ar q.2.1 q.2.2.1 q.2.2.2) := by
  refine MI.of (by decide) (Nat.le_of_ble_eq_true rfl) (fun 𝒥 C => ?_)
  have L2 : ∀ (n : Nat) (x : Int64 × Int32 × RS), lpN (BMo_functionNamed_2) n x = some q → 𝒥 0 0 (wR g ar x.2.2.1 x.2.2.2.1 x.2.2.2.2) [(0, .ref (ar 0)), (1, .long x.1), (3, .int x.2.1)] [] 2 := by
    refine lp_ind (fun k2 k2_ih x hf => ?_)
    unfold BMo_functionNamed_2 at hf
    refine j_iload_n (pc := 2) C d_Mo_functionNamed_2 rfl 2 rfl ?_
    refine j_aload_n (pc := 3) C d_Mo_functionNamed_3 rfl 0 rfl ?_
    refine j_get (pc := 4) C d_Mo_functionNamed_4 0 7 wR_o0 rfl (v := .int (x.2.2.2.1 3)) rfl (by decide) tw949 ?_
    refine j_icmp_ge (pc := 7) C d_Mo_functionNamed_7 (tgt := 39) rfl (fun h1 => ?_) (fun h1 => ?_)
    · rw [if_pos h1] at hf
      refine j_iconst (pc := 39) C d_Mo_functionNamed_39 ck_m1 ?_
      cases hf
      exact j_iret (pc := 40) C d_Mo_functionNamed_40 ⟨rfl, rfl⟩ (Nat.le_of_ble_eq_true rfl) (Nat.le_of_ble_eq_true rfl)
    · rw [if_neg h1] at hf
      refine j_aload_n (pc := 10) C d_Mo_functionNamed_10 rfl 0 rfl ?_
      refine j_get (pc := 11) C d_Mo_functionNamed_11 0 12 wR_o0 rfl (v := .ref (ar 9)) rfl (by decide) tw954 ?_
      refine j_iload_n (pc := 14) C d_Mo_functionNamed_14 rfl 2 rfl ?_
      obtain ⟨b2, hf⟩ := og hf
      refine j_iald (pc := 15) C d_Mo_functionNamed_15 9 (inb_in b2) (x := x.2.2.1 9 x.2.1.toNatClampNeg) wR_a9 rfl ?_
      refine j_iconst (pc := 16) C d_Mo_functionNamed_16 ck_1 ?_
      refine j_icmp_ne (pc := 17) C d_Mo_functionNamed_17 (tgt := 33) rfl (fun h3 => ?_) (fun h3 => ?_)
      · rw [if_neg h3] at hf
        refine j_iinc (pc := 33) C d_Mo_functionNamed_33 2 rfl (v := x.2.1 + 1) (iv ci_1) [1, 2, 0] (by decide) (lc' := [(0, .ref (ar 0)), (1, .long x.1), (3, .int (x.2.1 + 1))]) rfl ?_
        refine j_goto (pc := 36) C d_Mo_functionNamed_36 (tgt := 2) rfl ?_
        exact k2_ih (x.1, x.2.1 + 1, x.2.2) hf
      · rw [if_pos h3] at hf
        refine j_aload_n (pc := 20) C d_Mo_functionNamed_20 rfl 0 rfl ?_
        refine j_get (pc := 21) C d_Mo_functionNamed_21 0 11 wR_o0 rfl (v := .ref (ar 8)) rfl (by decide) tw953 ?_
        refine j_iload_n (pc := 24) C d_Mo_functionNamed_24 rfl 2 rfl ?_
        obtain ⟨b4, hf⟩ := og hf
        refine j_lald (pc := 25) C d_Mo_functionNamed_25 8 (inb_in b4) (x := x.2.2.2.2 8 x.2.1.toNatClampNeg) wR_a8 rfl ?_
        refine j_lload_n (pc := 26) C d_Mo_functionNamed_26 rfl 1 rfl ?_
        refine j_lcmp (pc := 27) C d_Mo_functionNamed_27 ?_
        refine j_topi C (fun v5 ev5 => ?_)
        replace hf := ov ev5 hf
        refine j_if_ne (pc := 28) C d_Mo_functionNamed_28 (tgt := 33) rfl (fun h6 => ?_) (fun h6 => ?_)
        · rw [if_neg h6] at hf
          refine j_iinc (pc := 33) C d_Mo_functionNamed_33 2 rfl (v := x.2.1 + 1) (iv ci_1) [1, 2, 0] (by decide) (lc' := [(0, .ref (ar 0)), (1, .long x.1), (3, .int (x.2.1 + 1))]) rfl ?_
          refine j_goto (pc := 36) C d_Mo_functionNamed_36 (tgt := 2) rfl ?_
          exact k2_ih (x.1, x.2.1 + 1, x.2.2) hf
        · rw [if_pos h6] at hf
          refine j_iload_n (pc := 31) C d_Mo_functionNamed_31 rfl 2 rfl ?_
          cases hf
          exact j_iret (pc := 32) C d_Mo_functionNamed_32 ⟨rfl, rfl⟩ (Nat.le_of_ble_eq_true rfl) (Nat.le_of_ble_eq_true rfl)
  unfold f_Mo_functionNamed at hf
  change 𝒥 0 0 (wR g ar r.1 r.2.1 r.2.2) [(0, .ref (ar 0)), (1, .long a1)] [] 0
  refine j_iconst (pc := 0) C d_Mo_functionNamed_0 ck_0 ?_
  refine j_istore_n (pc := 1) C d_Mo_functionNamed_1 rfl [1, 2, 0] (by decide) (lc' := [(0, .ref (ar 0)), (1, .long a1), (3, .int 0)]) rfl ?_
  exact L2 100000 (a1, 0, r) hf
abbrev rm_Mo_partOf : Room := { frames := 0, cells := 0, slots := 0, locals := 0 }
theorem cv_Mo_partOf : CV y_Mo_partOf b_Mo_partOf 3 (some .int) 1 := ⟨⟨tw1257, tw10, by decide +kernel⟩, tw1256, (sw_ (q := (y_Mo_partOf, 54)) (by decide +kernel) (by decide +kernel))⟩
set_option maxHeartbeats 4000000 in
set_option maxRecDepth 100000 in
theorem c_Mo_partOf {g : GT} {ar : Nat → Nat} {a1 : Int32} {r : RS} {q : Int32 × RS} (hf : f_Mo_partOf a1 r = some q) : MI g y_Mo_partOf b_Mo_partOf 3 (some .int) rm_Mo_partOf [.ref (ar 0), .int a1] (wR g ar r.1 r.2.1 r.2.2) q.1 (wR g ar q.2.1 q.2.2.1 q.2.2.2) := by
  refine MI.of (by decide) (Nat.le_of_ble_eq_true rfl) (fun 𝒥 C => ?_)
  have L2 : ∀ (n : Nat) (x : Int32 × Int32 × RS), lpN (BMo_partOf_2) n x = some q → 𝒥 0 0 (wR g ar x.2.2.1 x.2.2.2.1 x.2.2.2.2) [(0, .ref (ar 0)), (1, .int x.1), (2, .int x.2.1)] [] 2 := by
    refine lp_ind (fun k2 k2_ih x hf => ?_)
    unfold BMo_partOf_2 at hf
    refine j_iload_n (pc := 2) C d_Mo_partOf_2 rfl 2 rfl ?_
    refine j_aload_n (pc := 3) C d_Mo_partOf_3 rfl 0 rfl ?_
    refine j_get (pc := 4) C d_Mo_partOf_4 0 19 wR_o0 rfl (v := .int (x.2.2.2.1 4)) rfl (by decide) tw961 ?_
    refine j_icmp_ge (pc := 7) C d_Mo_partOf_7 (tgt := 26) rfl (fun h1 => ?_) (fun h1 => ?_)
    · rw [if_pos h1] at hf
      refine j_iload_n (pc := 26) C d_Mo_partOf_26 rfl 2 rfl ?_
      cases hf
      exact j_iret (pc := 27) C d_Mo_partOf_27 ⟨rfl, rfl⟩ (Nat.le_of_ble_eq_true rfl) (Nat.le_of_ble_eq_true rfl)
    · rw [if_neg h1] at hf
      refine j_aload_n (pc := 10) C d_Mo_partOf_10 rfl 0 rfl ?_
      refine j_get (pc := 11) C d_Mo_partOf_11 0 21 wR_o0 rfl (v := .ref (ar 17)) rfl (by decide) tw963 ?_
      refine j_iload_n (pc := 14) C d_Mo_partOf_14 rfl 2 rfl ?_
      obtain ⟨b2, hf⟩ := og hf
      refine j_iald (pc := 15) C d_Mo_partOf_15 17 (inb_in b2) (x := x.2.2.1 17 x.2.1.toNatClampNeg) wR_a17 rfl ?_
      refine j_iload_n (pc := 16) C d_Mo_partOf_16 rfl 1 rfl ?_
      refine j_icmp_gt (pc := 17) C d_Mo_partOf_17 (tgt := 26) rfl (fun h3 => ?_) (fun h3 => ?_)
      · rw [if_pos h3] at hf
        refine j_iload_n (pc := 26) C d_Mo_partOf_26 rfl 2 rfl ?_
        cases hf
        exact j_iret (pc := 27) C d_Mo_partOf_27 ⟨rfl, rfl⟩ (Nat.le_of_ble_eq_true rfl) (Nat.le_of_ble_eq_true rfl)
      · rw [if_neg h3] at hf
        refine j_iinc (pc := 20) C d_Mo_partOf_20 2 rfl (v := x.2.1 + 1) (iv ci_1) [1, 2, 0] (by decide) (lc' := [(0, .ref (ar 0)), (1, .int x.1), (2, .int (x.2.1 + 1))]) rfl ?_
        refine j_goto (pc := 23) C d_Mo_partOf_23 (tgt := 2) rfl ?_
        exact k2_ih (x.1, x.2.1 + 1, x.2.2) hf
  unfold f_Mo_partOf at hf
  change 𝒥 0 0 (wR g ar r.1 r.2.1 r.2.2) [(0, .ref (ar 0)), (1, .int a1)] [] 0
  refine j_iconst (pc := 0) C d_Mo_partOf_0 ck_0 ?_
  refine j_istore_n (pc := 1) C d_Mo_partOf_1 rfl [1, 2, 0] (by decide) (lc' := [(0, .ref (ar 0)), (1, .int a1), (2, .int 0)]) rfl ?_
  exact L2 100000 (a1, 0, r) hf
abbrev rm_Mo_bind : Room := { frames := 1, cells := 0, slots := 0, locals := 26 }
theorem cv_Mo_bind : CV y_Mo_bind b_Mo_bind 2 none 0 := ⟨⟨tw1241, tw10, by decide +kernel⟩, tw1240, (sw_ (q := (y_Mo_bind, 54)) (by decide +kernel) (by decide +kernel))⟩
set_option maxHeartbeats 4000000 in
set_option maxRecDepth 100000 in
theorem c_Mo_bind {g : GT} {ar : Nat → Nat} {r : RS} {q : RS} (hf : f_Mo_bind r = some q) : MV g y_Mo_bind b_Mo_bind 2 none rm_Mo_bind [.ref (ar 0)] (wR g ar r.1 r.2.1 r.2.2) (wR g ar q.1 q.2.1 q.2.2) := by
  refine MV.of (by decide) (Nat.le_of_ble_eq_true rfl) (fun 𝒥 C => ?_)
  have L82 : ∀ (n : Nat) (x : Int32 × RS), lpN (BMo_bind_82) n x = some q → 𝒥 0 0 (wR g ar x.2.1 x.2.2.1 x.2.2.2) [(0, .ref (ar 0)), (1, .int x.1)] [] 82 := by
    refine lp_ind (fun k82 k82_ih x hf => ?_)
    unfold BMo_bind_82 at hf
    refine j_iload_n (pc := 82) C d_Mo_bind_82 rfl 1 rfl ?_
    refine j_aload_n (pc := 83) C d_Mo_bind_83 rfl 0 rfl ?_
    refine j_get (pc := 84) C d_Mo_bind_84 0 7 wR_o0 rfl (v := .int (x.2.2.1 3)) rfl (by decide) tw949 ?_
    refine j_icmp_ge (pc := 87) C d_Mo_bind_87 (tgt := 241) rfl (fun h2 => ?_) (fun h2 => ?_)
    · rw [if_pos h2] at hf
      cases hf
      exact j_vret (pc := 241) C d_Mo_bind_241 ⟨rfl, rfl⟩ (Nat.le_of_ble_eq_true rfl) (Nat.le_of_ble_eq_true rfl)
    · rw [if_neg h2] at hf
      refine j_aload_n (pc := 90) C d_Mo_bind_90 rfl 0 rfl ?_
      refine j_get (pc := 91) C d_Mo_bind_91 0 12 wR_o0 rfl (v := .ref (ar 9)) rfl (by decide) tw954 ?_
      refine j_iload_n (pc := 94) C d_Mo_bind_94 rfl 1 rfl ?_
      obtain ⟨b3, hf⟩ := og hf
      refine j_iald (pc := 95) C d_Mo_bind_95 9 (inb_in b3) (x := x.2.1 9 x.1.toNatClampNeg) wR_a9 rfl ?_
      refine j_iconst (pc := 96) C d_Mo_bind_96 ck_4 ?_
      refine j_icmp_eq (pc := 97) C d_Mo_bind_97 (tgt := 110) rfl (fun h4 => ?_) (fun h4 => ?_)
      · rw [if_pos h4] at hf
        refine j_aload_n (pc := 110) C d_Mo_bind_110 rfl 0 rfl ?_
        refine j_get (pc := 111) C d_Mo_bind_111 0 13 wR_o0 rfl (v := .ref (ar 10)) rfl (by decide) tw955 ?_
        refine j_iload_n (pc := 114) C d_Mo_bind_114 rfl 1 rfl ?_
        refine j_aload_n (pc := 115) C d_Mo_bind_115 rfl 0 rfl ?_
        refine j_aload_n (pc := 116) C d_Mo_bind_116 rfl 0 rfl ?_
        refine j_get (pc := 117) C d_Mo_bind_117 0 11 wR_o0 rfl (v := .ref (ar 8)) rfl (by decide) tw953 ?_
        refine j_iload_n (pc := 120) C d_Mo_bind_120 rfl 1 rfl ?_
        obtain ⟨b5, hf⟩ := og hf
        refine j_lald (pc := 121) C d_Mo_bind_121 8 (inb_in b5) (x := x.2.2.2 8 x.1.toNatClampNeg) wR_a8 rfl ?_
        refine j_iload_n (pc := 122) C d_Mo_bind_122 rfl 1 rfl ?_
        obtain ⟨q6, eq6, hf⟩ := ob hf
        refine j_callVi (pc := 123) C (rest := [.int x.1, .ref (ar 10)]) d_Mo_bind_123 (c_Mo_meaning (g := g) (ar := ar) eq6) cv_Mo_meaning tw1246 0 rfl rfl cut_same rfl rfl (Nat.le_of_ble_eq_true rfl) (kc2 := 0) (ks2 := 0) (by decide) ?_
        obtain ⟨b7, hf⟩ := og hf
        refine j_iast (pc := 126) C d_Mo_bind_126 10 (inb_in b7) wR_a10 (ws' := wR g ar (va_up q6.2.1 10 (upd (q6.2.1 10) x.1.toNatClampNeg q6.1)) q6.2.2.1 q6.2.2.2) wR_s10 ?_
        refine j_aload_n (pc := 127) C d_Mo_bind_127 rfl 0 rfl ?_
        refine j_get (pc := 128) C d_Mo_bind_128 0 13 wR_o0 rfl (v := .ref (ar 10)) rfl (by decide) tw955 ?_
        refine j_iload_n (pc := 131) C d_Mo_bind_131 rfl 1 rfl ?_
        obtain ⟨b8, hf⟩ := og hf
        refine j_iald (pc := 132) C d_Mo_bind_132 10 (inb_in b8) (x := (upd (q6.2.1 10) x.1.toNatClampNeg q6.1) x.1.toNatClampNeg) wR_a10 rfl ?_
        refine j_topi C (fun v9 ev9 => ?_)
        replace hf := ov ev9 hf
        refine j_if_ge (pc := 133) C d_Mo_bind_133 (tgt := 235) rfl (fun h10 => ?_) (fun h10 => ?_)
        · rw [if_pos h10] at hf
          refine j_iinc (pc := 235) C d_Mo_bind_235 1 rfl (v := x.1 + 1) (iv ci_1) [1, 0] (by decide) (lc' := [(0, .ref (ar 0)), (1, .int (x.1 + 1))]) rfl ?_
          refine j_goto (pc := 238) C d_Mo_bind_238 (tgt := 82) rfl ?_
          exact k82_ih (x.1 + 1, ((va_up q6.2.1 10 (upd (q6.2.1 10) x.1.toNatClampNeg q6.1)), q6.2.2.1, q6.2.2.2)) hf
        · rw [if_neg h10] at hf
          refine j_aload_n (pc := 136) C d_Mo_bind_136 rfl 0 rfl ?_
          refine j_iconst (pc := 137) C d_Mo_bind_137 ck_3 ?_
          refine j_aload_n (pc := 138) C d_Mo_bind_138 rfl 0 rfl ?_
          refine j_get (pc := 139) C d_Mo_bind_139 0 9 wR_o0 rfl (v := .ref (ar 6)) rfl (by decide) tw951 ?_
          refine j_iload_n (pc := 142) C d_Mo_bind_142 rfl 1 rfl ?_
          obtain ⟨b11, hf⟩ := og hf
          refine j_iald (pc := 143) C d_Mo_bind_143 6 (inb_in b11) (x := q6.2.1 6 x.1.toNatClampNeg) wR_a6 rfl ?_
          obtain ⟨q12, eq12, hf⟩ := ob hf
          refine j_callVv (pc := 144) C (rest := []) d_Mo_bind_144 (c_Mo_note (g := g) (ar := ar) eq12) cv_Mo_note tw1234 0 rfl rfl cut_same rfl rfl (Nat.le_of_ble_eq_true rfl) (kc2 := 0) (ks2 := 0) (by decide) ?_
          refine j_goto (pc := 147) C d_Mo_bind_147 (tgt := 235) rfl ?_
          refine j_iinc (pc := 235) C d_Mo_bind_235 1 rfl (v := x.1 + 1) (iv ci_1) [1, 0] (by decide) (lc' := [(0, .ref (ar 0)), (1, .int (x.1 + 1))]) rfl ?_
          refine j_goto (pc := 238) C d_Mo_bind_238 (tgt := 82) rfl ?_
          exact k82_ih (x.1 + 1, q12) hf
      · rw [if_neg h4] at hf
        refine j_aload_n (pc := 100) C d_Mo_bind_100 rfl 0 rfl ?_
        refine j_get (pc := 101) C d_Mo_bind_101 0 12 wR_o0 rfl (v := .ref (ar 9)) rfl (by decide) tw954 ?_
        refine j_iload_n (pc := 104) C d_Mo_bind_104 rfl 1 rfl ?_
        obtain ⟨b13, hf⟩ := og hf
        refine j_iald (pc := 105) C d_Mo_bind_105 9 (inb_in b13) (x := x.2.1 9 x.1.toNatClampNeg) wR_a9 rfl ?_
        refine j_iconst (pc := 106) C d_Mo_bind_106 ck_5 ?_
        refine j_icmp_ne (pc := 107) C d_Mo_bind_107 (tgt := 150) rfl (fun h14 => ?_) (fun h14 => ?_)
        · rw [if_neg h14] at hf
          refine j_aload_n (pc := 150) C d_Mo_bind_150 rfl 0 rfl ?_
          refine j_get (pc := 151) C d_Mo_bind_151 0 12 wR_o0 rfl (v := .ref (ar 9)) rfl (by decide) tw954 ?_
          refine j_iload_n (pc := 154) C d_Mo_bind_154 rfl 1 rfl ?_
          obtain ⟨b15, hf⟩ := og hf
          refine j_iald (pc := 155) C d_Mo_bind_155 9 (inb_in b15) (x := x.2.1 9 x.1.toNatClampNeg) wR_a9 rfl ?_
          refine j_bipush (pc := 156) C d_Mo_bind_156 cb_6 ?_
          refine j_icmp_ne (pc := 158) C d_Mo_bind_158 (tgt := 235) rfl (fun h16 => ?_) (fun h16 => ?_)
          · rw [if_neg h16] at hf
            refine j_iinc (pc := 235) C d_Mo_bind_235 1 rfl (v := x.1 + 1) (iv ci_1) [1, 0] (by decide) (lc' := [(0, .ref (ar 0)), (1, .int (x.1 + 1))]) rfl ?_
            refine j_goto (pc := 238) C d_Mo_bind_238 (tgt := 82) rfl ?_
            exact k82_ih (x.1 + 1, x.2) hf
          · rw [if_pos h16] at hf
            refine j_aload_n (pc := 161) C d_Mo_bind_161 rfl 0 rfl ?_
            refine j_get (pc := 162) C d_Mo_bind_162 0 13 wR_o0 rfl (v := .ref (ar 10)) rfl (by decide) tw955 ?_
            refine j_iload_n (pc := 165) C d_Mo_bind_165 rfl 1 rfl ?_
            refine j_aload_n (pc := 166) C d_Mo_bind_166 rfl 0 rfl ?_
            refine j_aload_n (pc := 167) C d_Mo_bind_167 rfl 0 rfl ?_
            refine j_get (pc := 168) C d_Mo_bind_168 0 11 wR_o0 rfl (v := .ref (ar 8)) rfl (by decide) tw953 ?_
            refine j_iload_n (pc := 171) C d_Mo_bind_171 rfl 1 rfl ?_
            obtain ⟨b17, hf⟩ := og hf
            refine j_lald (pc := 172) C d_Mo_bind_172 8 (inb_in b17) (x := x.2.2.2 8 x.1.toNatClampNeg) wR_a8 rfl ?_
            obtain ⟨q18, eq18, hf⟩ := ob hf
            refine j_callVi (pc := 173) C (rest := [.int x.1, .ref (ar 10)]) d_Mo_bind_173 (c_Mo_functionNamed (g := g) (ar := ar) eq18) cv_Mo_functionNamed tw1250 0 rfl rfl cut_same rfl rfl (Nat.le_of_ble_eq_true rfl) (kc2 := 0) (ks2 := 0) (by decide) ?_
            obtain ⟨b19, hf⟩ := og hf
            refine j_iast (pc := 176) C d_Mo_bind_176 10 (inb_in b19) wR_a10 (ws' := wR g ar (va_up q18.2.1 10 (upd (q18.2.1 10) x.1.toNatClampNeg q18.1)) q18.2.2.1 q18.2.2.2) wR_s10 ?_
            refine j_aload_n (pc := 177) C d_Mo_bind_177 rfl 0 rfl ?_
            refine j_get (pc := 178) C d_Mo_bind_178 0 13 wR_o0 rfl (v := .ref (ar 10)) rfl (by decide) tw955 ?_
            refine j_iload_n (pc := 181) C d_Mo_bind_181 rfl 1 rfl ?_
            obtain ⟨b20, hf⟩ := og hf
            refine j_iald (pc := 182) C d_Mo_bind_182 10 (inb_in b20) (x := (upd (q18.2.1 10) x.1.toNatClampNeg q18.1) x.1.toNatClampNeg) wR_a10 rfl ?_
            refine j_topi C (fun v21 ev21 => ?_)
            replace hf := ov ev21 hf
            refine j_if_ge (pc := 183) C d_Mo_bind_183 (tgt := 200) rfl (fun h22 => ?_) (fun h22 => ?_)
            · rw [if_pos h22] at hf
              refine j_aload_n (pc := 200) C d_Mo_bind_200 rfl 0 rfl ?_
              refine j_get (pc := 201) C d_Mo_bind_201 0 23 wR_o0 rfl (v := .ref (ar 19)) rfl (by decide) tw965 ?_
              refine j_aload_n (pc := 204) C d_Mo_bind_204 rfl 0 rfl ?_
              refine j_aload_n (pc := 205) C d_Mo_bind_205 rfl 0 rfl ?_
              refine j_get (pc := 206) C d_Mo_bind_206 0 13 wR_o0 rfl (v := .ref (ar 10)) rfl (by decide) tw955 ?_
              refine j_iload_n (pc := 209) C d_Mo_bind_209 rfl 1 rfl ?_
              obtain ⟨b23, hf⟩ := og hf
              refine j_iald (pc := 210) C d_Mo_bind_210 10 (inb_in b23) (x := (upd (q18.2.1 10) x.1.toNatClampNeg q18.1) x.1.toNatClampNeg) wR_a10 rfl ?_
              refine j_topi C (fun v24 ev24 => ?_)
              replace hf := ov ev24 hf
              obtain ⟨q25, eq25, hf⟩ := ob hf
              refine j_callVi (pc := 211) C (rest := [.ref (ar 19)]) d_Mo_bind_211 (c_Mo_partOf (g := g) (ar := ar) eq25) cv_Mo_partOf tw1254 0 rfl rfl cut_same rfl rfl (Nat.le_of_ble_eq_true rfl) (kc2 := 0) (ks2 := 0) (by decide) ?_
              obtain ⟨b26, hf⟩ := og hf
              refine j_iald (pc := 214) C d_Mo_bind_214 19 (inb_in b26) (x := q25.2.1 19 q25.1.toNatClampNeg) wR_a19 rfl ?_
              refine j_aload_n (pc := 215) C d_Mo_bind_215 rfl 0 rfl ?_
              refine j_get (pc := 216) C d_Mo_bind_216 0 15 wR_o0 rfl (v := .ref (ar 12)) rfl (by decide) tw957 ?_
              refine j_iload_n (pc := 219) C d_Mo_bind_219 rfl 1 rfl ?_
              obtain ⟨b27, hf⟩ := og hf
              refine j_iald (pc := 220) C d_Mo_bind_220 12 (inb_in b27) (x := q25.2.1 12 x.1.toNatClampNeg) wR_a12 rfl ?_
              refine j_icmp_eq (pc := 221) C d_Mo_bind_221 (tgt := 235) rfl (fun h28 => ?_) (fun h28 => ?_)
              · rw [if_pos h28] at hf
                refine j_iinc (pc := 235) C d_Mo_bind_235 1 rfl (v := x.1 + 1) (iv ci_1) [1, 0] (by decide) (lc' := [(0, .ref (ar 0)), (1, .int (x.1 + 1))]) rfl ?_
                refine j_goto (pc := 238) C d_Mo_bind_238 (tgt := 82) rfl ?_
                exact k82_ih (x.1 + 1, q25.2) hf
              · rw [if_neg h28] at hf
                refine j_aload_n (pc := 224) C d_Mo_bind_224 rfl 0 rfl ?_
                refine j_iconst (pc := 225) C d_Mo_bind_225 ck_5 ?_
                refine j_aload_n (pc := 226) C d_Mo_bind_226 rfl 0 rfl ?_
                refine j_get (pc := 227) C d_Mo_bind_227 0 9 wR_o0 rfl (v := .ref (ar 6)) rfl (by decide) tw951 ?_
                refine j_iload_n (pc := 230) C d_Mo_bind_230 rfl 1 rfl ?_
                obtain ⟨b29, hf⟩ := og hf
                refine j_iald (pc := 231) C d_Mo_bind_231 6 (inb_in b29) (x := q25.2.1 6 x.1.toNatClampNeg) wR_a6 rfl ?_
                obtain ⟨q30, eq30, hf⟩ := ob hf
                refine j_callVv (pc := 232) C (rest := []) d_Mo_bind_232 (c_Mo_note (g := g) (ar := ar) eq30) cv_Mo_note tw1234 0 rfl rfl cut_same rfl rfl (Nat.le_of_ble_eq_true rfl) (kc2 := 0) (ks2 := 0) (by decide) ?_
                refine j_iinc (pc := 235) C d_Mo_bind_235 1 rfl (v := x.1 + 1) (iv ci_1) [1, 0] (by decide) (lc' := [(0, .ref (ar 0)), (1, .int (x.1 + 1))]) rfl ?_
                refine j_goto (pc := 238) C d_Mo_bind_238 (tgt := 82) rfl ?_
                exact k82_ih (x.1 + 1, q30) hf
            · rw [if_neg h22] at hf
              refine j_aload_n (pc := 186) C d_Mo_bind_186 rfl 0 rfl ?_
              refine j_iconst (pc := 187) C d_Mo_bind_187 ck_4 ?_
              refine j_aload_n (pc := 188) C d_Mo_bind_188 rfl 0 rfl ?_
              refine j_get (pc := 189) C d_Mo_bind_189 0 9 wR_o0 rfl (v := .ref (ar 6)) rfl (by decide) tw951 ?_
              refine j_iload_n (pc := 192) C d_Mo_bind_192 rfl 1 rfl ?_
              obtain ⟨b31, hf⟩ := og hf
              refine j_iald (pc := 193) C d_Mo_bind_193 6 (inb_in b31) (x := q18.2.1 6 x.1.toNatClampNeg) wR_a6 rfl ?_
              obtain ⟨q32, eq32, hf⟩ := ob hf
              refine j_callVv (pc := 194) C (rest := []) d_Mo_bind_194 (c_Mo_note (g := g) (ar := ar) eq32) cv_Mo_note tw1234 0 rfl rfl cut_same rfl rfl (Nat.le_of_ble_eq_true rfl) (kc2 := 0) (ks2 := 0) (by decide) ?_
              refine j_goto (pc := 197) C d_Mo_bind_197 (tgt := 235) rfl ?_
              refine j_iinc (pc := 235) C d_Mo_bind_235 1 rfl (v := x.1 + 1) (iv ci_1) [1, 0] (by decide) (lc' := [(0, .ref (ar 0)), (1, .int (x.1 + 1))]) rfl ?_
              refine j_goto (pc := 238) C d_Mo_bind_238 (tgt := 82) rfl ?_
              exact k82_ih (x.1 + 1, q32) hf
        · rw [if_pos h14] at hf
          refine j_aload_n (pc := 110) C d_Mo_bind_110 rfl 0 rfl ?_
          refine j_get (pc := 111) C d_Mo_bind_111 0 13 wR_o0 rfl (v := .ref (ar 10)) rfl (by decide) tw955 ?_
          refine j_iload_n (pc := 114) C d_Mo_bind_114 rfl 1 rfl ?_
          refine j_aload_n (pc := 115) C d_Mo_bind_115 rfl 0 rfl ?_
          refine j_aload_n (pc := 116) C d_Mo_bind_116 rfl 0 rfl ?_
          refine j_get (pc := 117) C d_Mo_bind_117 0 11 wR_o0 rfl (v := .ref (ar 8)) rfl (by decide) tw953 ?_
          refine j_iload_n (pc := 120) C d_Mo_bind_120 rfl 1 rfl ?_
          obtain ⟨b33, hf⟩ := og hf
          refine j_lald (pc := 121) C d_Mo_bind_121 8 (inb_in b33) (x := x.2.2.2 8 x.1.toNatClampNeg) wR_a8 rfl ?_
          refine j_iload_n (pc := 122) C d_Mo_bind_122 rfl 1 rfl ?_
          obtain ⟨q34, eq34, hf⟩ := ob hf
          refine j_callVi (pc := 123) C (rest := [.int x.1, .ref (ar 10)]) d_Mo_bind_123 (c_Mo_meaning (g := g) (ar := ar) eq34) cv_Mo_meaning tw1246 0 rfl rfl cut_same rfl rfl (Nat.le_of_ble_eq_true rfl) (kc2 := 0) (ks2 := 0) (by decide) ?_
          obtain ⟨b35, hf⟩ := og hf
          refine j_iast (pc := 126) C d_Mo_bind_126 10 (inb_in b35) wR_a10 (ws' := wR g ar (va_up q34.2.1 10 (upd (q34.2.1 10) x.1.toNatClampNeg q34.1)) q34.2.2.1 q34.2.2.2) wR_s10 ?_
          refine j_aload_n (pc := 127) C d_Mo_bind_127 rfl 0 rfl ?_
          refine j_get (pc := 128) C d_Mo_bind_128 0 13 wR_o0 rfl (v := .ref (ar 10)) rfl (by decide) tw955 ?_
          refine j_iload_n (pc := 131) C d_Mo_bind_131 rfl 1 rfl ?_
          obtain ⟨b36, hf⟩ := og hf
          refine j_iald (pc := 132) C d_Mo_bind_132 10 (inb_in b36) (x := (upd (q34.2.1 10) x.1.toNatClampNeg q34.1) x.1.toNatClampNeg) wR_a10 rfl ?_
          refine j_topi C (fun v37 ev37 => ?_)
          replace hf := ov ev37 hf
          refine j_if_ge (pc := 133) C d_Mo_bind_133 (tgt := 235) rfl (fun h38 => ?_) (fun h38 => ?_)
          · rw [if_pos h38] at hf
            refine j_iinc (pc := 235) C d_Mo_bind_235 1 rfl (v := x.1 + 1) (iv ci_1) [1, 0] (by decide) (lc' := [(0, .ref (ar 0)), (1, .int (x.1 + 1))]) rfl ?_
            refine j_goto (pc := 238) C d_Mo_bind_238 (tgt := 82) rfl ?_
            exact k82_ih (x.1 + 1, ((va_up q34.2.1 10 (upd (q34.2.1 10) x.1.toNatClampNeg q34.1)), q34.2.2.1, q34.2.2.2)) hf
          · rw [if_neg h38] at hf
            refine j_aload_n (pc := 136) C d_Mo_bind_136 rfl 0 rfl ?_
            refine j_iconst (pc := 137) C d_Mo_bind_137 ck_3 ?_
            refine j_aload_n (pc := 138) C d_Mo_bind_138 rfl 0 rfl ?_
            refine j_get (pc := 139) C d_Mo_bind_139 0 9 wR_o0 rfl (v := .ref (ar 6)) rfl (by decide) tw951 ?_
            refine j_iload_n (pc := 142) C d_Mo_bind_142 rfl 1 rfl ?_
            obtain ⟨b39, hf⟩ := og hf
            refine j_iald (pc := 143) C d_Mo_bind_143 6 (inb_in b39) (x := q34.2.1 6 x.1.toNatClampNeg) wR_a6 rfl ?_
            obtain ⟨q40, eq40, hf⟩ := ob hf
            refine j_callVv (pc := 144) C (rest := []) d_Mo_bind_144 (c_Mo_note (g := g) (ar := ar) eq40) cv_Mo_note tw1234 0 rfl rfl cut_same rfl rfl (Nat.le_of_ble_eq_true rfl) (kc2 := 0) (ks2 := 0) (by decide) ?_
            refine j_goto (pc := 147) C d_Mo_bind_147 (tgt := 235) rfl ?_
            refine j_iinc (pc := 235) C d_Mo_bind_235 1 rfl (v := x.1 + 1) (iv ci_1) [1, 0] (by decide) (lc' := [(0, .ref (ar 0)), (1, .int (x.1 + 1))]) rfl ?_
            refine j_goto (pc := 238) C d_Mo_bind_238 (tgt := 82) rfl ?_
            exact k82_ih (x.1 + 1, q40) hf
  have L2 : ∀ (n : Nat) (x : Int32 × RS), lpN (BMo_bind_2) n x = some q → 𝒥 0 0 (wR g ar x.2.1 x.2.2.1 x.2.2.2) [(0, .ref (ar 0)), (1, .int x.1)] [] 2 := by
    refine lp_ind (fun k2 k2_ih x hf => ?_)
    unfold BMo_bind_2 at hf
    refine j_iload_n (pc := 2) C d_Mo_bind_2 rfl 1 rfl ?_
    refine j_aload_n (pc := 3) C d_Mo_bind_3 rfl 0 rfl ?_
    refine j_get (pc := 4) C d_Mo_bind_4 0 7 wR_o0 rfl (v := .int (x.2.2.1 3)) rfl (by decide) tw949 ?_
    refine j_icmp_ge (pc := 7) C d_Mo_bind_7 (tgt := 80) rfl (fun h1 => ?_) (fun h1 => ?_)
    · rw [if_pos h1] at hf
      refine j_iconst (pc := 80) C d_Mo_bind_80 ck_0 ?_
      refine j_istore_n (pc := 81) C d_Mo_bind_81 rfl [1, 0] (by decide) (lc' := [(0, .ref (ar 0)), (1, .int 0)]) rfl ?_
      exact L82 100000 (0, x.2) hf
    · rw [if_neg h1] at hf
      refine j_aload_n (pc := 10) C d_Mo_bind_10 rfl 0 rfl ?_
      refine j_get (pc := 11) C d_Mo_bind_11 0 12 wR_o0 rfl (v := .ref (ar 9)) rfl (by decide) tw954 ?_
      refine j_iload_n (pc := 14) C d_Mo_bind_14 rfl 1 rfl ?_
      obtain ⟨b41, hf⟩ := og hf
      refine j_iald (pc := 15) C d_Mo_bind_15 9 (inb_in b41) (x := x.2.1 9 x.1.toNatClampNeg) wR_a9 rfl ?_
      refine j_iconst (pc := 16) C d_Mo_bind_16 ck_1 ?_
      refine j_icmp_lt (pc := 17) C d_Mo_bind_17 (tgt := 74) rfl (fun h42 => ?_) (fun h42 => ?_)
      · rw [if_pos h42] at hf
        refine j_iinc (pc := 74) C d_Mo_bind_74 1 rfl (v := x.1 + 1) (iv ci_1) [1, 0] (by decide) (lc' := [(0, .ref (ar 0)), (1, .int (x.1 + 1))]) rfl ?_
        refine j_goto (pc := 77) C d_Mo_bind_77 (tgt := 2) rfl ?_
        exact k2_ih (x.1 + 1, x.2) hf
      · rw [if_neg h42] at hf
        refine j_aload_n (pc := 20) C d_Mo_bind_20 rfl 0 rfl ?_
        refine j_get (pc := 21) C d_Mo_bind_21 0 12 wR_o0 rfl (v := .ref (ar 9)) rfl (by decide) tw954 ?_
        refine j_iload_n (pc := 24) C d_Mo_bind_24 rfl 1 rfl ?_
        obtain ⟨b43, hf⟩ := og hf
        refine j_iald (pc := 25) C d_Mo_bind_25 9 (inb_in b43) (x := x.2.1 9 x.1.toNatClampNeg) wR_a9 rfl ?_
        refine j_iconst (pc := 26) C d_Mo_bind_26 ck_3 ?_
        refine j_icmp_gt (pc := 27) C d_Mo_bind_27 (tgt := 74) rfl (fun h44 => ?_) (fun h44 => ?_)
        · rw [if_pos h44] at hf
          refine j_iinc (pc := 74) C d_Mo_bind_74 1 rfl (v := x.1 + 1) (iv ci_1) [1, 0] (by decide) (lc' := [(0, .ref (ar 0)), (1, .int (x.1 + 1))]) rfl ?_
          refine j_goto (pc := 77) C d_Mo_bind_77 (tgt := 2) rfl ?_
          exact k2_ih (x.1 + 1, x.2) hf
        · rw [if_neg h44] at hf
          refine j_aload_n (pc := 30) C d_Mo_bind_30 rfl 0 rfl ?_
          refine j_iload_n (pc := 31) C d_Mo_bind_31 rfl 1 rfl ?_
          obtain ⟨q45, eq45, hf⟩ := ob hf
          refine j_callVi (pc := 32) C (rest := []) d_Mo_bind_32 (c_Mo_isRepeated (g := g) (ar := ar) eq45) cv_Mo_isRepeated tw1242 0 rfl rfl cut_same rfl rfl (Nat.le_of_ble_eq_true rfl) (kc2 := 0) (ks2 := 0) (by decide) ?_
          refine j_if_ne (pc := 35) C d_Mo_bind_35 (tgt := 48) rfl (fun h46 => ?_) (fun h46 => ?_)
          · rw [if_neg h46] at hf
            refine j_aload_n (pc := 48) C d_Mo_bind_48 rfl 0 rfl ?_
            refine j_aload_n (pc := 49) C d_Mo_bind_49 rfl 0 rfl ?_
            refine j_get (pc := 50) C d_Mo_bind_50 0 12 wR_o0 rfl (v := .ref (ar 9)) rfl (by decide) tw954 ?_
            refine j_iload_n (pc := 53) C d_Mo_bind_53 rfl 1 rfl ?_
            obtain ⟨b47, hf⟩ := og hf
            refine j_iald (pc := 54) C d_Mo_bind_54 9 (inb_in b47) (x := q45.2.1 9 x.1.toNatClampNeg) wR_a9 rfl ?_
            refine j_iconst (pc := 55) C d_Mo_bind_55 ck_1 ?_
            refine j_icmp_ne (pc := 56) C d_Mo_bind_56 (tgt := 64) rfl (fun h48 => ?_) (fun h48 => ?_)
            · rw [if_neg h48] at hf
              refine j_iconst (pc := 64) C d_Mo_bind_64 ck_2 ?_
              refine j_aload_n (pc := 65) C d_Mo_bind_65 rfl 0 rfl ?_
              refine j_get (pc := 66) C d_Mo_bind_66 0 9 wR_o0 rfl (v := .ref (ar 6)) rfl (by decide) tw951 ?_
              refine j_iload_n (pc := 69) C d_Mo_bind_69 rfl 1 rfl ?_
              obtain ⟨b49, hf⟩ := og hf
              refine j_iald (pc := 70) C d_Mo_bind_70 6 (inb_in b49) (x := q45.2.1 6 x.1.toNatClampNeg) wR_a6 rfl ?_
              obtain ⟨q50, eq50, hf⟩ := ob hf
              refine j_callVv (pc := 71) C (rest := []) d_Mo_bind_71 (c_Mo_note (g := g) (ar := ar) eq50) cv_Mo_note tw1234 0 rfl rfl cut_same rfl rfl (Nat.le_of_ble_eq_true rfl) (kc2 := 0) (ks2 := 0) (by decide) ?_
              refine j_iinc (pc := 74) C d_Mo_bind_74 1 rfl (v := x.1 + 1) (iv ci_1) [1, 0] (by decide) (lc' := [(0, .ref (ar 0)), (1, .int (x.1 + 1))]) rfl ?_
              refine j_goto (pc := 77) C d_Mo_bind_77 (tgt := 2) rfl ?_
              exact k2_ih (x.1 + 1, q50) hf
            · rw [if_pos h48] at hf
              refine j_bipush (pc := 59) C d_Mo_bind_59 cb_6 ?_
              refine j_goto (pc := 61) C d_Mo_bind_61 (tgt := 65) rfl ?_
              refine j_aload_n (pc := 65) C d_Mo_bind_65 rfl 0 rfl ?_
              refine j_get (pc := 66) C d_Mo_bind_66 0 9 wR_o0 rfl (v := .ref (ar 6)) rfl (by decide) tw951 ?_
              refine j_iload_n (pc := 69) C d_Mo_bind_69 rfl 1 rfl ?_
              obtain ⟨b51, hf⟩ := og hf
              refine j_iald (pc := 70) C d_Mo_bind_70 6 (inb_in b51) (x := q45.2.1 6 x.1.toNatClampNeg) wR_a6 rfl ?_
              obtain ⟨q52, eq52, hf⟩ := ob hf
              refine j_callVv (pc := 71) C (rest := []) d_Mo_bind_71 (c_Mo_note (g := g) (ar := ar) eq52) cv_Mo_note tw1234 0 rfl rfl cut_same rfl rfl (Nat.le_of_ble_eq_true rfl) (kc2 := 0) (ks2 := 0) (by decide) ?_
              refine j_iinc (pc := 74) C d_Mo_bind_74 1 rfl (v := x.1 + 1) (iv ci_1) [1, 0] (by decide) (lc' := [(0, .ref (ar 0)), (1, .int (x.1 + 1))]) rfl ?_
              refine j_goto (pc := 77) C d_Mo_bind_77 (tgt := 2) rfl ?_
              exact k2_ih (x.1 + 1, q52) hf
          · rw [if_pos h46] at hf
            refine j_aload_n (pc := 38) C d_Mo_bind_38 rfl 0 rfl ?_
            refine j_get (pc := 39) C d_Mo_bind_39 0 13 wR_o0 rfl (v := .ref (ar 10)) rfl (by decide) tw955 ?_
            refine j_iload_n (pc := 42) C d_Mo_bind_42 rfl 1 rfl ?_
            refine j_iload_n (pc := 43) C d_Mo_bind_43 rfl 1 rfl ?_
            obtain ⟨b53, hf⟩ := og hf
            refine j_iast (pc := 44) C d_Mo_bind_44 10 (inb_in b53) wR_a10 (ws' := wR g ar (va_up q45.2.1 10 (upd (q45.2.1 10) x.1.toNatClampNeg x.1)) q45.2.2.1 q45.2.2.2) wR_s10 ?_
            refine j_goto (pc := 45) C d_Mo_bind_45 (tgt := 74) rfl ?_
            refine j_iinc (pc := 74) C d_Mo_bind_74 1 rfl (v := x.1 + 1) (iv ci_1) [1, 0] (by decide) (lc' := [(0, .ref (ar 0)), (1, .int (x.1 + 1))]) rfl ?_
            refine j_goto (pc := 77) C d_Mo_bind_77 (tgt := 2) rfl ?_
            exact k2_ih (x.1 + 1, ((va_up q45.2.1 10 (upd (q45.2.1 10) x.1.toNatClampNeg x.1)), q45.2.2.1, q45.2.2.2)) hf
  unfold f_Mo_bind at hf
  change 𝒥 0 0 (wR g ar r.1 r.2.1 r.2.2) [(0, .ref (ar 0))] [] 0
  refine j_iconst (pc := 0) C d_Mo_bind_0 ck_0 ?_
  refine j_istore_n (pc := 1) C d_Mo_bind_1 rfl [1, 0] (by decide) (lc' := [(0, .ref (ar 0)), (1, .int 0)]) rfl ?_
  exact L2 100000 (0, r) hf
abbrev rm_Mo_analyse : Room := { frames := 5, cells := 0, slots := 0, locals := 111 }
theorem cv_Mo_analyse : CV y_Mo_analyse b_Mo_analyse 2 none 0 := ⟨⟨tw1150, tw10, by decide +kernel⟩, tw1149, (sw_ (q := (y_Mo_analyse, 54)) (by decide +kernel) (by decide +kernel))⟩
set_option maxHeartbeats 4000000 in
set_option maxRecDepth 100000 in
theorem c_Mo_analyse {g : GT} {ar : Nat → Nat} {r : RS} {q : RS} (hf : f_Mo_analyse r = some q) : MV g y_Mo_analyse b_Mo_analyse 2 none rm_Mo_analyse [.ref (ar 0)] (wR g ar r.1 r.2.1 r.2.2) (wR g ar q.1 q.2.1 q.2.2) := by
  refine MV.of (by decide) (Nat.le_of_ble_eq_true rfl) (fun 𝒥 C => ?_)
  have L86 : ∀ (n : Nat) (x : Int32 × RS), lpN (BMo_analyse_86) n x = some q → 𝒥 0 0 (wR g ar x.2.1 x.2.2.1 x.2.2.2) [(0, .ref (ar 0)), (1, .int x.1)] [] 86 := by
    refine lp_ind (fun k86 k86_ih x hf => ?_)
    unfold BMo_analyse_86 at hf
    refine j_iload_n (pc := 86) C d_Mo_analyse_86 rfl 1 rfl ?_
    refine j_aload_n (pc := 87) C d_Mo_analyse_87 rfl 0 rfl ?_
    refine j_get (pc := 88) C d_Mo_analyse_88 0 19 wR_o0 rfl (v := .int (x.2.2.1 4)) rfl (by decide) tw961 ?_
    refine j_icmp_ge (pc := 91) C d_Mo_analyse_91 (tgt := 125) rfl (fun h3 => ?_) (fun h3 => ?_)
    · rw [if_pos h3] at hf
      refine j_aload_n (pc := 125) C d_Mo_analyse_125 rfl 0 rfl ?_
      obtain ⟨q4, eq4, hf⟩ := ob hf
      refine j_callVv (pc := 126) C (rest := []) d_Mo_analyse_126 (c_Mo_bind (g := g) (ar := ar) eq4) cv_Mo_bind tw1238 0 rfl rfl cut_same rfl rfl (Nat.le_of_ble_eq_true rfl) (kc2 := 0) (ks2 := 0) (by decide) ?_
      cases hf
      exact j_vret (pc := 129) C d_Mo_analyse_129 ⟨rfl, rfl⟩ (Nat.le_of_ble_eq_true rfl) (Nat.le_of_ble_eq_true rfl)
    · rw [if_neg h3] at hf
      refine j_aload_n (pc := 94) C d_Mo_analyse_94 rfl 0 rfl ?_
      refine j_iload_n (pc := 95) C d_Mo_analyse_95 rfl 1 rfl ?_
      obtain ⟨q5, eq5, hf⟩ := ob hf
      refine j_callVv (pc := 96) C (rest := []) d_Mo_analyse_96 (c_Mo_readPart (g := g) (ar := ar) eq5) cv_Mo_readPart tw1182 0 rfl rfl cut_same rfl rfl (Nat.le_of_ble_eq_true rfl) (kc2 := 0) (ks2 := 0) (by decide) ?_
      refine j_aload_n (pc := 99) C d_Mo_analyse_99 rfl 0 rfl ?_
      refine j_get (pc := 100) C d_Mo_analyse_100 0 22 wR_o0 rfl (v := .ref (ar 18)) rfl (by decide) tw964 ?_
      refine j_iload_n (pc := 103) C d_Mo_analyse_103 rfl 1 rfl ?_
      obtain ⟨b6, hf⟩ := og hf
      refine j_iald (pc := 104) C d_Mo_analyse_104 18 (inb_in b6) (x := q5.1 18 x.1.toNatClampNeg) wR_a18 rfl ?_
      refine j_if_lt (pc := 105) C d_Mo_analyse_105 (tgt := 119) rfl (fun h7 => ?_) (fun h7 => ?_)
      · rw [if_pos h7] at hf
        refine j_iinc (pc := 119) C d_Mo_analyse_119 1 rfl (v := x.1 + 1) (iv ci_1) [1, 0] (by decide) (lc' := [(0, .ref (ar 0)), (1, .int (x.1 + 1))]) rfl ?_
        refine j_goto (pc := 122) C d_Mo_analyse_122 (tgt := 86) rfl ?_
        exact k86_ih (x.1 + 1, q5) hf
      · rw [if_neg h7] at hf
        refine j_aload_n (pc := 108) C d_Mo_analyse_108 rfl 0 rfl ?_
        refine j_iconst (pc := 109) C d_Mo_analyse_109 ck_1 ?_
        refine j_aload_n (pc := 110) C d_Mo_analyse_110 rfl 0 rfl ?_
        refine j_get (pc := 111) C d_Mo_analyse_111 0 22 wR_o0 rfl (v := .ref (ar 18)) rfl (by decide) tw964 ?_
        refine j_iload_n (pc := 114) C d_Mo_analyse_114 rfl 1 rfl ?_
        obtain ⟨b8, hf⟩ := og hf
        refine j_iald (pc := 115) C d_Mo_analyse_115 18 (inb_in b8) (x := q5.1 18 x.1.toNatClampNeg) wR_a18 rfl ?_
        obtain ⟨q9, eq9, hf⟩ := ob hf
        refine j_callVv (pc := 116) C (rest := []) d_Mo_analyse_116 (c_Mo_note (g := g) (ar := ar) eq9) cv_Mo_note tw1234 0 rfl rfl cut_same rfl rfl (Nat.le_of_ble_eq_true rfl) (kc2 := 0) (ks2 := 0) (by decide) ?_
        refine j_iinc (pc := 119) C d_Mo_analyse_119 1 rfl (v := x.1 + 1) (iv ci_1) [1, 0] (by decide) (lc' := [(0, .ref (ar 0)), (1, .int (x.1 + 1))]) rfl ?_
        refine j_goto (pc := 122) C d_Mo_analyse_122 (tgt := 86) rfl ?_
        exact k86_ih (x.1 + 1, q9) hf
  have L16 : ∀ (n : Nat) (x : Int32 × RS), lpN (BMo_analyse_16) n x = some q → 𝒥 0 0 (wR g ar x.2.1 x.2.2.1 x.2.2.2) [(0, .ref (ar 0)), (1, .int x.1)] [] 16 := by
    refine lp_ind (fun k16 k16_ih x hf => ?_)
    unfold BMo_analyse_16 at hf
    refine j_iload_n (pc := 16) C d_Mo_analyse_16 rfl 1 rfl ?_
    refine j_aload_n (pc := 17) C d_Mo_analyse_17 rfl 0 rfl ?_
    refine j_get (pc := 18) C d_Mo_analyse_18 0 7 wR_o0 rfl (v := .int (x.2.2.1 3)) rfl (by decide) tw949 ?_
    refine j_icmp_ge (pc := 21) C d_Mo_analyse_21 (tgt := 84) rfl (fun h2 => ?_) (fun h2 => ?_)
    · rw [if_pos h2] at hf
      refine j_iconst (pc := 84) C d_Mo_analyse_84 ck_0 ?_
      refine j_istore_n (pc := 85) C d_Mo_analyse_85 rfl [1, 0] (by decide) (lc' := [(0, .ref (ar 0)), (1, .int 0)]) rfl ?_
      exact L86 100000 (0, x.2) hf
    · rw [if_neg h2] at hf
      refine j_iload_n (pc := 24) C d_Mo_analyse_24 rfl 1 rfl ?_
      refine j_if_eq (pc := 25) C d_Mo_analyse_25 (tgt := 44) rfl (fun h10 => ?_) (fun h10 => ?_)
      · rw [if_pos h10] at hf
        refine j_aload_n (pc := 44) C d_Mo_analyse_44 rfl 0 rfl ?_
        refine j_get (pc := 45) C d_Mo_analyse_45 0 20 wR_o0 rfl (v := .ref (ar 16)) rfl (by decide) tw962 ?_
        refine j_aload_n (pc := 48) C d_Mo_analyse_48 rfl 0 rfl ?_
        refine j_get (pc := 49) C d_Mo_analyse_49 0 19 wR_o0 rfl (v := .int (x.2.2.1 4)) rfl (by decide) tw961 ?_
        refine j_iload_n (pc := 52) C d_Mo_analyse_52 rfl 1 rfl ?_
        obtain ⟨b11, hf⟩ := og hf
        refine j_iast (pc := 53) C d_Mo_analyse_53 16 (inb_in b11) wR_a16 (ws' := wR g ar (va_up x.2.1 16 (upd (x.2.1 16) (x.2.2.1 4).toNatClampNeg x.1)) x.2.2.1 x.2.2.2) wR_s16 ?_
        refine j_aload_n (pc := 54) C d_Mo_analyse_54 rfl 0 rfl ?_
        refine j_dup (pc := 55) C d_Mo_analyse_55 rfl ?_
        refine j_get (pc := 56) C d_Mo_analyse_56 0 19 wR_o0 rfl (v := .int (x.2.2.1 4)) rfl (by decide) tw961 ?_
        refine j_iconst (pc := 59) C d_Mo_analyse_59 ck_1 ?_
        refine j_iadd (pc := 60) C d_Mo_analyse_60 ?_
        refine j_put (pc := 61) C d_Mo_analyse_61 0 19 wR_o0 rfl (by decide) tw961 pd_I rfl rfl rfl (Nat.le_of_ble_eq_true rfl) (ws' := wR g ar (va_up x.2.1 16 (upd (x.2.1 16) (x.2.2.1 4).toNatClampNeg x.1)) (va_up x.2.2.1 4 ((x.2.2.1 4) + 1)) x.2.2.2) wR_p0_19 ?_
        refine j_aload_n (pc := 64) C d_Mo_analyse_64 rfl 0 rfl ?_
        refine j_get (pc := 65) C d_Mo_analyse_65 0 21 wR_o0 rfl (v := .ref (ar 17)) rfl (by decide) tw963 ?_
        refine j_aload_n (pc := 68) C d_Mo_analyse_68 rfl 0 rfl ?_
        refine j_get (pc := 69) C d_Mo_analyse_69 0 19 wR_o0 rfl (v := .int ((x.2.2.1 4) + 1)) rfl (by decide) tw961 ?_
        refine j_iconst (pc := 72) C d_Mo_analyse_72 ck_1 ?_
        refine j_isub (pc := 73) C d_Mo_analyse_73 ?_
        refine j_iload_n (pc := 74) C d_Mo_analyse_74 rfl 1 rfl ?_
        refine j_iconst (pc := 75) C d_Mo_analyse_75 ck_1 ?_
        refine j_iadd (pc := 76) C d_Mo_analyse_76 ?_
        obtain ⟨b12, hf⟩ := og hf
        refine j_iast (pc := 77) C d_Mo_analyse_77 17 (inb_in b12) wR_a17 (ws' := wR g ar (va_up (va_up x.2.1 16 (upd (x.2.1 16) (x.2.2.1 4).toNatClampNeg x.1)) 17 (upd (x.2.1 17) (((x.2.2.1 4) + 1) - 1).toNatClampNeg (x.1 + 1))) (va_up x.2.2.1 4 ((x.2.2.1 4) + 1)) x.2.2.2) wR_s17 ?_
        refine j_iinc (pc := 78) C d_Mo_analyse_78 1 rfl (v := x.1 + 1) (iv ci_1) [1, 0] (by decide) (lc' := [(0, .ref (ar 0)), (1, .int (x.1 + 1))]) rfl ?_
        refine j_goto (pc := 81) C d_Mo_analyse_81 (tgt := 16) rfl ?_
        exact k16_ih (x.1 + 1, ((va_up (va_up x.2.1 16 (upd (x.2.1 16) (x.2.2.1 4).toNatClampNeg x.1)) 17 (upd (x.2.1 17) (((x.2.2.1 4) + 1) - 1).toNatClampNeg (x.1 + 1))), (va_up x.2.2.1 4 ((x.2.2.1 4) + 1)), x.2.2.2)) hf
      · rw [if_neg h10] at hf
        refine j_aload_n (pc := 28) C d_Mo_analyse_28 rfl 0 rfl ?_
        refine j_iload_n (pc := 29) C d_Mo_analyse_29 rfl 1 rfl ?_
        obtain ⟨q13, eq13, hf⟩ := ob hf
        refine j_callVi (pc := 30) C (rest := []) d_Mo_analyse_30 (c_Mo_isFn (g := g) (ar := ar) eq13) cv_Mo_isFn tw1178 0 rfl rfl cut_same rfl rfl (Nat.le_of_ble_eq_true rfl) (kc2 := 0) (ks2 := 0) (by decide) ?_
        refine j_if_eq (pc := 33) C d_Mo_analyse_33 (tgt := 64) rfl (fun h14 => ?_) (fun h14 => ?_)
        · rw [if_pos h14] at hf
          refine j_aload_n (pc := 64) C d_Mo_analyse_64 rfl 0 rfl ?_
          refine j_get (pc := 65) C d_Mo_analyse_65 0 21 wR_o0 rfl (v := .ref (ar 17)) rfl (by decide) tw963 ?_
          refine j_aload_n (pc := 68) C d_Mo_analyse_68 rfl 0 rfl ?_
          refine j_get (pc := 69) C d_Mo_analyse_69 0 19 wR_o0 rfl (v := .int (q13.2.2.1 4)) rfl (by decide) tw961 ?_
          refine j_iconst (pc := 72) C d_Mo_analyse_72 ck_1 ?_
          refine j_isub (pc := 73) C d_Mo_analyse_73 ?_
          refine j_iload_n (pc := 74) C d_Mo_analyse_74 rfl 1 rfl ?_
          refine j_iconst (pc := 75) C d_Mo_analyse_75 ck_1 ?_
          refine j_iadd (pc := 76) C d_Mo_analyse_76 ?_
          obtain ⟨b15, hf⟩ := og hf
          refine j_iast (pc := 77) C d_Mo_analyse_77 17 (inb_in b15) wR_a17 (ws' := wR g ar (va_up q13.2.1 17 (upd (q13.2.1 17) ((q13.2.2.1 4) - 1).toNatClampNeg (x.1 + 1))) q13.2.2.1 q13.2.2.2) wR_s17 ?_
          refine j_iinc (pc := 78) C d_Mo_analyse_78 1 rfl (v := x.1 + 1) (iv ci_1) [1, 0] (by decide) (lc' := [(0, .ref (ar 0)), (1, .int (x.1 + 1))]) rfl ?_
          refine j_goto (pc := 81) C d_Mo_analyse_81 (tgt := 16) rfl ?_
          exact k16_ih (x.1 + 1, ((va_up q13.2.1 17 (upd (q13.2.1 17) ((q13.2.2.1 4) - 1).toNatClampNeg (x.1 + 1))), q13.2.2.1, q13.2.2.2)) hf
        · rw [if_neg h14] at hf
          refine j_aload_n (pc := 36) C d_Mo_analyse_36 rfl 0 rfl ?_
          refine j_get (pc := 37) C d_Mo_analyse_37 0 19 wR_o0 rfl (v := .int (q13.2.2.1 4)) rfl (by decide) tw961 ?_
          refine j_iconst (pc := 40) C d_Mo_analyse_40 ck_4 ?_
          refine j_icmp_ge (pc := 41) C d_Mo_analyse_41 (tgt := 64) rfl (fun h16 => ?_) (fun h16 => ?_)
          · rw [if_pos h16] at hf
            refine j_aload_n (pc := 64) C d_Mo_analyse_64 rfl 0 rfl ?_
            refine j_get (pc := 65) C d_Mo_analyse_65 0 21 wR_o0 rfl (v := .ref (ar 17)) rfl (by decide) tw963 ?_
            refine j_aload_n (pc := 68) C d_Mo_analyse_68 rfl 0 rfl ?_
            refine j_get (pc := 69) C d_Mo_analyse_69 0 19 wR_o0 rfl (v := .int (q13.2.2.1 4)) rfl (by decide) tw961 ?_
            refine j_iconst (pc := 72) C d_Mo_analyse_72 ck_1 ?_
            refine j_isub (pc := 73) C d_Mo_analyse_73 ?_
            refine j_iload_n (pc := 74) C d_Mo_analyse_74 rfl 1 rfl ?_
            refine j_iconst (pc := 75) C d_Mo_analyse_75 ck_1 ?_
            refine j_iadd (pc := 76) C d_Mo_analyse_76 ?_
            obtain ⟨b17, hf⟩ := og hf
            refine j_iast (pc := 77) C d_Mo_analyse_77 17 (inb_in b17) wR_a17 (ws' := wR g ar (va_up q13.2.1 17 (upd (q13.2.1 17) ((q13.2.2.1 4) - 1).toNatClampNeg (x.1 + 1))) q13.2.2.1 q13.2.2.2) wR_s17 ?_
            refine j_iinc (pc := 78) C d_Mo_analyse_78 1 rfl (v := x.1 + 1) (iv ci_1) [1, 0] (by decide) (lc' := [(0, .ref (ar 0)), (1, .int (x.1 + 1))]) rfl ?_
            refine j_goto (pc := 81) C d_Mo_analyse_81 (tgt := 16) rfl ?_
            exact k16_ih (x.1 + 1, ((va_up q13.2.1 17 (upd (q13.2.1 17) ((q13.2.2.1 4) - 1).toNatClampNeg (x.1 + 1))), q13.2.2.1, q13.2.2.2)) hf
          · rw [if_neg h16] at hf
            refine j_aload_n (pc := 44) C d_Mo_analyse_44 rfl 0 rfl ?_
            refine j_get (pc := 45) C d_Mo_analyse_45 0 20 wR_o0 rfl (v := .ref (ar 16)) rfl (by decide) tw962 ?_
            refine j_aload_n (pc := 48) C d_Mo_analyse_48 rfl 0 rfl ?_
            refine j_get (pc := 49) C d_Mo_analyse_49 0 19 wR_o0 rfl (v := .int (q13.2.2.1 4)) rfl (by decide) tw961 ?_
            refine j_iload_n (pc := 52) C d_Mo_analyse_52 rfl 1 rfl ?_
            obtain ⟨b18, hf⟩ := og hf
            refine j_iast (pc := 53) C d_Mo_analyse_53 16 (inb_in b18) wR_a16 (ws' := wR g ar (va_up q13.2.1 16 (upd (q13.2.1 16) (q13.2.2.1 4).toNatClampNeg x.1)) q13.2.2.1 q13.2.2.2) wR_s16 ?_
            refine j_aload_n (pc := 54) C d_Mo_analyse_54 rfl 0 rfl ?_
            refine j_dup (pc := 55) C d_Mo_analyse_55 rfl ?_
            refine j_get (pc := 56) C d_Mo_analyse_56 0 19 wR_o0 rfl (v := .int (q13.2.2.1 4)) rfl (by decide) tw961 ?_
            refine j_iconst (pc := 59) C d_Mo_analyse_59 ck_1 ?_
            refine j_iadd (pc := 60) C d_Mo_analyse_60 ?_
            refine j_put (pc := 61) C d_Mo_analyse_61 0 19 wR_o0 rfl (by decide) tw961 pd_I rfl rfl rfl (Nat.le_of_ble_eq_true rfl) (ws' := wR g ar (va_up q13.2.1 16 (upd (q13.2.1 16) (q13.2.2.1 4).toNatClampNeg x.1)) (va_up q13.2.2.1 4 ((q13.2.2.1 4) + 1)) q13.2.2.2) wR_p0_19 ?_
            refine j_aload_n (pc := 64) C d_Mo_analyse_64 rfl 0 rfl ?_
            refine j_get (pc := 65) C d_Mo_analyse_65 0 21 wR_o0 rfl (v := .ref (ar 17)) rfl (by decide) tw963 ?_
            refine j_aload_n (pc := 68) C d_Mo_analyse_68 rfl 0 rfl ?_
            refine j_get (pc := 69) C d_Mo_analyse_69 0 19 wR_o0 rfl (v := .int ((q13.2.2.1 4) + 1)) rfl (by decide) tw961 ?_
            refine j_iconst (pc := 72) C d_Mo_analyse_72 ck_1 ?_
            refine j_isub (pc := 73) C d_Mo_analyse_73 ?_
            refine j_iload_n (pc := 74) C d_Mo_analyse_74 rfl 1 rfl ?_
            refine j_iconst (pc := 75) C d_Mo_analyse_75 ck_1 ?_
            refine j_iadd (pc := 76) C d_Mo_analyse_76 ?_
            obtain ⟨b19, hf⟩ := og hf
            refine j_iast (pc := 77) C d_Mo_analyse_77 17 (inb_in b19) wR_a17 (ws' := wR g ar (va_up (va_up q13.2.1 16 (upd (q13.2.1 16) (q13.2.2.1 4).toNatClampNeg x.1)) 17 (upd (q13.2.1 17) (((q13.2.2.1 4) + 1) - 1).toNatClampNeg (x.1 + 1))) (va_up q13.2.2.1 4 ((q13.2.2.1 4) + 1)) q13.2.2.2) wR_s17 ?_
            refine j_iinc (pc := 78) C d_Mo_analyse_78 1 rfl (v := x.1 + 1) (iv ci_1) [1, 0] (by decide) (lc' := [(0, .ref (ar 0)), (1, .int (x.1 + 1))]) rfl ?_
            refine j_goto (pc := 81) C d_Mo_analyse_81 (tgt := 16) rfl ?_
            exact k16_ih (x.1 + 1, ((va_up (va_up q13.2.1 16 (upd (q13.2.1 16) (q13.2.2.1 4).toNatClampNeg x.1)) 17 (upd (q13.2.1 17) (((q13.2.2.1 4) + 1) - 1).toNatClampNeg (x.1 + 1))), (va_up q13.2.2.1 4 ((q13.2.2.1 4) + 1)), q13.2.2.2)) hf
  unfold f_Mo_analyse at hf
  change 𝒥 0 0 (wR g ar r.1 r.2.1 r.2.2) [(0, .ref (ar 0))] [] 0
  refine j_aload_n (pc := 0) C d_Mo_analyse_0 rfl 0 rfl ?_
  obtain ⟨q1, eq1, hf⟩ := ob hf
  refine j_callVv (pc := 1) C (rest := []) d_Mo_analyse_1 (c_Mo_scan (g := g) (ar := ar) eq1) cv_Mo_scan tw1151 0 rfl rfl cut_same rfl rfl (Nat.le_of_ble_eq_true rfl) (kc2 := 0) (ks2 := 0) (by decide) ?_
  refine j_aload_n (pc := 4) C d_Mo_analyse_4 rfl 0 rfl ?_
  refine j_iconst (pc := 5) C d_Mo_analyse_5 ck_0 ?_
  refine j_put (pc := 6) C d_Mo_analyse_6 0 19 wR_o0 rfl (by decide) tw961 pd_I rfl rfl rfl (Nat.le_of_ble_eq_true rfl) (ws' := wR g ar q1.1 (va_up q1.2.1 4 0) q1.2.2) wR_p0_19 ?_
  refine j_aload_n (pc := 9) C d_Mo_analyse_9 rfl 0 rfl ?_
  refine j_iconst (pc := 10) C d_Mo_analyse_10 ck_0 ?_
  refine j_put (pc := 11) C d_Mo_analyse_11 0 24 wR_o0 rfl (by decide) tw966 pd_I rfl rfl rfl (Nat.le_of_ble_eq_true rfl) (ws' := wR g ar q1.1 (va_up (va_up q1.2.1 4 0) 5 0) q1.2.2) wR_p0_24 ?_
  refine j_iconst (pc := 14) C d_Mo_analyse_14 ck_0 ?_
  refine j_istore_n (pc := 15) C d_Mo_analyse_15 rfl [1, 0] (by decide) (lc' := [(0, .ref (ar 0)), (1, .int 0)]) rfl ?_
  exact L16 100000 (0, (q1.1, (va_up (va_up q1.2.1 4 0) 5 0), q1.2.2)) hf
abbrev rm_Mo_tokens : Room := { frames := 6, cells := 0, slots := 0, locals := 132 }
theorem cv_Mo_tokens : CV y_Mo_tokens b_Mo_tokens 1 (some .int) 0 := ⟨⟨tw1146, tw10, by decide +kernel⟩, tw1144, tw1145⟩
set_option maxHeartbeats 4000000 in
set_option maxRecDepth 100000 in
theorem c_Mo_tokens {g : GT} {ar : Nat → Nat} {r : RS} {q : Int32 × RS} (hf : f_Mo_tokens r = some q) : MI g y_Mo_tokens b_Mo_tokens 1 (some .int) rm_Mo_tokens [.ref (ar 0)] (wR g ar r.1 r.2.1 r.2.2) q.1 (wR g ar q.2.1 q.2.2.1 q.2.2.2) := by
  refine MI.of (by decide) (Nat.le_of_ble_eq_true rfl) (fun 𝒥 C => ?_)
  unfold f_Mo_tokens at hf
  change 𝒥 0 0 (wR g ar r.1 r.2.1 r.2.2) [(0, .ref (ar 0))] [] 0
  refine j_aload_n (pc := 0) C d_Mo_tokens_0 rfl 0 rfl ?_
  refine j_iconst (pc := 1) C d_Mo_tokens_1 ck_0 ?_
  refine j_put (pc := 2) C d_Mo_tokens_2 0 1 wR_o0 rfl (by decide) tw943 pd_I rfl rfl rfl (Nat.le_of_ble_eq_true rfl) (ws' := wR g ar r.1 (va_up r.2.1 0 0) r.2.2) wR_p0_1 ?_
  refine j_aload_n (pc := 5) C d_Mo_tokens_5 rfl 0 rfl ?_
  obtain ⟨q1, eq1, hf⟩ := ob hf
  refine j_callVv (pc := 6) C (rest := []) d_Mo_tokens_6 (c_Mo_analyse (g := g) (ar := ar) eq1) cv_Mo_analyse tw1147 0 rfl rfl cut_same rfl rfl (Nat.le_of_ble_eq_true rfl) (kc2 := 0) (ks2 := 0) (by decide) ?_
  refine j_aload_n (pc := 9) C d_Mo_tokens_9 rfl 0 rfl ?_
  refine j_get (pc := 10) C d_Mo_tokens_10 0 7 wR_o0 rfl (v := .int (q1.2.1 3)) rfl (by decide) tw949 ?_
  cases hf
  exact j_iret (pc := 13) C d_Mo_tokens_13 ⟨rfl, rfl⟩ (Nat.le_of_ble_eq_true rfl) (Nat.le_of_ble_eq_true rfl)
abbrev rm_Mo_token : Room := { frames := 6, cells := 0, slots := 0, locals := 132 }
theorem cv_Mo_token : CV y_Mo_token b_Mo_token 3 (some .int) 2 := ⟨⟨tw1261, tw10, by decide +kernel⟩, tw1259, tw1260⟩
set_option maxHeartbeats 4000000 in
set_option maxRecDepth 100000 in
theorem c_Mo_token {g : GT} {ar : Nat → Nat} {a1 : Int32} {a2 : Int32} {r : RS} {q : Int32 × RS} (hf : f_Mo_token a1 a2 r = some q) : MI g y_Mo_token b_Mo_token 3 (some .int) rm_Mo_token [.ref (ar 0), .int a1, .int a2] (wR g ar r.1 r.2.1 r.2.2) q.1 (wR g ar q.2.1 q.2.2.1 q.2.2.2) := by
  refine MI.of (by decide) (Nat.le_of_ble_eq_true rfl) (fun 𝒥 C => ?_)
  unfold f_Mo_token at hf
  change 𝒥 0 0 (wR g ar r.1 r.2.1 r.2.2) [(0, .ref (ar 0)), (1, .int a1), (2, .int a2)] [] 0
  refine j_aload_n (pc := 0) C d_Mo_token_0 rfl 0 rfl ?_
  refine j_iconst (pc := 1) C d_Mo_token_1 ck_0 ?_
  refine j_put (pc := 2) C d_Mo_token_2 0 1 wR_o0 rfl (by decide) tw943 pd_I rfl rfl rfl (Nat.le_of_ble_eq_true rfl) (ws' := wR g ar r.1 (va_up r.2.1 0 0) r.2.2) wR_p0_1 ?_
  refine j_iload_n (pc := 5) C d_Mo_token_5 rfl 2 rfl ?_
  refine j_if_lt (pc := 6) C d_Mo_token_6 (tgt := 14) rfl (fun h1 => ?_) (fun h1 => ?_)
  · rw [if_pos h1] at hf
    refine j_aload_n (pc := 14) C d_Mo_token_14 rfl 0 rfl ?_
    refine j_iconst (pc := 15) C d_Mo_token_15 ck_1 ?_
    obtain ⟨q2, eq2, hf⟩ := ob hf
    refine j_callVi (pc := 16) C (rest := []) d_Mo_token_16 (c_Mo_fails (g := g) (ar := ar) eq2) cv_Mo_fails tw1262 0 rfl rfl cut_same rfl rfl (Nat.le_of_ble_eq_true rfl) (kc2 := 0) (ks2 := 0) (by decide) ?_
    cases hf
    exact j_iret (pc := 19) C d_Mo_token_19 ⟨rfl, rfl⟩ (Nat.le_of_ble_eq_true rfl) (Nat.le_of_ble_eq_true rfl)
  · rw [if_neg h1] at hf
    refine j_iload_n (pc := 9) C d_Mo_token_9 rfl 2 rfl ?_
    refine j_iconst (pc := 10) C d_Mo_token_10 ck_3 ?_
    refine j_icmp_le (pc := 11) C d_Mo_token_11 (tgt := 20) rfl (fun h3 => ?_) (fun h3 => ?_)
    · rw [if_pos h3] at hf
      refine j_aload_n (pc := 20) C d_Mo_token_20 rfl 0 rfl ?_
      obtain ⟨q4, eq4, hf⟩ := ob hf
      refine j_callVv (pc := 21) C (rest := []) d_Mo_token_21 (c_Mo_analyse (g := g) (ar := ar) eq4) cv_Mo_analyse tw1147 0 rfl rfl cut_same rfl rfl (Nat.le_of_ble_eq_true rfl) (kc2 := 0) (ks2 := 0) (by decide) ?_
      refine j_iload_n (pc := 24) C d_Mo_token_24 rfl 1 rfl ?_
      refine j_if_lt (pc := 25) C d_Mo_token_25 (tgt := 36) rfl (fun h5 => ?_) (fun h5 => ?_)
      · rw [if_pos h5] at hf
        refine j_aload_n (pc := 36) C d_Mo_token_36 rfl 0 rfl ?_
        refine j_iconst (pc := 37) C d_Mo_token_37 ck_2 ?_
        obtain ⟨q6, eq6, hf⟩ := ob hf
        refine j_callVi (pc := 38) C (rest := []) d_Mo_token_38 (c_Mo_fails (g := g) (ar := ar) eq6) cv_Mo_fails tw1262 0 rfl rfl cut_same rfl rfl (Nat.le_of_ble_eq_true rfl) (kc2 := 0) (ks2 := 0) (by decide) ?_
        cases hf
        exact j_iret (pc := 41) C d_Mo_token_41 ⟨rfl, rfl⟩ (Nat.le_of_ble_eq_true rfl) (Nat.le_of_ble_eq_true rfl)
      · rw [if_neg h5] at hf
        refine j_iload_n (pc := 28) C d_Mo_token_28 rfl 1 rfl ?_
        refine j_aload_n (pc := 29) C d_Mo_token_29 rfl 0 rfl ?_
        refine j_get (pc := 30) C d_Mo_token_30 0 7 wR_o0 rfl (v := .int (q4.2.1 3)) rfl (by decide) tw949 ?_
        refine j_icmp_lt (pc := 33) C d_Mo_token_33 (tgt := 42) rfl (fun h7 => ?_) (fun h7 => ?_)
        · rw [if_pos h7] at hf
          refine j_iload_n (pc := 42) C d_Mo_token_42 rfl 2 rfl ?_
          refine j_if_ne (pc := 43) C d_Mo_token_43 (tgt := 55) rfl (fun h8 => ?_) (fun h8 => ?_)
          · rw [if_neg h8] at hf
            refine j_iload_n (pc := 55) C d_Mo_token_55 rfl 2 rfl ?_
            refine j_iconst (pc := 56) C d_Mo_token_56 ck_1 ?_
            refine j_icmp_ne (pc := 57) C d_Mo_token_57 (tgt := 69) rfl (fun h9 => ?_) (fun h9 => ?_)
            · rw [if_neg h9] at hf
              refine j_iload_n (pc := 69) C d_Mo_token_69 rfl 2 rfl ?_
              refine j_iconst (pc := 70) C d_Mo_token_70 ck_2 ?_
              refine j_icmp_ne (pc := 71) C d_Mo_token_71 (tgt := 83) rfl (fun h10 => ?_) (fun h10 => ?_)
              · rw [if_neg h10] at hf
                refine j_aload_n (pc := 83) C d_Mo_token_83 rfl 0 rfl ?_
                refine j_get (pc := 84) C d_Mo_token_84 0 13 wR_o0 rfl (v := .ref (ar 10)) rfl (by decide) tw955 ?_
                refine j_iload_n (pc := 87) C d_Mo_token_87 rfl 1 rfl ?_
                obtain ⟨b11, hf⟩ := og hf
                refine j_iald (pc := 88) C d_Mo_token_88 10 (inb_in b11) (x := q4.1 10 a1.toNatClampNeg) wR_a10 rfl ?_
                cases hf
                exact j_iret (pc := 89) C d_Mo_token_89 ⟨rfl, rfl⟩ (Nat.le_of_ble_eq_true rfl) (Nat.le_of_ble_eq_true rfl)
              · rw [if_pos h10] at hf
                refine j_aload_n (pc := 74) C d_Mo_token_74 rfl 0 rfl ?_
                refine j_get (pc := 75) C d_Mo_token_75 0 10 wR_o0 rfl (v := .ref (ar 7)) rfl (by decide) tw952 ?_
                refine j_iload_n (pc := 78) C d_Mo_token_78 rfl 1 rfl ?_
                obtain ⟨b12, hf⟩ := og hf
                refine j_iald (pc := 79) C d_Mo_token_79 7 (inb_in b12) (x := q4.1 7 a1.toNatClampNeg) wR_a7 rfl ?_
                refine j_goto (pc := 80) C d_Mo_token_80 (tgt := 89) rfl ?_
                cases hf
                exact j_iret (pc := 89) C d_Mo_token_89 ⟨rfl, rfl⟩ (Nat.le_of_ble_eq_true rfl) (Nat.le_of_ble_eq_true rfl)
            · rw [if_pos h9] at hf
              refine j_aload_n (pc := 60) C d_Mo_token_60 rfl 0 rfl ?_
              refine j_get (pc := 61) C d_Mo_token_61 0 9 wR_o0 rfl (v := .ref (ar 6)) rfl (by decide) tw951 ?_
              refine j_iload_n (pc := 64) C d_Mo_token_64 rfl 1 rfl ?_
              obtain ⟨b13, hf⟩ := og hf
              refine j_iald (pc := 65) C d_Mo_token_65 6 (inb_in b13) (x := q4.1 6 a1.toNatClampNeg) wR_a6 rfl ?_
              refine j_goto (pc := 66) C d_Mo_token_66 (tgt := 89) rfl ?_
              cases hf
              exact j_iret (pc := 89) C d_Mo_token_89 ⟨rfl, rfl⟩ (Nat.le_of_ble_eq_true rfl) (Nat.le_of_ble_eq_true rfl)
          · rw [if_pos h8] at hf
            refine j_aload_n (pc := 46) C d_Mo_token_46 rfl 0 rfl ?_
            refine j_get (pc := 47) C d_Mo_token_47 0 8 wR_o0 rfl (v := .ref (ar 5)) rfl (by decide) tw950 ?_
            refine j_iload_n (pc := 50) C d_Mo_token_50 rfl 1 rfl ?_
            obtain ⟨b14, hf⟩ := og hf
            refine j_iald (pc := 51) C d_Mo_token_51 5 (inb_in b14) (x := q4.1 5 a1.toNatClampNeg) wR_a5 rfl ?_
            refine j_goto (pc := 52) C d_Mo_token_52 (tgt := 89) rfl ?_
            cases hf
            exact j_iret (pc := 89) C d_Mo_token_89 ⟨rfl, rfl⟩ (Nat.le_of_ble_eq_true rfl) (Nat.le_of_ble_eq_true rfl)
        · rw [if_neg h7] at hf
          refine j_aload_n (pc := 36) C d_Mo_token_36 rfl 0 rfl ?_
          refine j_iconst (pc := 37) C d_Mo_token_37 ck_2 ?_
          obtain ⟨q15, eq15, hf⟩ := ob hf
          refine j_callVi (pc := 38) C (rest := []) d_Mo_token_38 (c_Mo_fails (g := g) (ar := ar) eq15) cv_Mo_fails tw1262 0 rfl rfl cut_same rfl rfl (Nat.le_of_ble_eq_true rfl) (kc2 := 0) (ks2 := 0) (by decide) ?_
          cases hf
          exact j_iret (pc := 41) C d_Mo_token_41 ⟨rfl, rfl⟩ (Nat.le_of_ble_eq_true rfl) (Nat.le_of_ble_eq_true rfl)
    · rw [if_neg h3] at hf
      refine j_aload_n (pc := 14) C d_Mo_token_14 rfl 0 rfl ?_
      refine j_iconst (pc := 15) C d_Mo_token_15 ck_1 ?_
      obtain ⟨q16, eq16, hf⟩ := ob hf
      refine j_callVi (pc := 16) C (rest := []) d_Mo_token_16 (c_Mo_fails (g := g) (ar := ar) eq16) cv_Mo_fails tw1262 0 rfl rfl cut_same rfl rfl (Nat.le_of_ble_eq_true rfl) (kc2 := 0) (ks2 := 0) (by decide) ?_
      cases hf
      exact j_iret (pc := 19) C d_Mo_token_19 ⟨rfl, rfl⟩ (Nat.le_of_ble_eq_true rfl) (Nat.le_of_ble_eq_true rfl)
abbrev rm_Mo_faults : Room := { frames := 6, cells := 0, slots := 0, locals := 132 }
theorem cv_Mo_faults : CV y_Mo_faults b_Mo_faults 1 (some .int) 0 := ⟨⟨tw1269, tw10, by decide +kernel⟩, tw1267, tw1268⟩
set_option maxHeartbeats 4000000 in
set_option maxRecDepth 100000 in
theorem c_Mo_faults {g : GT} {ar : Nat → Nat} {r : RS} {q : Int32 × RS} (hf : f_Mo_faults r = some q) : MI g y_Mo_faults b_Mo_faults 1 (some .int) rm_Mo_faults [.ref (ar 0)] (wR g ar r.1 r.2.1 r.2.2) q.1 (wR g ar q.2.1 q.2.2.1 q.2.2.2) := by
  refine MI.of (by decide) (Nat.le_of_ble_eq_true rfl) (fun 𝒥 C => ?_)
  unfold f_Mo_faults at hf
  change 𝒥 0 0 (wR g ar r.1 r.2.1 r.2.2) [(0, .ref (ar 0))] [] 0
  refine j_aload_n (pc := 0) C d_Mo_faults_0 rfl 0 rfl ?_
  refine j_iconst (pc := 1) C d_Mo_faults_1 ck_0 ?_
  refine j_put (pc := 2) C d_Mo_faults_2 0 1 wR_o0 rfl (by decide) tw943 pd_I rfl rfl rfl (Nat.le_of_ble_eq_true rfl) (ws' := wR g ar r.1 (va_up r.2.1 0 0) r.2.2) wR_p0_1 ?_
  refine j_aload_n (pc := 5) C d_Mo_faults_5 rfl 0 rfl ?_
  obtain ⟨q1, eq1, hf⟩ := ob hf
  refine j_callVv (pc := 6) C (rest := []) d_Mo_faults_6 (c_Mo_analyse (g := g) (ar := ar) eq1) cv_Mo_analyse tw1147 0 rfl rfl cut_same rfl rfl (Nat.le_of_ble_eq_true rfl) (kc2 := 0) (ks2 := 0) (by decide) ?_
  refine j_aload_n (pc := 9) C d_Mo_faults_9 rfl 0 rfl ?_
  refine j_get (pc := 10) C d_Mo_faults_10 0 24 wR_o0 rfl (v := .int (q1.2.1 5)) rfl (by decide) tw966 ?_
  cases hf
  exact j_iret (pc := 13) C d_Mo_faults_13 ⟨rfl, rfl⟩ (Nat.le_of_ble_eq_true rfl) (Nat.le_of_ble_eq_true rfl)
abbrev rm_Mo_fault : Room := { frames := 6, cells := 0, slots := 0, locals := 132 }
theorem cv_Mo_fault : CV y_Mo_fault b_Mo_fault 2 (some .int) 1 := ⟨⟨tw1273, tw10, by decide +kernel⟩, tw1271, tw1272⟩
set_option maxHeartbeats 4000000 in
set_option maxRecDepth 100000 in
theorem c_Mo_fault {g : GT} {ar : Nat → Nat} {a1 : Int32} {r : RS} {q : Int32 × RS} (hf : f_Mo_fault a1 r = some q) : MI g y_Mo_fault b_Mo_fault 2 (some .int) rm_Mo_fault [.ref (ar 0), .int a1] (wR g ar r.1 r.2.1 r.2.2) q.1 (wR g ar q.2.1 q.2.2.1 q.2.2.2) := by
  refine MI.of (by decide) (Nat.le_of_ble_eq_true rfl) (fun 𝒥 C => ?_)
  unfold f_Mo_fault at hf
  change 𝒥 0 0 (wR g ar r.1 r.2.1 r.2.2) [(0, .ref (ar 0)), (1, .int a1)] [] 0
  refine j_aload_n (pc := 0) C d_Mo_fault_0 rfl 0 rfl ?_
  refine j_iconst (pc := 1) C d_Mo_fault_1 ck_0 ?_
  refine j_put (pc := 2) C d_Mo_fault_2 0 1 wR_o0 rfl (by decide) tw943 pd_I rfl rfl rfl (Nat.le_of_ble_eq_true rfl) (ws' := wR g ar r.1 (va_up r.2.1 0 0) r.2.2) wR_p0_1 ?_
  refine j_aload_n (pc := 5) C d_Mo_fault_5 rfl 0 rfl ?_
  obtain ⟨q1, eq1, hf⟩ := ob hf
  refine j_callVv (pc := 6) C (rest := []) d_Mo_fault_6 (c_Mo_analyse (g := g) (ar := ar) eq1) cv_Mo_analyse tw1147 0 rfl rfl cut_same rfl rfl (Nat.le_of_ble_eq_true rfl) (kc2 := 0) (ks2 := 0) (by decide) ?_
  refine j_iload_n (pc := 9) C d_Mo_fault_9 rfl 1 rfl ?_
  refine j_if_lt (pc := 10) C d_Mo_fault_10 (tgt := 21) rfl (fun h2 => ?_) (fun h2 => ?_)
  · rw [if_pos h2] at hf
    refine j_aload_n (pc := 21) C d_Mo_fault_21 rfl 0 rfl ?_
    refine j_iconst (pc := 22) C d_Mo_fault_22 ck_1 ?_
    obtain ⟨q3, eq3, hf⟩ := ob hf
    refine j_callVi (pc := 23) C (rest := []) d_Mo_fault_23 (c_Mo_fails (g := g) (ar := ar) eq3) cv_Mo_fails tw1262 0 rfl rfl cut_same rfl rfl (Nat.le_of_ble_eq_true rfl) (kc2 := 0) (ks2 := 0) (by decide) ?_
    refine j_goto (pc := 26) C d_Mo_fault_26 (tgt := 35) rfl ?_
    cases hf
    exact j_iret (pc := 35) C d_Mo_fault_35 ⟨rfl, rfl⟩ (Nat.le_of_ble_eq_true rfl) (Nat.le_of_ble_eq_true rfl)
  · rw [if_neg h2] at hf
    refine j_iload_n (pc := 13) C d_Mo_fault_13 rfl 1 rfl ?_
    refine j_aload_n (pc := 14) C d_Mo_fault_14 rfl 0 rfl ?_
    refine j_get (pc := 15) C d_Mo_fault_15 0 24 wR_o0 rfl (v := .int (q1.2.1 5)) rfl (by decide) tw966 ?_
    refine j_icmp_lt (pc := 18) C d_Mo_fault_18 (tgt := 29) rfl (fun h4 => ?_) (fun h4 => ?_)
    · rw [if_pos h4] at hf
      refine j_aload_n (pc := 29) C d_Mo_fault_29 rfl 0 rfl ?_
      refine j_get (pc := 30) C d_Mo_fault_30 0 25 wR_o0 rfl (v := .ref (ar 20)) rfl (by decide) tw967 ?_
      refine j_iload_n (pc := 33) C d_Mo_fault_33 rfl 1 rfl ?_
      obtain ⟨b5, hf⟩ := og hf
      refine j_iald (pc := 34) C d_Mo_fault_34 20 (inb_in b5) (x := q1.1 20 a1.toNatClampNeg) wR_a20 rfl ?_
      cases hf
      exact j_iret (pc := 35) C d_Mo_fault_35 ⟨rfl, rfl⟩ (Nat.le_of_ble_eq_true rfl) (Nat.le_of_ble_eq_true rfl)
    · rw [if_neg h4] at hf
      refine j_aload_n (pc := 21) C d_Mo_fault_21 rfl 0 rfl ?_
      refine j_iconst (pc := 22) C d_Mo_fault_22 ck_1 ?_
      obtain ⟨q6, eq6, hf⟩ := ob hf
      refine j_callVi (pc := 23) C (rest := []) d_Mo_fault_23 (c_Mo_fails (g := g) (ar := ar) eq6) cv_Mo_fails tw1262 0 rfl rfl cut_same rfl rfl (Nat.le_of_ble_eq_true rfl) (kc2 := 0) (ks2 := 0) (by decide) ?_
      refine j_goto (pc := 26) C d_Mo_fault_26 (tgt := 35) rfl ?_
      cases hf
      exact j_iret (pc := 35) C d_Mo_fault_35 ⟨rfl, rfl⟩ (Nat.le_of_ble_eq_true rfl) (Nat.le_of_ble_eq_true rfl)
abbrev rm_Mo_boundAt : Room := { frames := 0, cells := 0, slots := 0, locals := 0 }
theorem cv_Mo_boundAt : CV y_Mo_boundAt b_Mo_boundAt 3 (some .int) 1 := ⟨⟨tw1281, tw10, by decide +kernel⟩, tw1280, (sw_ (q := (y_Mo_boundAt, 54)) (by decide +kernel) (by decide +kernel))⟩
set_option maxHeartbeats 4000000 in
set_option maxRecDepth 100000 in
theorem c_Mo_boundAt {g : GT} {ar : Nat → Nat} {a1 : Int32} {r : RS} {q : Int32 × RS} (hf : f_Mo_boundAt a1 r = some q) : MI g y_Mo_boundAt b_Mo_boundAt 3 (some .int) rm_Mo_boundAt [.ref (ar 0), .int a1] (wR g ar r.1 r.2.1 r.2.2) q.1 (wR g ar q.2.1 q.2.2.1 q.2.2.2) := by
  refine MI.of (by decide) (Nat.le_of_ble_eq_true rfl) (fun 𝒥 C => ?_)
  have L2 : ∀ (n : Nat) (x : Int32 × Int32 × RS), lpN (BMo_boundAt_2) n x = some q → 𝒥 0 0 (wR g ar x.2.2.1 x.2.2.2.1 x.2.2.2.2) [(0, .ref (ar 0)), (1, .int x.1), (2, .int x.2.1)] [] 2 := by
    refine lp_ind (fun k2 k2_ih x hf => ?_)
    unfold BMo_boundAt_2 at hf
    refine j_iload_n (pc := 2) C d_Mo_boundAt_2 rfl 2 rfl ?_
    refine j_aload_n (pc := 3) C d_Mo_boundAt_3 rfl 0 rfl ?_
    refine j_get (pc := 4) C d_Mo_boundAt_4 0 7 wR_o0 rfl (v := .int (x.2.2.2.1 3)) rfl (by decide) tw949 ?_
    refine j_icmp_ge (pc := 7) C d_Mo_boundAt_7 (tgt := 43) rfl (fun h1 => ?_) (fun h1 => ?_)
    · rw [if_pos h1] at hf
      refine j_iconst (pc := 43) C d_Mo_boundAt_43 ck_m1 ?_
      cases hf
      exact j_iret (pc := 44) C d_Mo_boundAt_44 ⟨rfl, rfl⟩ (Nat.le_of_ble_eq_true rfl) (Nat.le_of_ble_eq_true rfl)
    · rw [if_neg h1] at hf
      refine j_aload_n (pc := 10) C d_Mo_boundAt_10 rfl 0 rfl ?_
      refine j_get (pc := 11) C d_Mo_boundAt_11 0 9 wR_o0 rfl (v := .ref (ar 6)) rfl (by decide) tw951 ?_
      refine j_iload_n (pc := 14) C d_Mo_boundAt_14 rfl 2 rfl ?_
      obtain ⟨b2, hf⟩ := og hf
      refine j_iald (pc := 15) C d_Mo_boundAt_15 6 (inb_in b2) (x := x.2.2.1 6 x.2.1.toNatClampNeg) wR_a6 rfl ?_
      refine j_iload_n (pc := 16) C d_Mo_boundAt_16 rfl 1 rfl ?_
      refine j_icmp_gt (pc := 17) C d_Mo_boundAt_17 (tgt := 37) rfl (fun h3 => ?_) (fun h3 => ?_)
      · rw [if_pos h3] at hf
        refine j_iinc (pc := 37) C d_Mo_boundAt_37 2 rfl (v := x.2.1 + 1) (iv ci_1) [1, 2, 0] (by decide) (lc' := [(0, .ref (ar 0)), (1, .int x.1), (2, .int (x.2.1 + 1))]) rfl ?_
        refine j_goto (pc := 40) C d_Mo_boundAt_40 (tgt := 2) rfl ?_
        exact k2_ih (x.1, x.2.1 + 1, x.2.2) hf
      · rw [if_neg h3] at hf
        refine j_iload_n (pc := 20) C d_Mo_boundAt_20 rfl 1 rfl ?_
        refine j_aload_n (pc := 21) C d_Mo_boundAt_21 rfl 0 rfl ?_
        refine j_get (pc := 22) C d_Mo_boundAt_22 0 10 wR_o0 rfl (v := .ref (ar 7)) rfl (by decide) tw952 ?_
        refine j_iload_n (pc := 25) C d_Mo_boundAt_25 rfl 2 rfl ?_
        obtain ⟨b4, hf⟩ := og hf
        refine j_iald (pc := 26) C d_Mo_boundAt_26 7 (inb_in b4) (x := x.2.2.1 7 x.2.1.toNatClampNeg) wR_a7 rfl ?_
        refine j_icmp_ge (pc := 27) C d_Mo_boundAt_27 (tgt := 37) rfl (fun h5 => ?_) (fun h5 => ?_)
        · rw [if_pos h5] at hf
          refine j_iinc (pc := 37) C d_Mo_boundAt_37 2 rfl (v := x.2.1 + 1) (iv ci_1) [1, 2, 0] (by decide) (lc' := [(0, .ref (ar 0)), (1, .int x.1), (2, .int (x.2.1 + 1))]) rfl ?_
          refine j_goto (pc := 40) C d_Mo_boundAt_40 (tgt := 2) rfl ?_
          exact k2_ih (x.1, x.2.1 + 1, x.2.2) hf
        · rw [if_neg h5] at hf
          refine j_aload_n (pc := 30) C d_Mo_boundAt_30 rfl 0 rfl ?_
          refine j_get (pc := 31) C d_Mo_boundAt_31 0 13 wR_o0 rfl (v := .ref (ar 10)) rfl (by decide) tw955 ?_
          refine j_iload_n (pc := 34) C d_Mo_boundAt_34 rfl 2 rfl ?_
          obtain ⟨b6, hf⟩ := og hf
          refine j_iald (pc := 35) C d_Mo_boundAt_35 10 (inb_in b6) (x := x.2.2.1 10 x.2.1.toNatClampNeg) wR_a10 rfl ?_
          cases hf
          exact j_iret (pc := 36) C d_Mo_boundAt_36 ⟨rfl, rfl⟩ (Nat.le_of_ble_eq_true rfl) (Nat.le_of_ble_eq_true rfl)
  unfold f_Mo_boundAt at hf
  change 𝒥 0 0 (wR g ar r.1 r.2.1 r.2.2) [(0, .ref (ar 0)), (1, .int a1)] [] 0
  refine j_iconst (pc := 0) C d_Mo_boundAt_0 ck_0 ?_
  refine j_istore_n (pc := 1) C d_Mo_boundAt_1 rfl [1, 2, 0] (by decide) (lc' := [(0, .ref (ar 0)), (1, .int a1), (2, .int 0)]) rfl ?_
  exact L2 100000 (a1, 0, r) hf
abbrev rm_Mo_reference : Room := { frames := 6, cells := 0, slots := 0, locals := 132 }
theorem cv_Mo_reference : CV y_Mo_reference b_Mo_reference 6 (some .int) 2 := ⟨⟨tw1277, tw10, by decide +kernel⟩, tw1275, tw1276⟩
set_option maxHeartbeats 4000000 in
set_option maxRecDepth 100000 in
theorem c_Mo_reference {g : GT} {ar : Nat → Nat} {a1 : Int32} {a2 : Int32} {r : RS} {q : Int32 × RS} (hf : f_Mo_reference a1 a2 r = some q) : MI g y_Mo_reference b_Mo_reference 6 (some .int) rm_Mo_reference [.ref (ar 0), .int a1, .int a2] (wR g ar r.1 r.2.1 r.2.2) q.1 (wR g ar q.2.1 q.2.2.1 q.2.2.2) := by
  refine MI.of (by decide) (Nat.le_of_ble_eq_true rfl) (fun 𝒥 C => ?_)
  have L35 : ∀ (n : Nat) (x : Int32 × Int32 × Int32 × Int32 × Int32 × RS), lpN (BMo_reference_35) n x = some q → 𝒥 0 0 (wR g ar x.2.2.2.2.2.1 x.2.2.2.2.2.2.1 x.2.2.2.2.2.2.2) [(0, .ref (ar 0)), (1, .int x.1), (2, .int x.2.1), (3, .int x.2.2.1), (4, .int x.2.2.2.1), (5, .int x.2.2.2.2.1)] [] 35 := by
    refine lp_ind (fun k35 k35_ih x hf => ?_)
    unfold BMo_reference_35 at hf
    refine j_iload (pc := 35) C d_Mo_reference_35 5 rfl ?_
    refine j_aload_n (pc := 37) C d_Mo_reference_37 rfl 0 rfl ?_
    refine j_get (pc := 38) C d_Mo_reference_38 0 7 wR_o0 rfl (v := .int (x.2.2.2.2.2.2.1 3)) rfl (by decide) tw949 ?_
    refine j_icmp_ge (pc := 41) C d_Mo_reference_41 (tgt := 78) rfl (fun h6 => ?_) (fun h6 => ?_)
    · rw [if_pos h6] at hf
      refine j_iconst (pc := 78) C d_Mo_reference_78 ck_m1 ?_
      cases hf
      exact j_iret (pc := 79) C d_Mo_reference_79 ⟨rfl, rfl⟩ (Nat.le_of_ble_eq_true rfl) (Nat.le_of_ble_eq_true rfl)
    · rw [if_neg h6] at hf
      refine j_aload_n (pc := 44) C d_Mo_reference_44 rfl 0 rfl ?_
      refine j_get (pc := 45) C d_Mo_reference_45 0 13 wR_o0 rfl (v := .ref (ar 10)) rfl (by decide) tw955 ?_
      refine j_iload (pc := 48) C d_Mo_reference_48 5 rfl ?_
      obtain ⟨b7, hf⟩ := og hf
      refine j_iald (pc := 50) C d_Mo_reference_50 10 (inb_in b7) (x := x.2.2.2.2.2.1 10 x.2.2.2.2.1.toNatClampNeg) wR_a10 rfl ?_
      refine j_topi C (fun v8 ev8 => ?_)
      replace hf := ov ev8 hf
      refine j_iload_n (pc := 51) C d_Mo_reference_51 rfl 3 rfl ?_
      refine j_icmp_ne (pc := 52) C d_Mo_reference_52 (tgt := 72) rfl (fun h9 => ?_) (fun h9 => ?_)
      · rw [if_neg h9] at hf
        refine j_iinc (pc := 72) C d_Mo_reference_72 5 rfl (v := x.2.2.2.2.1 + 1) (iv ci_1) [1, 2, 3, 4, 5, 0] (by decide) (lc' := [(0, .ref (ar 0)), (1, .int x.1), (2, .int x.2.1), (3, .int x.2.2.1), (4, .int x.2.2.2.1), (5, .int (x.2.2.2.2.1 + 1))]) rfl ?_
        refine j_goto (pc := 75) C d_Mo_reference_75 (tgt := 35) rfl ?_
        exact k35_ih (x.1, x.2.1, x.2.2.1, x.2.2.2.1, x.2.2.2.2.1 + 1, x.2.2.2.2.2) hf
      · rw [if_pos h9] at hf
        refine j_iload (pc := 55) C d_Mo_reference_55 4 rfl ?_
        refine j_iload_n (pc := 57) C d_Mo_reference_57 rfl 2 rfl ?_
        refine j_icmp_ne (pc := 58) C d_Mo_reference_58 (tgt := 69) rfl (fun h10 => ?_) (fun h10 => ?_)
        · rw [if_neg h10] at hf
          refine j_iinc (pc := 69) C d_Mo_reference_69 4 rfl (v := x.2.2.2.1 + 1) (iv ci_1) [1, 2, 3, 4, 0, 5] (by decide) (lc' := [(0, .ref (ar 0)), (1, .int x.1), (2, .int x.2.1), (3, .int x.2.2.1), (4, .int (x.2.2.2.1 + 1)), (5, .int x.2.2.2.2.1)]) rfl ?_
          refine j_iinc (pc := 72) C d_Mo_reference_72 5 rfl (v := x.2.2.2.2.1 + 1) (iv ci_1) [1, 2, 3, 4, 5, 0] (by decide) (lc' := [(0, .ref (ar 0)), (1, .int x.1), (2, .int x.2.1), (3, .int x.2.2.1), (4, .int (x.2.2.2.1 + 1)), (5, .int (x.2.2.2.2.1 + 1))]) rfl ?_
          refine j_goto (pc := 75) C d_Mo_reference_75 (tgt := 35) rfl ?_
          exact k35_ih (x.1, x.2.1, x.2.2.1, x.2.2.2.1 + 1, x.2.2.2.2.1 + 1, x.2.2.2.2.2) hf
        · rw [if_pos h10] at hf
          refine j_aload_n (pc := 61) C d_Mo_reference_61 rfl 0 rfl ?_
          refine j_get (pc := 62) C d_Mo_reference_62 0 9 wR_o0 rfl (v := .ref (ar 6)) rfl (by decide) tw951 ?_
          refine j_iload (pc := 65) C d_Mo_reference_65 5 rfl ?_
          obtain ⟨b11, hf⟩ := og hf
          refine j_iald (pc := 67) C d_Mo_reference_67 6 (inb_in b11) (x := x.2.2.2.2.2.1 6 x.2.2.2.2.1.toNatClampNeg) wR_a6 rfl ?_
          refine j_topi C (fun v12 ev12 => ?_)
          replace hf := ov ev12 hf
          cases hf
          exact j_iret (pc := 68) C d_Mo_reference_68 ⟨rfl, rfl⟩ (Nat.le_of_ble_eq_true rfl) (Nat.le_of_ble_eq_true rfl)
  unfold f_Mo_reference at hf
  change 𝒥 0 0 (wR g ar r.1 r.2.1 r.2.2) [(0, .ref (ar 0)), (1, .int a1), (2, .int a2)] [] 0
  refine j_aload_n (pc := 0) C d_Mo_reference_0 rfl 0 rfl ?_
  refine j_iconst (pc := 1) C d_Mo_reference_1 ck_0 ?_
  refine j_put (pc := 2) C d_Mo_reference_2 0 1 wR_o0 rfl (by decide) tw943 pd_I rfl rfl rfl (Nat.le_of_ble_eq_true rfl) (ws' := wR g ar r.1 (va_up r.2.1 0 0) r.2.2) wR_p0_1 ?_
  refine j_aload_n (pc := 5) C d_Mo_reference_5 rfl 0 rfl ?_
  obtain ⟨q1, eq1, hf⟩ := ob hf
  refine j_callVv (pc := 6) C (rest := []) d_Mo_reference_6 (c_Mo_analyse (g := g) (ar := ar) eq1) cv_Mo_analyse tw1147 0 rfl rfl cut_same rfl rfl (Nat.le_of_ble_eq_true rfl) (kc2 := 0) (ks2 := 0) (by decide) ?_
  refine j_aload_n (pc := 9) C d_Mo_reference_9 rfl 0 rfl ?_
  refine j_iload_n (pc := 10) C d_Mo_reference_10 rfl 1 rfl ?_
  obtain ⟨q2, eq2, hf⟩ := ob hf
  refine j_callVi (pc := 11) C (rest := []) d_Mo_reference_11 (c_Mo_boundAt (g := g) (ar := ar) eq2) cv_Mo_boundAt tw1278 0 rfl rfl cut_same rfl rfl (Nat.le_of_ble_eq_true rfl) (kc2 := 0) (ks2 := 0) (by decide) ?_
  refine j_istore_n (pc := 14) C d_Mo_reference_14 rfl [1, 2, 3, 0] (by decide) (lc' := [(0, .ref (ar 0)), (1, .int a1), (2, .int a2), (3, .int q2.1)]) rfl ?_
  refine j_iload_n (pc := 15) C d_Mo_reference_15 rfl 3 rfl ?_
  refine j_if_lt (pc := 16) C d_Mo_reference_16 (tgt := 23) rfl (fun h3 => ?_) (fun h3 => ?_)
  · rw [if_pos h3] at hf
    refine j_aload_n (pc := 23) C d_Mo_reference_23 rfl 0 rfl ?_
    refine j_iconst (pc := 24) C d_Mo_reference_24 ck_1 ?_
    obtain ⟨q4, eq4, hf⟩ := ob hf
    refine j_callVi (pc := 25) C (rest := []) d_Mo_reference_25 (c_Mo_fails (g := g) (ar := ar) eq4) cv_Mo_fails tw1262 0 rfl rfl cut_same rfl rfl (Nat.le_of_ble_eq_true rfl) (kc2 := 0) (ks2 := 0) (by decide) ?_
    cases hf
    exact j_iret (pc := 28) C d_Mo_reference_28 ⟨rfl, rfl⟩ (Nat.le_of_ble_eq_true rfl) (Nat.le_of_ble_eq_true rfl)
  · rw [if_neg h3] at hf
    refine j_iload_n (pc := 19) C d_Mo_reference_19 rfl 2 rfl ?_
    refine j_if_ge (pc := 20) C d_Mo_reference_20 (tgt := 29) rfl (fun h5 => ?_) (fun h5 => ?_)
    · rw [if_pos h5] at hf
      refine j_iconst (pc := 29) C d_Mo_reference_29 ck_0 ?_
      refine j_istore (pc := 30) C d_Mo_reference_30 [1, 2, 3, 4, 0] (by decide) (lc' := [(0, .ref (ar 0)), (1, .int a1), (2, .int a2), (3, .int q2.1), (4, .int 0)]) rfl ?_
      refine j_iconst (pc := 32) C d_Mo_reference_32 ck_0 ?_
      refine j_istore (pc := 33) C d_Mo_reference_33 [1, 2, 3, 4, 5, 0] (by decide) (lc' := [(0, .ref (ar 0)), (1, .int a1), (2, .int a2), (3, .int q2.1), (4, .int 0), (5, .int 0)]) rfl ?_
      exact L35 100000 (a1, a2, q2.1, 0, 0, q2.2) hf
    · rw [if_neg h5] at hf
      refine j_aload_n (pc := 23) C d_Mo_reference_23 rfl 0 rfl ?_
      refine j_iconst (pc := 24) C d_Mo_reference_24 ck_1 ?_
      obtain ⟨q13, eq13, hf⟩ := ob hf
      refine j_callVi (pc := 25) C (rest := []) d_Mo_reference_25 (c_Mo_fails (g := g) (ar := ar) eq13) cv_Mo_fails tw1262 0 rfl rfl cut_same rfl rfl (Nat.le_of_ble_eq_true rfl) (kc2 := 0) (ks2 := 0) (by decide) ?_
      cases hf
      exact j_iret (pc := 28) C d_Mo_reference_28 ⟨rfl, rfl⟩ (Nat.le_of_ble_eq_true rfl) (Nat.le_of_ble_eq_true rfl)
abbrev rm_Mo_keep : Room := { frames := 0, cells := 0, slots := 0, locals := 0 }
theorem cv_Mo_keep : CV y_Mo_keep b_Mo_keep 2 none 0 := ⟨⟨tw1293, tw10, by decide +kernel⟩, tw1292, (sw_ (q := (y_Mo_keep, 54)) (by decide +kernel) (by decide +kernel))⟩
set_option maxHeartbeats 4000000 in
set_option maxRecDepth 100000 in
theorem c_Mo_keep {g : GT} {ar : Nat → Nat} {r : RS} {q : RS} (hf : f_Mo_keep r = some q) : MV g y_Mo_keep b_Mo_keep 2 none rm_Mo_keep [.ref (ar 0)] (wR g ar r.1 r.2.1 r.2.2) (wR g ar q.1 q.2.1 q.2.2) := by
  refine MV.of (by decide) (Nat.le_of_ble_eq_true rfl) (fun 𝒥 C => ?_)
  have L38 : ∀ (n : Nat) (x : Int32 × RS), lpN (BMo_keep_38) n x = some q → 𝒥 0 0 (wR g ar x.2.1 x.2.2.1 x.2.2.2) [(0, .ref (ar 0)), (1, .int x.1)] [] 38 := by
    refine lp_ind (fun k38 k38_ih x hf => ?_)
    unfold BMo_keep_38 at hf
    refine j_iload_n (pc := 38) C d_Mo_keep_38 rfl 1 rfl ?_
    refine j_aload_n (pc := 39) C d_Mo_keep_39 rfl 0 rfl ?_
    refine j_get (pc := 40) C d_Mo_keep_40 0 7 wR_o0 rfl (v := .int (x.2.2.1 3)) rfl (by decide) tw949 ?_
    refine j_icmp_ge (pc := 43) C d_Mo_keep_43 (tgt := 64) rfl (fun h2 => ?_) (fun h2 => ?_)
    · rw [if_pos h2] at hf
      cases hf
      exact j_vret (pc := 64) C d_Mo_keep_64 ⟨rfl, rfl⟩ (Nat.le_of_ble_eq_true rfl) (Nat.le_of_ble_eq_true rfl)
    · rw [if_neg h2] at hf
      refine j_aload_n (pc := 46) C d_Mo_keep_46 rfl 0 rfl ?_
      refine j_get (pc := 47) C d_Mo_keep_47 0 14 wR_o0 rfl (v := .ref (ar 11)) rfl (by decide) tw956 ?_
      refine j_iload_n (pc := 50) C d_Mo_keep_50 rfl 1 rfl ?_
      refine j_aload_n (pc := 51) C d_Mo_keep_51 rfl 0 rfl ?_
      refine j_get (pc := 52) C d_Mo_keep_52 0 13 wR_o0 rfl (v := .ref (ar 10)) rfl (by decide) tw955 ?_
      refine j_iload_n (pc := 55) C d_Mo_keep_55 rfl 1 rfl ?_
      obtain ⟨b3, hf⟩ := og hf
      refine j_iald (pc := 56) C d_Mo_keep_56 10 (inb_in b3) (x := x.2.1 10 x.1.toNatClampNeg) wR_a10 rfl ?_
      obtain ⟨b4, hf⟩ := og hf
      refine j_iast (pc := 57) C d_Mo_keep_57 11 (inb_in b4) wR_a11 (ws' := wR g ar (va_up x.2.1 11 (upd (x.2.1 11) x.1.toNatClampNeg (x.2.1 10 x.1.toNatClampNeg))) x.2.2.1 x.2.2.2) wR_s11 ?_
      refine j_iinc (pc := 58) C d_Mo_keep_58 1 rfl (v := x.1 + 1) (iv ci_1) [1, 0] (by decide) (lc' := [(0, .ref (ar 0)), (1, .int (x.1 + 1))]) rfl ?_
      refine j_goto (pc := 61) C d_Mo_keep_61 (tgt := 38) rfl ?_
      exact k38_ih (x.1 + 1, ((va_up x.2.1 11 (upd (x.2.1 11) x.1.toNatClampNeg (x.2.1 10 x.1.toNatClampNeg))), x.2.2.1, x.2.2.2)) hf
  have L2 : ∀ (n : Nat) (x : Int32 × RS), lpN (BMo_keep_2) n x = some q → 𝒥 0 0 (wR g ar x.2.1 x.2.2.1 x.2.2.2) [(0, .ref (ar 0)), (1, .int x.1)] [] 2 := by
    refine lp_ind (fun k2 k2_ih x hf => ?_)
    unfold BMo_keep_2 at hf
    refine j_iload_n (pc := 2) C d_Mo_keep_2 rfl 1 rfl ?_
    refine j_aload_n (pc := 3) C d_Mo_keep_3 rfl 0 rfl ?_
    refine j_get (pc := 4) C d_Mo_keep_4 0 3 wR_o0 rfl (v := .int (x.2.2.1 1)) rfl (by decide) tw945 ?_
    refine j_icmp_ge (pc := 7) C d_Mo_keep_7 (tgt := 28) rfl (fun h1 => ?_) (fun h1 => ?_)
    · rw [if_pos h1] at hf
      refine j_aload_n (pc := 28) C d_Mo_keep_28 rfl 0 rfl ?_
      refine j_aload_n (pc := 29) C d_Mo_keep_29 rfl 0 rfl ?_
      refine j_get (pc := 30) C d_Mo_keep_30 0 3 wR_o0 rfl (v := .int (x.2.2.1 1)) rfl (by decide) tw945 ?_
      refine j_put (pc := 33) C d_Mo_keep_33 0 5 wR_o0 rfl (by decide) tw947 pd_I rfl rfl rfl (Nat.le_of_ble_eq_true rfl) (ws' := wR g ar x.2.1 (va_up x.2.2.1 2 (x.2.2.1 1)) x.2.2.2) wR_p0_5 ?_
      refine j_iconst (pc := 36) C d_Mo_keep_36 ck_0 ?_
      refine j_istore_n (pc := 37) C d_Mo_keep_37 rfl [1, 0] (by decide) (lc' := [(0, .ref (ar 0)), (1, .int 0)]) rfl ?_
      exact L38 100000 (0, (x.2.1, (va_up x.2.2.1 2 (x.2.2.1 1)), x.2.2.2)) hf
    · rw [if_neg h1] at hf
      refine j_aload_n (pc := 10) C d_Mo_keep_10 rfl 0 rfl ?_
      refine j_get (pc := 11) C d_Mo_keep_11 0 4 wR_o0 rfl (v := .ref (ar 3)) rfl (by decide) tw946 ?_
      refine j_iload_n (pc := 14) C d_Mo_keep_14 rfl 1 rfl ?_
      refine j_aload_n (pc := 15) C d_Mo_keep_15 rfl 0 rfl ?_
      refine j_get (pc := 16) C d_Mo_keep_16 0 2 wR_o0 rfl (v := .ref (ar 2)) rfl (by decide) tw944 ?_
      refine j_iload_n (pc := 19) C d_Mo_keep_19 rfl 1 rfl ?_
      obtain ⟨b5, hf⟩ := og hf
      refine j_iald (pc := 20) C d_Mo_keep_20 2 (inb_in b5) (x := x.2.1 2 x.1.toNatClampNeg) wR_a2 rfl ?_
      obtain ⟨b6, hf⟩ := og hf
      refine j_iast (pc := 21) C d_Mo_keep_21 3 (inb_in b6) wR_a3 (ws' := wR g ar (va_up x.2.1 3 (upd (x.2.1 3) x.1.toNatClampNeg (x.2.1 2 x.1.toNatClampNeg))) x.2.2.1 x.2.2.2) wR_s3 ?_
      refine j_iinc (pc := 22) C d_Mo_keep_22 1 rfl (v := x.1 + 1) (iv ci_1) [1, 0] (by decide) (lc' := [(0, .ref (ar 0)), (1, .int (x.1 + 1))]) rfl ?_
      refine j_goto (pc := 25) C d_Mo_keep_25 (tgt := 2) rfl ?_
      exact k2_ih (x.1 + 1, ((va_up x.2.1 3 (upd (x.2.1 3) x.1.toNatClampNeg (x.2.1 2 x.1.toNatClampNeg))), x.2.2.1, x.2.2.2)) hf
  unfold f_Mo_keep at hf
  change 𝒥 0 0 (wR g ar r.1 r.2.1 r.2.2) [(0, .ref (ar 0))] [] 0
  refine j_iconst (pc := 0) C d_Mo_keep_0 ck_0 ?_
  refine j_istore_n (pc := 1) C d_Mo_keep_1 rfl [1, 0] (by decide) (lc' := [(0, .ref (ar 0)), (1, .int 0)]) rfl ?_
  exact L2 100000 (0, r) hf
abbrev rm_Mo_takeBack : Room := { frames := 1, cells := 0, slots := 0, locals := 21 }
theorem cv_Mo_takeBack : CV y_Mo_takeBack b_Mo_takeBack 3 (some .int) 1 := ⟨⟨tw1305, tw10, by decide +kernel⟩, tw1304, (sw_ (q := (y_Mo_takeBack, 54)) (by decide +kernel) (by decide +kernel))⟩
set_option maxHeartbeats 4000000 in
set_option maxRecDepth 100000 in
theorem c_Mo_takeBack {g : GT} {ar : Nat → Nat} {a1 : Int32} {r : RS} {q : Int32 × RS} (hf : f_Mo_takeBack a1 r = some q) : MI g y_Mo_takeBack b_Mo_takeBack 3 (some .int) rm_Mo_takeBack [.ref (ar 0), .int a1] (wR g ar r.1 r.2.1 r.2.2) q.1 (wR g ar q.2.1 q.2.2.1 q.2.2.2) := by
  refine MI.of (by decide) (Nat.le_of_ble_eq_true rfl) (fun 𝒥 C => ?_)
  have L2 : ∀ (n : Nat) (x : Int32 × Int32 × RS), lpN (BMo_takeBack_2) n x = some q → 𝒥 0 0 (wR g ar x.2.2.1 x.2.2.2.1 x.2.2.2.2) [(0, .ref (ar 0)), (1, .int x.1), (2, .int x.2.1)] [] 2 := by
    refine lp_ind (fun k2 k2_ih x hf => ?_)
    unfold BMo_takeBack_2 at hf
    refine j_iload_n (pc := 2) C d_Mo_takeBack_2 rfl 2 rfl ?_
    refine j_aload_n (pc := 3) C d_Mo_takeBack_3 rfl 0 rfl ?_
    refine j_get (pc := 4) C d_Mo_takeBack_4 0 5 wR_o0 rfl (v := .int (x.2.2.2.1 2)) rfl (by decide) tw947 ?_
    refine j_icmp_ge (pc := 7) C d_Mo_takeBack_7 (tgt := 28) rfl (fun h1 => ?_) (fun h1 => ?_)
    · rw [if_pos h1] at hf
      refine j_aload_n (pc := 28) C d_Mo_takeBack_28 rfl 0 rfl ?_
      refine j_aload_n (pc := 29) C d_Mo_takeBack_29 rfl 0 rfl ?_
      refine j_get (pc := 30) C d_Mo_takeBack_30 0 5 wR_o0 rfl (v := .int (x.2.2.2.1 2)) rfl (by decide) tw947 ?_
      refine j_put (pc := 33) C d_Mo_takeBack_33 0 3 wR_o0 rfl (by decide) tw945 pd_I rfl rfl rfl (Nat.le_of_ble_eq_true rfl) (ws' := wR g ar x.2.2.1 (va_up x.2.2.2.1 1 (x.2.2.2.1 2)) x.2.2.2.2) wR_p0_3 ?_
      refine j_aload_n (pc := 36) C d_Mo_takeBack_36 rfl 0 rfl ?_
      refine j_iload_n (pc := 37) C d_Mo_takeBack_37 rfl 1 rfl ?_
      obtain ⟨q2, eq2, hf⟩ := ob hf
      refine j_callVi (pc := 38) C (rest := []) d_Mo_takeBack_38 (c_Mo_fails (g := g) (ar := ar) eq2) cv_Mo_fails tw1262 0 rfl rfl cut_same rfl rfl (Nat.le_of_ble_eq_true rfl) (kc2 := 0) (ks2 := 0) (by decide) ?_
      cases hf
      exact j_iret (pc := 41) C d_Mo_takeBack_41 ⟨rfl, rfl⟩ (Nat.le_of_ble_eq_true rfl) (Nat.le_of_ble_eq_true rfl)
    · rw [if_neg h1] at hf
      refine j_aload_n (pc := 10) C d_Mo_takeBack_10 rfl 0 rfl ?_
      refine j_get (pc := 11) C d_Mo_takeBack_11 0 2 wR_o0 rfl (v := .ref (ar 2)) rfl (by decide) tw944 ?_
      refine j_iload_n (pc := 14) C d_Mo_takeBack_14 rfl 2 rfl ?_
      refine j_aload_n (pc := 15) C d_Mo_takeBack_15 rfl 0 rfl ?_
      refine j_get (pc := 16) C d_Mo_takeBack_16 0 4 wR_o0 rfl (v := .ref (ar 3)) rfl (by decide) tw946 ?_
      refine j_iload_n (pc := 19) C d_Mo_takeBack_19 rfl 2 rfl ?_
      obtain ⟨b3, hf⟩ := og hf
      refine j_iald (pc := 20) C d_Mo_takeBack_20 3 (inb_in b3) (x := x.2.2.1 3 x.2.1.toNatClampNeg) wR_a3 rfl ?_
      obtain ⟨b4, hf⟩ := og hf
      refine j_iast (pc := 21) C d_Mo_takeBack_21 2 (inb_in b4) wR_a2 (ws' := wR g ar (va_up x.2.2.1 2 (upd (x.2.2.1 2) x.2.1.toNatClampNeg (x.2.2.1 3 x.2.1.toNatClampNeg))) x.2.2.2.1 x.2.2.2.2) wR_s2 ?_
      refine j_iinc (pc := 22) C d_Mo_takeBack_22 2 rfl (v := x.2.1 + 1) (iv ci_1) [1, 2, 0] (by decide) (lc' := [(0, .ref (ar 0)), (1, .int x.1), (2, .int (x.2.1 + 1))]) rfl ?_
      refine j_goto (pc := 25) C d_Mo_takeBack_25 (tgt := 2) rfl ?_
      exact k2_ih (x.1, x.2.1 + 1, ((va_up x.2.2.1 2 (upd (x.2.2.1 2) x.2.1.toNatClampNeg (x.2.2.1 3 x.2.1.toNatClampNeg))), x.2.2.2.1, x.2.2.2.2)) hf
  unfold f_Mo_takeBack at hf
  change 𝒥 0 0 (wR g ar r.1 r.2.1 r.2.2) [(0, .ref (ar 0)), (1, .int a1)] [] 0
  refine j_iconst (pc := 0) C d_Mo_takeBack_0 ck_0 ?_
  refine j_istore_n (pc := 1) C d_Mo_takeBack_1 rfl [1, 2, 0] (by decide) (lc' := [(0, .ref (ar 0)), (1, .int a1), (2, .int 0)]) rfl ?_
  exact L2 100000 (a1, 0, r) hf
abbrev rm_Mo_becomeFresh : Room := { frames := 0, cells := 0, slots := 0, locals := 0 }
theorem cv_Mo_becomeFresh : CV y_Mo_becomeFresh b_Mo_becomeFresh 3 none 1 := ⟨⟨tw1301, tw10, by decide +kernel⟩, tw1300, (sw_ (q := (y_Mo_becomeFresh, 54)) (by decide +kernel) (by decide +kernel))⟩
set_option maxHeartbeats 4000000 in
set_option maxRecDepth 100000 in
theorem c_Mo_becomeFresh {g : GT} {ar : Nat → Nat} {a1 : Int32} {r : RS} {q : RS} (hf : f_Mo_becomeFresh a1 r = some q) : MV g y_Mo_becomeFresh b_Mo_becomeFresh 3 none rm_Mo_becomeFresh [.ref (ar 0), .int a1] (wR g ar r.1 r.2.1 r.2.2) (wR g ar q.1 q.2.1 q.2.2) := by
  refine MV.of (by decide) (Nat.le_of_ble_eq_true rfl) (fun 𝒥 C => ?_)
  have L2 : ∀ (n : Nat) (x : Int32 × Int32 × RS), lpN (BMo_becomeFresh_2) n x = some q → 𝒥 0 0 (wR g ar x.2.2.1 x.2.2.2.1 x.2.2.2.2) [(0, .ref (ar 0)), (1, .int x.1), (2, .int x.2.1)] [] 2 := by
    refine lp_ind (fun k2 k2_ih x hf => ?_)
    unfold BMo_becomeFresh_2 at hf
    refine j_iload_n (pc := 2) C d_Mo_becomeFresh_2 rfl 2 rfl ?_
    refine j_iload_n (pc := 3) C d_Mo_becomeFresh_3 rfl 1 rfl ?_
    refine j_icmp_ge (pc := 4) C d_Mo_becomeFresh_4 (tgt := 25) rfl (fun h1 => ?_) (fun h1 => ?_)
    · rw [if_pos h1] at hf
      refine j_aload_n (pc := 25) C d_Mo_becomeFresh_25 rfl 0 rfl ?_
      refine j_iload_n (pc := 26) C d_Mo_becomeFresh_26 rfl 1 rfl ?_
      refine j_put (pc := 27) C d_Mo_becomeFresh_27 0 3 wR_o0 rfl (by decide) tw945 pd_I rfl rfl rfl (Nat.le_of_ble_eq_true rfl) (ws' := wR g ar x.2.2.1 (va_up x.2.2.2.1 1 x.1) x.2.2.2.2) wR_p0_3 ?_
      cases hf
      exact j_vret (pc := 30) C d_Mo_becomeFresh_30 ⟨rfl, rfl⟩ (Nat.le_of_ble_eq_true rfl) (Nat.le_of_ble_eq_true rfl)
    · rw [if_neg h1] at hf
      refine j_aload_n (pc := 7) C d_Mo_becomeFresh_7 rfl 0 rfl ?_
      refine j_get (pc := 8) C d_Mo_becomeFresh_8 0 2 wR_o0 rfl (v := .ref (ar 2)) rfl (by decide) tw944 ?_
      refine j_iload_n (pc := 11) C d_Mo_becomeFresh_11 rfl 2 rfl ?_
      refine j_aload_n (pc := 12) C d_Mo_becomeFresh_12 rfl 0 rfl ?_
      refine j_get (pc := 13) C d_Mo_becomeFresh_13 0 6 wR_o0 rfl (v := .ref (ar 4)) rfl (by decide) tw948 ?_
      refine j_iload_n (pc := 16) C d_Mo_becomeFresh_16 rfl 2 rfl ?_
      obtain ⟨b2, hf⟩ := og hf
      refine j_iald (pc := 17) C d_Mo_becomeFresh_17 4 (inb_in b2) (x := x.2.2.1 4 x.2.1.toNatClampNeg) wR_a4 rfl ?_
      obtain ⟨b3, hf⟩ := og hf
      refine j_iast (pc := 18) C d_Mo_becomeFresh_18 2 (inb_in b3) wR_a2 (ws' := wR g ar (va_up x.2.2.1 2 (upd (x.2.2.1 2) x.2.1.toNatClampNeg (x.2.2.1 4 x.2.1.toNatClampNeg))) x.2.2.2.1 x.2.2.2.2) wR_s2 ?_
      refine j_iinc (pc := 19) C d_Mo_becomeFresh_19 2 rfl (v := x.2.1 + 1) (iv ci_1) [1, 2, 0] (by decide) (lc' := [(0, .ref (ar 0)), (1, .int x.1), (2, .int (x.2.1 + 1))]) rfl ?_
      refine j_goto (pc := 22) C d_Mo_becomeFresh_22 (tgt := 2) rfl ?_
      exact k2_ih (x.1, x.2.1 + 1, ((va_up x.2.2.1 2 (upd (x.2.2.1 2) x.2.1.toNatClampNeg (x.2.2.1 4 x.2.1.toNatClampNeg))), x.2.2.2.1, x.2.2.2.2)) hf
  unfold f_Mo_becomeFresh at hf
  change 𝒥 0 0 (wR g ar r.1 r.2.1 r.2.2) [(0, .ref (ar 0)), (1, .int a1)] [] 0
  refine j_iconst (pc := 0) C d_Mo_becomeFresh_0 ck_0 ?_
  refine j_istore_n (pc := 1) C d_Mo_becomeFresh_1 rfl [1, 2, 0] (by decide) (lc' := [(0, .ref (ar 0)), (1, .int a1), (2, .int 0)]) rfl ?_
  exact L2 100000 (a1, 0, r) hf
abbrev rm_Mo_isWord : Room := { frames := 1, cells := 0, slots := 0, locals := 22 }
theorem cv_Mo_isWord : CS y_Mo_isWord b_Mo_isWord 5 (some .boolean) 1 := ⟨⟨tw1288, tw10, by decide +kernel⟩, tw1287⟩
set_option maxHeartbeats 4000000 in
set_option maxRecDepth 100000 in
theorem c_Mo_isWord {g : GT} {a0 : Int64} {q : Int32} (hf : f_Mo_isWord a0 = some q) : MI g y_Mo_isWord b_Mo_isWord 5 (some .boolean) rm_Mo_isWord [.long a0] ([]) q ([]) := by
  refine MI.of (by decide) (Nat.le_of_ble_eq_true rfl) (fun 𝒥 C => ?_)
  have L31 : ∀ (n : Nat) (x : Int64 × Int32 × Int32 × Int32), lpN (BMo_isWord_31) n x = some q → 𝒥 0 0 ([]) [(0, .long x.1), (2, .int x.2.1), (3, .int x.2.2.1), (4, .int x.2.2.2)] [] 31 := by
    refine lp_ind (fun k31 k31_ih x hf => ?_)
    unfold BMo_isWord_31 at hf
    refine j_iload (pc := 31) C d_Mo_isWord_31 3 rfl ?_
    refine j_iload_n (pc := 33) C d_Mo_isWord_33 rfl 1 rfl ?_
    refine j_icmp_ge (pc := 34) C d_Mo_isWord_34 (tgt := 85) rfl (fun h3 => ?_) (fun h3 => ?_)
    · rw [if_pos h3] at hf
      refine j_iload_n (pc := 85) C d_Mo_isWord_85 rfl 2 rfl ?_
      obtain ⟨b4, hf⟩ := og hf
      cases hf
      exact j_zret (pc := 86) C d_Mo_isWord_86 (isb_n b4) ⟨rfl, rfl⟩ (Nat.le_of_ble_eq_true rfl) (Nat.le_of_ble_eq_true rfl)
    · rw [if_neg h3] at hf
      refine j_iload_n (pc := 37) C d_Mo_isWord_37 rfl 2 rfl ?_
      refine j_if_eq (pc := 38) C d_Mo_isWord_38 (tgt := 85) rfl (fun h5 => ?_) (fun h5 => ?_)
      · rw [if_pos h5] at hf
        refine j_iload_n (pc := 85) C d_Mo_isWord_85 rfl 2 rfl ?_
        obtain ⟨b6, hf⟩ := og hf
        cases hf
        exact j_zret (pc := 86) C d_Mo_isWord_86 (isb_n b6) ⟨rfl, rfl⟩ (Nat.le_of_ble_eq_true rfl) (Nat.le_of_ble_eq_true rfl)
      · rw [if_neg h5] at hf
        refine j_lload_n (pc := 41) C d_Mo_isWord_41 rfl 0 rfl ?_
        refine j_iconst (pc := 42) C d_Mo_isWord_42 ck_5 ?_
        refine j_iload (pc := 43) C d_Mo_isWord_43 3 rfl ?_
        refine j_imul (pc := 45) C d_Mo_isWord_45 ?_
        refine j_lshr (pc := 46) C d_Mo_isWord_46 ?_
        refine j_ldc2 (pc := 47) C d_Mo_isWord_47 tw1126 ?_
        refine j_land (pc := 50) C d_Mo_isWord_50 ?_
        refine j_topl C (fun v7 ev7 => ?_)
        replace hf := ov ev7 hf
        refine j_lconst (pc := 51) C d_Mo_isWord_51 cl_1 ?_
        refine j_lcmp (pc := 52) C d_Mo_isWord_52 ?_
        refine j_if_lt (pc := 53) C d_Mo_isWord_53 (tgt := 77) rfl (fun h8 => ?_) (fun h8 => ?_)
        · rw [if_pos h8] at hf
          refine j_iconst (pc := 77) C d_Mo_isWord_77 ck_0 ?_
          refine j_istore_n (pc := 78) C d_Mo_isWord_78 rfl [1, 2, 0, 3] (by decide) (lc' := [(0, .long x.1), (2, .int x.2.1), (3, .int 0), (4, .int x.2.2.2)]) rfl ?_
          refine j_iinc (pc := 79) C d_Mo_isWord_79 3 rfl (v := x.2.2.2 + 1) (iv ci_1) [1, 2, 3, 0] (by decide) (lc' := [(0, .long x.1), (2, .int x.2.1), (3, .int 0), (4, .int (x.2.2.2 + 1))]) rfl ?_
          refine j_goto (pc := 82) C d_Mo_isWord_82 (tgt := 31) rfl ?_
          exact k31_ih (x.1, x.2.1, 0, x.2.2.2 + 1) hf
        · rw [if_neg h8] at hf
          refine j_lload_n (pc := 56) C d_Mo_isWord_56 rfl 0 rfl ?_
          refine j_iconst (pc := 57) C d_Mo_isWord_57 ck_5 ?_
          refine j_iload (pc := 58) C d_Mo_isWord_58 3 rfl ?_
          refine j_imul (pc := 60) C d_Mo_isWord_60 ?_
          refine j_lshr (pc := 61) C d_Mo_isWord_61 ?_
          refine j_ldc2 (pc := 62) C d_Mo_isWord_62 tw1126 ?_
          refine j_land (pc := 65) C d_Mo_isWord_65 ?_
          refine j_topl C (fun v9 ev9 => ?_)
          replace hf := ov ev9 hf
          refine j_ldc2 (pc := 66) C d_Mo_isWord_66 tw1289 ?_
          refine j_lcmp (pc := 69) C d_Mo_isWord_69 ?_
          refine j_if_gt (pc := 70) C d_Mo_isWord_70 (tgt := 77) rfl (fun h10 => ?_) (fun h10 => ?_)
          · rw [if_pos h10] at hf
            refine j_iconst (pc := 77) C d_Mo_isWord_77 ck_0 ?_
            refine j_istore_n (pc := 78) C d_Mo_isWord_78 rfl [1, 2, 0, 3] (by decide) (lc' := [(0, .long x.1), (2, .int x.2.1), (3, .int 0), (4, .int x.2.2.2)]) rfl ?_
            refine j_iinc (pc := 79) C d_Mo_isWord_79 3 rfl (v := x.2.2.2 + 1) (iv ci_1) [1, 2, 3, 0] (by decide) (lc' := [(0, .long x.1), (2, .int x.2.1), (3, .int 0), (4, .int (x.2.2.2 + 1))]) rfl ?_
            refine j_goto (pc := 82) C d_Mo_isWord_82 (tgt := 31) rfl ?_
            exact k31_ih (x.1, x.2.1, 0, x.2.2.2 + 1) hf
          · rw [if_neg h10] at hf
            refine j_iconst (pc := 73) C d_Mo_isWord_73 ck_1 ?_
            refine j_goto (pc := 74) C d_Mo_isWord_74 (tgt := 78) rfl ?_
            refine j_istore_n (pc := 78) C d_Mo_isWord_78 rfl [1, 2, 0, 3] (by decide) (lc' := [(0, .long x.1), (2, .int x.2.1), (3, .int 1), (4, .int x.2.2.2)]) rfl ?_
            refine j_iinc (pc := 79) C d_Mo_isWord_79 3 rfl (v := x.2.2.2 + 1) (iv ci_1) [1, 2, 3, 0] (by decide) (lc' := [(0, .long x.1), (2, .int x.2.1), (3, .int 1), (4, .int (x.2.2.2 + 1))]) rfl ?_
            refine j_goto (pc := 82) C d_Mo_isWord_82 (tgt := 31) rfl ?_
            exact k31_ih (x.1, x.2.1, 1, x.2.2.2 + 1) hf
  unfold f_Mo_isWord at hf
  change 𝒥 0 0 ([]) [(0, .long a0)] [] 0
  refine j_lload_n (pc := 0) C d_Mo_isWord_0 rfl 0 rfl ?_
  obtain ⟨q1, eq1, hf⟩ := ob hf
  refine j_callSi (pc := 1) C (rest := []) d_Mo_isWord_1 (c_Mo_letters (g := g)  eq1) cv_Mo_letters tw1123 cut_none rfl rfl (Nat.le_of_ble_eq_true rfl) (kc2 := 0) (ks2 := 0) (by decide) ?_
  refine j_istore_n (pc := 4) C d_Mo_isWord_4 rfl [1, 0] (by decide) (lc' := [(0, .long a0), (2, .int q1)]) rfl ?_
  refine j_iload_n (pc := 5) C d_Mo_isWord_5 rfl 1 rfl ?_
  refine j_iconst (pc := 6) C d_Mo_isWord_6 ck_1 ?_
  refine j_icmp_lt (pc := 7) C d_Mo_isWord_7 (tgt := 26) rfl (fun h2 => ?_) (fun h2 => ?_)
  · rw [if_pos h2] at hf
    refine j_iconst (pc := 26) C d_Mo_isWord_26 ck_0 ?_
    refine j_istore_n (pc := 27) C d_Mo_isWord_27 rfl [1, 2, 0] (by decide) (lc' := [(0, .long a0), (2, .int q1), (3, .int 0)]) rfl ?_
    refine j_iconst (pc := 28) C d_Mo_isWord_28 ck_0 ?_
    refine j_istore (pc := 29) C d_Mo_isWord_29 [1, 2, 3, 0] (by decide) (lc' := [(0, .long a0), (2, .int q1), (3, .int 0), (4, .int 0)]) rfl ?_
    exact L31 100000 (a0, q1, 0, 0) hf
  · rw [if_neg h2] at hf
    refine j_iload_n (pc := 10) C d_Mo_isWord_10 rfl 1 rfl ?_
    refine j_bipush (pc := 11) C d_Mo_isWord_11 cb_6 ?_
    refine j_icmp_gt (pc := 13) C d_Mo_isWord_13 (tgt := 26) rfl (fun h11 => ?_) (fun h11 => ?_)
    · rw [if_pos h11] at hf
      refine j_iconst (pc := 26) C d_Mo_isWord_26 ck_0 ?_
      refine j_istore_n (pc := 27) C d_Mo_isWord_27 rfl [1, 2, 0] (by decide) (lc' := [(0, .long a0), (2, .int q1), (3, .int 0)]) rfl ?_
      refine j_iconst (pc := 28) C d_Mo_isWord_28 ck_0 ?_
      refine j_istore (pc := 29) C d_Mo_isWord_29 [1, 2, 3, 0] (by decide) (lc' := [(0, .long a0), (2, .int q1), (3, .int 0), (4, .int 0)]) rfl ?_
      exact L31 100000 (a0, q1, 0, 0) hf
    · rw [if_neg h11] at hf
      refine j_lload_n (pc := 16) C d_Mo_isWord_16 rfl 0 rfl ?_
      refine j_lconst (pc := 17) C d_Mo_isWord_17 cl_0 ?_
      refine j_lcmp (pc := 18) C d_Mo_isWord_18 ?_
      refine j_if_le (pc := 19) C d_Mo_isWord_19 (tgt := 26) rfl (fun h12 => ?_) (fun h12 => ?_)
      · rw [if_pos h12] at hf
        refine j_iconst (pc := 26) C d_Mo_isWord_26 ck_0 ?_
        refine j_istore_n (pc := 27) C d_Mo_isWord_27 rfl [1, 2, 0] (by decide) (lc' := [(0, .long a0), (2, .int q1), (3, .int 0)]) rfl ?_
        refine j_iconst (pc := 28) C d_Mo_isWord_28 ck_0 ?_
        refine j_istore (pc := 29) C d_Mo_isWord_29 [1, 2, 3, 0] (by decide) (lc' := [(0, .long a0), (2, .int q1), (3, .int 0), (4, .int 0)]) rfl ?_
        exact L31 100000 (a0, q1, 0, 0) hf
      · rw [if_neg h12] at hf
        refine j_iconst (pc := 22) C d_Mo_isWord_22 ck_1 ?_
        refine j_goto (pc := 23) C d_Mo_isWord_23 (tgt := 27) rfl ?_
        refine j_istore_n (pc := 27) C d_Mo_isWord_27 rfl [1, 2, 0] (by decide) (lc' := [(0, .long a0), (2, .int q1), (3, .int 1)]) rfl ?_
        refine j_iconst (pc := 28) C d_Mo_isWord_28 ck_0 ?_
        refine j_istore (pc := 29) C d_Mo_isWord_29 [1, 2, 3, 0] (by decide) (lc' := [(0, .long a0), (2, .int q1), (3, .int 1), (4, .int 0)]) rfl ?_
        exact L31 100000 (a0, q1, 1, 0) hf
abbrev rm_Mo_spell : Room := { frames := 1, cells := 0, slots := 0, locals := 22 }
theorem cv_Mo_spell : CV y_Mo_spell b_Mo_spell 9 none 3 := ⟨⟨tw1297, tw10, by decide +kernel⟩, tw1296, (sw_ (q := (y_Mo_spell, 54)) (by decide +kernel) (by decide +kernel))⟩
set_option maxHeartbeats 4000000 in
set_option maxRecDepth 100000 in
theorem c_Mo_spell {g : GT} {ar : Nat → Nat} {a1 : Int32} {a2 : Int64} {a4 : Int32} {r : RS} {q : RS} (hf : f_Mo_spell a1 a2 a4 r = some q) : MV g y_Mo_spell b_Mo_spell 9 none rm_Mo_spell [.ref (ar 0), .int a1, .long a2, .int a4] (wR g ar r.1 r.2.1 r.2.2) (wR g ar q.1 q.2.1 q.2.2) := by
  refine MV.of (by decide) (Nat.le_of_ble_eq_true rfl) (fun 𝒥 C => ?_)
  have L80 : ∀ (k9 : Int32 × Int64 × Int32 × Int32 × Int32 × Int32 × RS → Option RS) (k9_ih : ∀ y : Int32 × Int64 × Int32 × Int32 × Int32 × Int32 × RS, k9 y = some q → 𝒥 0 0 (wR g ar y.2.2.2.2.2.2.1 y.2.2.2.2.2.2.2.1 y.2.2.2.2.2.2.2.2) [(0, .ref (ar 0)), (1, .int y.1), (2, .long y.2.1), (4, .int y.2.2.1), (5, .int y.2.2.2.1), (6, .int y.2.2.2.2.1), (7, .int y.2.2.2.2.2.1)] [] 9)  (k18 : Int32 × Int64 × Int32 × Int32 × Int32 × Int32 × RS → Option RS) (k18_ih : ∀ y : Int32 × Int64 × Int32 × Int32 × Int32 × Int32 × RS, k18 y = some q → 𝒥 0 0 (wR g ar y.2.2.2.2.2.2.1 y.2.2.2.2.2.2.2.1 y.2.2.2.2.2.2.2.2) [(0, .ref (ar 0)), (1, .int y.1), (2, .long y.2.1), (4, .int y.2.2.1), (5, .int y.2.2.2.1), (6, .int y.2.2.2.2.1), (7, .int y.2.2.2.2.2.1)] [] 18)  (n : Nat) (x : Int32 × Int64 × Int32 × Int32 × Int32 × Int32 × Int32 × RS), lpN (BMo_spell_80 k9 k18) n x = some q → 𝒥 0 0 (wR g ar x.2.2.2.2.2.2.2.1 x.2.2.2.2.2.2.2.2.1 x.2.2.2.2.2.2.2.2.2) [(0, .ref (ar 0)), (1, .int x.1), (2, .long x.2.1), (4, .int x.2.2.1), (5, .int x.2.2.2.1), (6, .int x.2.2.2.2.1), (7, .int x.2.2.2.2.2.1), (8, .int x.2.2.2.2.2.2.1)] [] 80 := by
    intro k9 k9_ih k18 k18_ih
    refine lp_ind (fun k80 k80_ih x hf => ?_)
    unfold BMo_spell_80 at hf
    refine j_iload (pc := 80) C d_Mo_spell_80 7 rfl ?_
    refine j_iload (pc := 82) C d_Mo_spell_82 3 rfl ?_
    refine j_icmp_ge (pc := 84) C d_Mo_spell_84 (tgt := 117) rfl (fun h20 => ?_) (fun h20 => ?_)
    · rw [if_pos h20] at hf
      refine j_iload (pc := 117) C d_Mo_spell_117 4 rfl ?_
      refine j_iload (pc := 119) C d_Mo_spell_119 3 rfl ?_
      refine j_iadd (pc := 121) C d_Mo_spell_121 ?_
      refine j_istore (pc := 122) C d_Mo_spell_122 [1, 2, 3, 4, 0, 5, 6, 7] (by decide) (lc' := [(0, .ref (ar 0)), (1, .int x.1), (2, .long x.2.1), (4, .int x.2.2.1), (5, .int (x.2.2.2.1 + x.2.2.1)), (6, .int x.2.2.2.2.1), (7, .int x.2.2.2.2.2.1), (8, .int x.2.2.2.2.2.2.1)]) rfl ?_
      refine j_aload_n (pc := 124) C d_Mo_spell_124 rfl 0 rfl ?_
      refine j_get (pc := 125) C d_Mo_spell_125 0 10 wR_o0 rfl (v := .ref (ar 7)) rfl (by decide) tw952 ?_
      refine j_iload (pc := 128) C d_Mo_spell_128 5 rfl ?_
      obtain ⟨b21, hf⟩ := og hf
      refine j_iald (pc := 130) C d_Mo_spell_130 7 (inb_in b21) (x := x.2.2.2.2.2.2.2.1 7 x.2.2.2.2.1.toNatClampNeg) wR_a7 rfl ?_
      refine j_topi C (fun v22 ev22 => ?_)
      replace hf := ov ev22 hf
      refine j_istore (pc := 131) C d_Mo_spell_131 [1, 2, 3, 4, 5, 6, 0, 7] (by decide) (lc' := [(0, .ref (ar 0)), (1, .int x.1), (2, .long x.2.1), (4, .int x.2.2.1), (5, .int (x.2.2.2.1 + x.2.2.1)), (6, .int x.2.2.2.2.1), (7, .int v22), (8, .int x.2.2.2.2.2.2.1)]) rfl ?_
      refine j_goto (pc := 133) C d_Mo_spell_133 (tgt := 9) rfl ?_
      refine j_lc C (lc' := [(0, .ref (ar 0)), (1, .int x.1), (2, .long x.2.1), (4, .int x.2.2.1), (5, .int (x.2.2.2.1 + x.2.2.1)), (6, .int x.2.2.2.2.1), (7, .int v22)]) [0, 1, 2, 3, 4, 5, 6] rfl ?_
      exact k9_ih (x.1, x.2.1, x.2.2.1, x.2.2.2.1 + x.2.2.1, x.2.2.2.2.1, v22, x.2.2.2.2.2.2.2) hf
    · rw [if_neg h20] at hf
      refine j_aload_n (pc := 87) C d_Mo_spell_87 rfl 0 rfl ?_
      refine j_get (pc := 88) C d_Mo_spell_88 0 6 wR_o0 rfl (v := .ref (ar 4)) rfl (by decide) tw948 ?_
      refine j_iload (pc := 91) C d_Mo_spell_91 4 rfl ?_
      refine j_iload (pc := 93) C d_Mo_spell_93 7 rfl ?_
      refine j_iadd (pc := 95) C d_Mo_spell_95 ?_
      refine j_bipush (pc := 96) C d_Mo_spell_96 cb_96 ?_
      refine j_lload_n (pc := 98) C d_Mo_spell_98 rfl 2 rfl ?_
      refine j_iconst (pc := 99) C d_Mo_spell_99 ck_5 ?_
      refine j_iload (pc := 100) C d_Mo_spell_100 7 rfl ?_
      refine j_imul (pc := 102) C d_Mo_spell_102 ?_
      refine j_lshr (pc := 103) C d_Mo_spell_103 ?_
      refine j_topl C (fun v23 ev23 => ?_)
      replace hf := ov ev23 hf
      refine j_ldc2 (pc := 104) C d_Mo_spell_104 tw1126 ?_
      refine j_land (pc := 107) C d_Mo_spell_107 ?_
      refine j_l2i (pc := 108) C d_Mo_spell_108 rfl ?_
      refine j_iadd (pc := 109) C d_Mo_spell_109 ?_
      obtain ⟨b24, hf⟩ := og hf
      refine j_iast (pc := 110) C d_Mo_spell_110 4 (inb_in b24) wR_a4 (ws' := wR g ar (va_up x.2.2.2.2.2.2.2.1 4 (upd (x.2.2.2.2.2.2.2.1 4) (x.2.2.2.1 + x.2.2.2.2.2.2.1).toNatClampNeg (96 + ((v23 &&& 31).toInt32)))) x.2.2.2.2.2.2.2.2.1 x.2.2.2.2.2.2.2.2.2) wR_s4 ?_
      refine j_iinc (pc := 111) C d_Mo_spell_111 7 rfl (v := x.2.2.2.2.2.2.1 + 1) (iv ci_1) [1, 2, 3, 4, 5, 6, 7, 0] (by decide) (lc' := [(0, .ref (ar 0)), (1, .int x.1), (2, .long x.2.1), (4, .int x.2.2.1), (5, .int x.2.2.2.1), (6, .int x.2.2.2.2.1), (7, .int x.2.2.2.2.2.1), (8, .int (x.2.2.2.2.2.2.1 + 1))]) rfl ?_
      refine j_goto (pc := 114) C d_Mo_spell_114 (tgt := 80) rfl ?_
      exact k80_ih (x.1, x.2.1, x.2.2.1, x.2.2.2.1, x.2.2.2.2.1, x.2.2.2.2.2.1, x.2.2.2.2.2.2.1 + 1, ((va_up x.2.2.2.2.2.2.2.1 4 (upd (x.2.2.2.2.2.2.2.1 4) (x.2.2.2.1 + x.2.2.2.2.2.2.1).toNatClampNeg (96 + ((v23 &&& 31).toInt32)))), x.2.2.2.2.2.2.2.2.1, x.2.2.2.2.2.2.2.2.2)) hf
  have L18 : ∀ (k9 : Int32 × Int64 × Int32 × Int32 × Int32 × Int32 × RS → Option RS) (k9_ih : ∀ y : Int32 × Int64 × Int32 × Int32 × Int32 × Int32 × RS, k9 y = some q → 𝒥 0 0 (wR g ar y.2.2.2.2.2.2.1 y.2.2.2.2.2.2.2.1 y.2.2.2.2.2.2.2.2) [(0, .ref (ar 0)), (1, .int y.1), (2, .long y.2.1), (4, .int y.2.2.1), (5, .int y.2.2.2.1), (6, .int y.2.2.2.2.1), (7, .int y.2.2.2.2.2.1)] [] 9)  (n : Nat) (x : Int32 × Int64 × Int32 × Int32 × Int32 × Int32 × RS), lpN (BMo_spell_18 k9) n x = some q → 𝒥 0 0 (wR g ar x.2.2.2.2.2.2.1 x.2.2.2.2.2.2.2.1 x.2.2.2.2.2.2.2.2) [(0, .ref (ar 0)), (1, .int x.1), (2, .long x.2.1), (4, .int x.2.2.1), (5, .int x.2.2.2.1), (6, .int x.2.2.2.2.1), (7, .int x.2.2.2.2.2.1)] [] 18 := by
    intro k9 k9_ih
    refine lp_ind (fun k18 k18_ih x hf => ?_)
    unfold BMo_spell_18 at hf
    refine j_iload (pc := 18) C d_Mo_spell_18 5 rfl ?_
    refine j_aload_n (pc := 20) C d_Mo_spell_20 rfl 0 rfl ?_
    refine j_get (pc := 21) C d_Mo_spell_21 0 7 wR_o0 rfl (v := .int (x.2.2.2.2.2.2.2.1 3)) rfl (by decide) tw949 ?_
    refine j_icmp_ge (pc := 24) C d_Mo_spell_24 (tgt := 45) rfl (fun h3 => ?_) (fun h3 => ?_)
    · rw [if_pos h3] at hf
      refine j_iload (pc := 45) C d_Mo_spell_45 5 rfl ?_
      refine j_aload_n (pc := 47) C d_Mo_spell_47 rfl 0 rfl ?_
      refine j_get (pc := 48) C d_Mo_spell_48 0 7 wR_o0 rfl (v := .int (x.2.2.2.2.2.2.2.1 3)) rfl (by decide) tw949 ?_
      refine j_icmp_ge (pc := 51) C d_Mo_spell_51 (tgt := 136) rfl (fun h4 => ?_) (fun h4 => ?_)
      · rw [if_pos h4] at hf
        refine j_aload_n (pc := 136) C d_Mo_spell_136 rfl 0 rfl ?_
        refine j_get (pc := 137) C d_Mo_spell_137 0 6 wR_o0 rfl (v := .ref (ar 4)) rfl (by decide) tw948 ?_
        refine j_iload (pc := 140) C d_Mo_spell_140 4 rfl ?_
        refine j_aload_n (pc := 142) C d_Mo_spell_142 rfl 0 rfl ?_
        refine j_get (pc := 143) C d_Mo_spell_143 0 2 wR_o0 rfl (v := .ref (ar 2)) rfl (by decide) tw944 ?_
        refine j_iload (pc := 146) C d_Mo_spell_146 6 rfl ?_
        obtain ⟨b5, hf⟩ := og hf
        refine j_iald (pc := 148) C d_Mo_spell_148 2 (inb_in b5) (x := x.2.2.2.2.2.2.1 2 x.2.2.2.2.2.1.toNatClampNeg) wR_a2 rfl ?_
        refine j_topi C (fun v6 ev6 => ?_)
        replace hf := ov ev6 hf
        obtain ⟨b7, hf⟩ := og hf
        refine j_iast (pc := 149) C d_Mo_spell_149 4 (inb_in b7) wR_a4 (ws' := wR g ar (va_up x.2.2.2.2.2.2.1 4 (upd (x.2.2.2.2.2.2.1 4) x.2.2.2.1.toNatClampNeg v6)) x.2.2.2.2.2.2.2.1 x.2.2.2.2.2.2.2.2) wR_s4 ?_
        refine j_iinc (pc := 150) C d_Mo_spell_150 4 rfl (v := x.2.2.2.1 + 1) (iv ci_1) [1, 2, 3, 4, 0, 5, 6] (by decide) (lc' := [(0, .ref (ar 0)), (1, .int x.1), (2, .long x.2.1), (4, .int x.2.2.1), (5, .int (x.2.2.2.1 + 1)), (6, .int x.2.2.2.2.1), (7, .int x.2.2.2.2.2.1)]) rfl ?_
        refine j_iinc (pc := 153) C d_Mo_spell_153 6 rfl (v := x.2.2.2.2.2.1 + 1) (iv ci_1) [1, 2, 3, 4, 5, 6, 0] (by decide) (lc' := [(0, .ref (ar 0)), (1, .int x.1), (2, .long x.2.1), (4, .int x.2.2.1), (5, .int (x.2.2.2.1 + 1)), (6, .int x.2.2.2.2.1), (7, .int (x.2.2.2.2.2.1 + 1))]) rfl ?_
        refine j_goto (pc := 156) C d_Mo_spell_156 (tgt := 9) rfl ?_
        exact k9_ih (x.1, x.2.1, x.2.2.1, x.2.2.2.1 + 1, x.2.2.2.2.1, x.2.2.2.2.2.1 + 1, ((va_up x.2.2.2.2.2.2.1 4 (upd (x.2.2.2.2.2.2.1 4) x.2.2.2.1.toNatClampNeg v6)), x.2.2.2.2.2.2.2.1, x.2.2.2.2.2.2.2.2)) hf
      · rw [if_neg h4] at hf
        refine j_aload_n (pc := 54) C d_Mo_spell_54 rfl 0 rfl ?_
        refine j_get (pc := 55) C d_Mo_spell_55 0 9 wR_o0 rfl (v := .ref (ar 6)) rfl (by decide) tw951 ?_
        refine j_iload (pc := 58) C d_Mo_spell_58 5 rfl ?_
        obtain ⟨b8, hf⟩ := og hf
        refine j_iald (pc := 60) C d_Mo_spell_60 6 (inb_in b8) (x := x.2.2.2.2.2.2.1 6 x.2.2.2.2.1.toNatClampNeg) wR_a6 rfl ?_
        refine j_topi C (fun v9 ev9 => ?_)
        replace hf := ov ev9 hf
        refine j_iload (pc := 61) C d_Mo_spell_61 6 rfl ?_
        refine j_icmp_ne (pc := 63) C d_Mo_spell_63 (tgt := 136) rfl (fun h10 => ?_) (fun h10 => ?_)
        · rw [if_neg h10] at hf
          refine j_aload_n (pc := 136) C d_Mo_spell_136 rfl 0 rfl ?_
          refine j_get (pc := 137) C d_Mo_spell_137 0 6 wR_o0 rfl (v := .ref (ar 4)) rfl (by decide) tw948 ?_
          refine j_iload (pc := 140) C d_Mo_spell_140 4 rfl ?_
          refine j_aload_n (pc := 142) C d_Mo_spell_142 rfl 0 rfl ?_
          refine j_get (pc := 143) C d_Mo_spell_143 0 2 wR_o0 rfl (v := .ref (ar 2)) rfl (by decide) tw944 ?_
          refine j_iload (pc := 146) C d_Mo_spell_146 6 rfl ?_
          obtain ⟨b11, hf⟩ := og hf
          refine j_iald (pc := 148) C d_Mo_spell_148 2 (inb_in b11) (x := x.2.2.2.2.2.2.1 2 x.2.2.2.2.2.1.toNatClampNeg) wR_a2 rfl ?_
          refine j_topi C (fun v12 ev12 => ?_)
          replace hf := ov ev12 hf
          obtain ⟨b13, hf⟩ := og hf
          refine j_iast (pc := 149) C d_Mo_spell_149 4 (inb_in b13) wR_a4 (ws' := wR g ar (va_up x.2.2.2.2.2.2.1 4 (upd (x.2.2.2.2.2.2.1 4) x.2.2.2.1.toNatClampNeg v12)) x.2.2.2.2.2.2.2.1 x.2.2.2.2.2.2.2.2) wR_s4 ?_
          refine j_iinc (pc := 150) C d_Mo_spell_150 4 rfl (v := x.2.2.2.1 + 1) (iv ci_1) [1, 2, 3, 4, 0, 5, 6] (by decide) (lc' := [(0, .ref (ar 0)), (1, .int x.1), (2, .long x.2.1), (4, .int x.2.2.1), (5, .int (x.2.2.2.1 + 1)), (6, .int x.2.2.2.2.1), (7, .int x.2.2.2.2.2.1)]) rfl ?_
          refine j_iinc (pc := 153) C d_Mo_spell_153 6 rfl (v := x.2.2.2.2.2.1 + 1) (iv ci_1) [1, 2, 3, 4, 5, 6, 0] (by decide) (lc' := [(0, .ref (ar 0)), (1, .int x.1), (2, .long x.2.1), (4, .int x.2.2.1), (5, .int (x.2.2.2.1 + 1)), (6, .int x.2.2.2.2.1), (7, .int (x.2.2.2.2.2.1 + 1))]) rfl ?_
          refine j_goto (pc := 156) C d_Mo_spell_156 (tgt := 9) rfl ?_
          exact k9_ih (x.1, x.2.1, x.2.2.1, x.2.2.2.1 + 1, x.2.2.2.2.1, x.2.2.2.2.2.1 + 1, ((va_up x.2.2.2.2.2.2.1 4 (upd (x.2.2.2.2.2.2.1 4) x.2.2.2.1.toNatClampNeg v12)), x.2.2.2.2.2.2.2.1, x.2.2.2.2.2.2.2.2)) hf
        · rw [if_pos h10] at hf
          refine j_aload_n (pc := 66) C d_Mo_spell_66 rfl 0 rfl ?_
          refine j_get (pc := 67) C d_Mo_spell_67 0 13 wR_o0 rfl (v := .ref (ar 10)) rfl (by decide) tw955 ?_
          refine j_iload (pc := 70) C d_Mo_spell_70 5 rfl ?_
          obtain ⟨b14, hf⟩ := og hf
          refine j_iald (pc := 72) C d_Mo_spell_72 10 (inb_in b14) (x := x.2.2.2.2.2.2.1 10 x.2.2.2.2.1.toNatClampNeg) wR_a10 rfl ?_
          refine j_topi C (fun v15 ev15 => ?_)
          replace hf := ov ev15 hf
          refine j_iload_n (pc := 73) C d_Mo_spell_73 rfl 1 rfl ?_
          refine j_icmp_ne (pc := 74) C d_Mo_spell_74 (tgt := 136) rfl (fun h16 => ?_) (fun h16 => ?_)
          · rw [if_neg h16] at hf
            refine j_aload_n (pc := 136) C d_Mo_spell_136 rfl 0 rfl ?_
            refine j_get (pc := 137) C d_Mo_spell_137 0 6 wR_o0 rfl (v := .ref (ar 4)) rfl (by decide) tw948 ?_
            refine j_iload (pc := 140) C d_Mo_spell_140 4 rfl ?_
            refine j_aload_n (pc := 142) C d_Mo_spell_142 rfl 0 rfl ?_
            refine j_get (pc := 143) C d_Mo_spell_143 0 2 wR_o0 rfl (v := .ref (ar 2)) rfl (by decide) tw944 ?_
            refine j_iload (pc := 146) C d_Mo_spell_146 6 rfl ?_
            obtain ⟨b17, hf⟩ := og hf
            refine j_iald (pc := 148) C d_Mo_spell_148 2 (inb_in b17) (x := x.2.2.2.2.2.2.1 2 x.2.2.2.2.2.1.toNatClampNeg) wR_a2 rfl ?_
            refine j_topi C (fun v18 ev18 => ?_)
            replace hf := ov ev18 hf
            obtain ⟨b19, hf⟩ := og hf
            refine j_iast (pc := 149) C d_Mo_spell_149 4 (inb_in b19) wR_a4 (ws' := wR g ar (va_up x.2.2.2.2.2.2.1 4 (upd (x.2.2.2.2.2.2.1 4) x.2.2.2.1.toNatClampNeg v18)) x.2.2.2.2.2.2.2.1 x.2.2.2.2.2.2.2.2) wR_s4 ?_
            refine j_iinc (pc := 150) C d_Mo_spell_150 4 rfl (v := x.2.2.2.1 + 1) (iv ci_1) [1, 2, 3, 4, 0, 5, 6] (by decide) (lc' := [(0, .ref (ar 0)), (1, .int x.1), (2, .long x.2.1), (4, .int x.2.2.1), (5, .int (x.2.2.2.1 + 1)), (6, .int x.2.2.2.2.1), (7, .int x.2.2.2.2.2.1)]) rfl ?_
            refine j_iinc (pc := 153) C d_Mo_spell_153 6 rfl (v := x.2.2.2.2.2.1 + 1) (iv ci_1) [1, 2, 3, 4, 5, 6, 0] (by decide) (lc' := [(0, .ref (ar 0)), (1, .int x.1), (2, .long x.2.1), (4, .int x.2.2.1), (5, .int (x.2.2.2.1 + 1)), (6, .int x.2.2.2.2.1), (7, .int (x.2.2.2.2.2.1 + 1))]) rfl ?_
            refine j_goto (pc := 156) C d_Mo_spell_156 (tgt := 9) rfl ?_
            exact k9_ih (x.1, x.2.1, x.2.2.1, x.2.2.2.1 + 1, x.2.2.2.2.1, x.2.2.2.2.2.1 + 1, ((va_up x.2.2.2.2.2.2.1 4 (upd (x.2.2.2.2.2.2.1 4) x.2.2.2.1.toNatClampNeg v18)), x.2.2.2.2.2.2.2.1, x.2.2.2.2.2.2.2.2)) hf
          · rw [if_pos h16] at hf
            refine j_iconst (pc := 77) C d_Mo_spell_77 ck_0 ?_
            refine j_istore (pc := 78) C d_Mo_spell_78 [1, 2, 3, 4, 5, 6, 7, 0] (by decide) (lc' := [(0, .ref (ar 0)), (1, .int x.1), (2, .long x.2.1), (4, .int x.2.2.1), (5, .int x.2.2.2.1), (6, .int x.2.2.2.2.1), (7, .int x.2.2.2.2.2.1), (8, .int 0)]) rfl ?_
            exact L80 k9 k9_ih k18 k18_ih 100000 (x.1, x.2.1, x.2.2.1, x.2.2.2.1, x.2.2.2.2.1, x.2.2.2.2.2.1, 0, x.2.2.2.2.2.2) hf
    · rw [if_neg h3] at hf
      refine j_aload_n (pc := 27) C d_Mo_spell_27 rfl 0 rfl ?_
      refine j_get (pc := 28) C d_Mo_spell_28 0 10 wR_o0 rfl (v := .ref (ar 7)) rfl (by decide) tw952 ?_
      refine j_iload (pc := 31) C d_Mo_spell_31 5 rfl ?_
      obtain ⟨b25, hf⟩ := og hf
      refine j_iald (pc := 33) C d_Mo_spell_33 7 (inb_in b25) (x := x.2.2.2.2.2.2.1 7 x.2.2.2.2.1.toNatClampNeg) wR_a7 rfl ?_
      refine j_topi C (fun v26 ev26 => ?_)
      replace hf := ov ev26 hf
      refine j_iload (pc := 34) C d_Mo_spell_34 6 rfl ?_
      refine j_icmp_gt (pc := 36) C d_Mo_spell_36 (tgt := 45) rfl (fun h27 => ?_) (fun h27 => ?_)
      · rw [if_pos h27] at hf
        refine j_iload (pc := 45) C d_Mo_spell_45 5 rfl ?_
        refine j_aload_n (pc := 47) C d_Mo_spell_47 rfl 0 rfl ?_
        refine j_get (pc := 48) C d_Mo_spell_48 0 7 wR_o0 rfl (v := .int (x.2.2.2.2.2.2.2.1 3)) rfl (by decide) tw949 ?_
        refine j_icmp_ge (pc := 51) C d_Mo_spell_51 (tgt := 136) rfl (fun h28 => ?_) (fun h28 => ?_)
        · rw [if_pos h28] at hf
          refine j_aload_n (pc := 136) C d_Mo_spell_136 rfl 0 rfl ?_
          refine j_get (pc := 137) C d_Mo_spell_137 0 6 wR_o0 rfl (v := .ref (ar 4)) rfl (by decide) tw948 ?_
          refine j_iload (pc := 140) C d_Mo_spell_140 4 rfl ?_
          refine j_aload_n (pc := 142) C d_Mo_spell_142 rfl 0 rfl ?_
          refine j_get (pc := 143) C d_Mo_spell_143 0 2 wR_o0 rfl (v := .ref (ar 2)) rfl (by decide) tw944 ?_
          refine j_iload (pc := 146) C d_Mo_spell_146 6 rfl ?_
          obtain ⟨b29, hf⟩ := og hf
          refine j_iald (pc := 148) C d_Mo_spell_148 2 (inb_in b29) (x := x.2.2.2.2.2.2.1 2 x.2.2.2.2.2.1.toNatClampNeg) wR_a2 rfl ?_
          refine j_topi C (fun v30 ev30 => ?_)
          replace hf := ov ev30 hf
          obtain ⟨b31, hf⟩ := og hf
          refine j_iast (pc := 149) C d_Mo_spell_149 4 (inb_in b31) wR_a4 (ws' := wR g ar (va_up x.2.2.2.2.2.2.1 4 (upd (x.2.2.2.2.2.2.1 4) x.2.2.2.1.toNatClampNeg v30)) x.2.2.2.2.2.2.2.1 x.2.2.2.2.2.2.2.2) wR_s4 ?_
          refine j_iinc (pc := 150) C d_Mo_spell_150 4 rfl (v := x.2.2.2.1 + 1) (iv ci_1) [1, 2, 3, 4, 0, 5, 6] (by decide) (lc' := [(0, .ref (ar 0)), (1, .int x.1), (2, .long x.2.1), (4, .int x.2.2.1), (5, .int (x.2.2.2.1 + 1)), (6, .int x.2.2.2.2.1), (7, .int x.2.2.2.2.2.1)]) rfl ?_
          refine j_iinc (pc := 153) C d_Mo_spell_153 6 rfl (v := x.2.2.2.2.2.1 + 1) (iv ci_1) [1, 2, 3, 4, 5, 6, 0] (by decide) (lc' := [(0, .ref (ar 0)), (1, .int x.1), (2, .long x.2.1), (4, .int x.2.2.1), (5, .int (x.2.2.2.1 + 1)), (6, .int x.2.2.2.2.1), (7, .int (x.2.2.2.2.2.1 + 1))]) rfl ?_
          refine j_goto (pc := 156) C d_Mo_spell_156 (tgt := 9) rfl ?_
          exact k9_ih (x.1, x.2.1, x.2.2.1, x.2.2.2.1 + 1, x.2.2.2.2.1, x.2.2.2.2.2.1 + 1, ((va_up x.2.2.2.2.2.2.1 4 (upd (x.2.2.2.2.2.2.1 4) x.2.2.2.1.toNatClampNeg v30)), x.2.2.2.2.2.2.2.1, x.2.2.2.2.2.2.2.2)) hf
        · rw [if_neg h28] at hf
          refine j_aload_n (pc := 54) C d_Mo_spell_54 rfl 0 rfl ?_
          refine j_get (pc := 55) C d_Mo_spell_55 0 9 wR_o0 rfl (v := .ref (ar 6)) rfl (by decide) tw951 ?_
          refine j_iload (pc := 58) C d_Mo_spell_58 5 rfl ?_
          obtain ⟨b32, hf⟩ := og hf
          refine j_iald (pc := 60) C d_Mo_spell_60 6 (inb_in b32) (x := x.2.2.2.2.2.2.1 6 x.2.2.2.2.1.toNatClampNeg) wR_a6 rfl ?_
          refine j_topi C (fun v33 ev33 => ?_)
          replace hf := ov ev33 hf
          refine j_iload (pc := 61) C d_Mo_spell_61 6 rfl ?_
          refine j_icmp_ne (pc := 63) C d_Mo_spell_63 (tgt := 136) rfl (fun h34 => ?_) (fun h34 => ?_)
          · rw [if_neg h34] at hf
            refine j_aload_n (pc := 136) C d_Mo_spell_136 rfl 0 rfl ?_
            refine j_get (pc := 137) C d_Mo_spell_137 0 6 wR_o0 rfl (v := .ref (ar 4)) rfl (by decide) tw948 ?_
            refine j_iload (pc := 140) C d_Mo_spell_140 4 rfl ?_
            refine j_aload_n (pc := 142) C d_Mo_spell_142 rfl 0 rfl ?_
            refine j_get (pc := 143) C d_Mo_spell_143 0 2 wR_o0 rfl (v := .ref (ar 2)) rfl (by decide) tw944 ?_
            refine j_iload (pc := 146) C d_Mo_spell_146 6 rfl ?_
            obtain ⟨b35, hf⟩ := og hf
            refine j_iald (pc := 148) C d_Mo_spell_148 2 (inb_in b35) (x := x.2.2.2.2.2.2.1 2 x.2.2.2.2.2.1.toNatClampNeg) wR_a2 rfl ?_
            refine j_topi C (fun v36 ev36 => ?_)
            replace hf := ov ev36 hf
            obtain ⟨b37, hf⟩ := og hf
            refine j_iast (pc := 149) C d_Mo_spell_149 4 (inb_in b37) wR_a4 (ws' := wR g ar (va_up x.2.2.2.2.2.2.1 4 (upd (x.2.2.2.2.2.2.1 4) x.2.2.2.1.toNatClampNeg v36)) x.2.2.2.2.2.2.2.1 x.2.2.2.2.2.2.2.2) wR_s4 ?_
            refine j_iinc (pc := 150) C d_Mo_spell_150 4 rfl (v := x.2.2.2.1 + 1) (iv ci_1) [1, 2, 3, 4, 0, 5, 6] (by decide) (lc' := [(0, .ref (ar 0)), (1, .int x.1), (2, .long x.2.1), (4, .int x.2.2.1), (5, .int (x.2.2.2.1 + 1)), (6, .int x.2.2.2.2.1), (7, .int x.2.2.2.2.2.1)]) rfl ?_
            refine j_iinc (pc := 153) C d_Mo_spell_153 6 rfl (v := x.2.2.2.2.2.1 + 1) (iv ci_1) [1, 2, 3, 4, 5, 6, 0] (by decide) (lc' := [(0, .ref (ar 0)), (1, .int x.1), (2, .long x.2.1), (4, .int x.2.2.1), (5, .int (x.2.2.2.1 + 1)), (6, .int x.2.2.2.2.1), (7, .int (x.2.2.2.2.2.1 + 1))]) rfl ?_
            refine j_goto (pc := 156) C d_Mo_spell_156 (tgt := 9) rfl ?_
            exact k9_ih (x.1, x.2.1, x.2.2.1, x.2.2.2.1 + 1, x.2.2.2.2.1, x.2.2.2.2.2.1 + 1, ((va_up x.2.2.2.2.2.2.1 4 (upd (x.2.2.2.2.2.2.1 4) x.2.2.2.1.toNatClampNeg v36)), x.2.2.2.2.2.2.2.1, x.2.2.2.2.2.2.2.2)) hf
          · rw [if_pos h34] at hf
            refine j_aload_n (pc := 66) C d_Mo_spell_66 rfl 0 rfl ?_
            refine j_get (pc := 67) C d_Mo_spell_67 0 13 wR_o0 rfl (v := .ref (ar 10)) rfl (by decide) tw955 ?_
            refine j_iload (pc := 70) C d_Mo_spell_70 5 rfl ?_
            obtain ⟨b38, hf⟩ := og hf
            refine j_iald (pc := 72) C d_Mo_spell_72 10 (inb_in b38) (x := x.2.2.2.2.2.2.1 10 x.2.2.2.2.1.toNatClampNeg) wR_a10 rfl ?_
            refine j_topi C (fun v39 ev39 => ?_)
            replace hf := ov ev39 hf
            refine j_iload_n (pc := 73) C d_Mo_spell_73 rfl 1 rfl ?_
            refine j_icmp_ne (pc := 74) C d_Mo_spell_74 (tgt := 136) rfl (fun h40 => ?_) (fun h40 => ?_)
            · rw [if_neg h40] at hf
              refine j_aload_n (pc := 136) C d_Mo_spell_136 rfl 0 rfl ?_
              refine j_get (pc := 137) C d_Mo_spell_137 0 6 wR_o0 rfl (v := .ref (ar 4)) rfl (by decide) tw948 ?_
              refine j_iload (pc := 140) C d_Mo_spell_140 4 rfl ?_
              refine j_aload_n (pc := 142) C d_Mo_spell_142 rfl 0 rfl ?_
              refine j_get (pc := 143) C d_Mo_spell_143 0 2 wR_o0 rfl (v := .ref (ar 2)) rfl (by decide) tw944 ?_
              refine j_iload (pc := 146) C d_Mo_spell_146 6 rfl ?_
              obtain ⟨b41, hf⟩ := og hf
              refine j_iald (pc := 148) C d_Mo_spell_148 2 (inb_in b41) (x := x.2.2.2.2.2.2.1 2 x.2.2.2.2.2.1.toNatClampNeg) wR_a2 rfl ?_
              refine j_topi C (fun v42 ev42 => ?_)
              replace hf := ov ev42 hf
              obtain ⟨b43, hf⟩ := og hf
              refine j_iast (pc := 149) C d_Mo_spell_149 4 (inb_in b43) wR_a4 (ws' := wR g ar (va_up x.2.2.2.2.2.2.1 4 (upd (x.2.2.2.2.2.2.1 4) x.2.2.2.1.toNatClampNeg v42)) x.2.2.2.2.2.2.2.1 x.2.2.2.2.2.2.2.2) wR_s4 ?_
              refine j_iinc (pc := 150) C d_Mo_spell_150 4 rfl (v := x.2.2.2.1 + 1) (iv ci_1) [1, 2, 3, 4, 0, 5, 6] (by decide) (lc' := [(0, .ref (ar 0)), (1, .int x.1), (2, .long x.2.1), (4, .int x.2.2.1), (5, .int (x.2.2.2.1 + 1)), (6, .int x.2.2.2.2.1), (7, .int x.2.2.2.2.2.1)]) rfl ?_
              refine j_iinc (pc := 153) C d_Mo_spell_153 6 rfl (v := x.2.2.2.2.2.1 + 1) (iv ci_1) [1, 2, 3, 4, 5, 6, 0] (by decide) (lc' := [(0, .ref (ar 0)), (1, .int x.1), (2, .long x.2.1), (4, .int x.2.2.1), (5, .int (x.2.2.2.1 + 1)), (6, .int x.2.2.2.2.1), (7, .int (x.2.2.2.2.2.1 + 1))]) rfl ?_
              refine j_goto (pc := 156) C d_Mo_spell_156 (tgt := 9) rfl ?_
              exact k9_ih (x.1, x.2.1, x.2.2.1, x.2.2.2.1 + 1, x.2.2.2.2.1, x.2.2.2.2.2.1 + 1, ((va_up x.2.2.2.2.2.2.1 4 (upd (x.2.2.2.2.2.2.1 4) x.2.2.2.1.toNatClampNeg v42)), x.2.2.2.2.2.2.2.1, x.2.2.2.2.2.2.2.2)) hf
            · rw [if_pos h40] at hf
              refine j_iconst (pc := 77) C d_Mo_spell_77 ck_0 ?_
              refine j_istore (pc := 78) C d_Mo_spell_78 [1, 2, 3, 4, 5, 6, 7, 0] (by decide) (lc' := [(0, .ref (ar 0)), (1, .int x.1), (2, .long x.2.1), (4, .int x.2.2.1), (5, .int x.2.2.2.1), (6, .int x.2.2.2.2.1), (7, .int x.2.2.2.2.2.1), (8, .int 0)]) rfl ?_
              exact L80 k9 k9_ih k18 k18_ih 100000 (x.1, x.2.1, x.2.2.1, x.2.2.2.1, x.2.2.2.2.1, x.2.2.2.2.2.1, 0, x.2.2.2.2.2.2) hf
      · rw [if_neg h27] at hf
        refine j_iinc (pc := 39) C d_Mo_spell_39 5 rfl (v := x.2.2.2.2.1 + 1) (iv ci_1) [1, 2, 3, 4, 5, 0, 6] (by decide) (lc' := [(0, .ref (ar 0)), (1, .int x.1), (2, .long x.2.1), (4, .int x.2.2.1), (5, .int x.2.2.2.1), (6, .int (x.2.2.2.2.1 + 1)), (7, .int x.2.2.2.2.2.1)]) rfl ?_
        refine j_goto (pc := 42) C d_Mo_spell_42 (tgt := 18) rfl ?_
        exact k18_ih (x.1, x.2.1, x.2.2.1, x.2.2.2.1, x.2.2.2.2.1 + 1, x.2.2.2.2.2.1, x.2.2.2.2.2.2) hf
  have L9 : ∀ (n : Nat) (x : Int32 × Int64 × Int32 × Int32 × Int32 × Int32 × RS), lpN (BMo_spell_9) n x = some q → 𝒥 0 0 (wR g ar x.2.2.2.2.2.2.1 x.2.2.2.2.2.2.2.1 x.2.2.2.2.2.2.2.2) [(0, .ref (ar 0)), (1, .int x.1), (2, .long x.2.1), (4, .int x.2.2.1), (5, .int x.2.2.2.1), (6, .int x.2.2.2.2.1), (7, .int x.2.2.2.2.2.1)] [] 9 := by
    refine lp_ind (fun k9 k9_ih x hf => ?_)
    unfold BMo_spell_9 at hf
    refine j_iload (pc := 9) C d_Mo_spell_9 6 rfl ?_
    refine j_aload_n (pc := 11) C d_Mo_spell_11 rfl 0 rfl ?_
    refine j_get (pc := 12) C d_Mo_spell_12 0 3 wR_o0 rfl (v := .int (x.2.2.2.2.2.2.2.1 1)) rfl (by decide) tw945 ?_
    refine j_icmp_ge (pc := 15) C d_Mo_spell_15 (tgt := 159) rfl (fun h1 => ?_) (fun h1 => ?_)
    · rw [if_pos h1] at hf
      refine j_aload_n (pc := 159) C d_Mo_spell_159 rfl 0 rfl ?_
      refine j_iload (pc := 160) C d_Mo_spell_160 4 rfl ?_
      obtain ⟨q2, eq2, hf⟩ := ob hf
      refine j_callVv (pc := 162) C (rest := []) d_Mo_spell_162 (c_Mo_becomeFresh (g := g) (ar := ar) eq2) cv_Mo_becomeFresh tw1298 0 rfl rfl cut_same rfl rfl (Nat.le_of_ble_eq_true rfl) (kc2 := 0) (ks2 := 0) (by decide) ?_
      cases hf
      exact j_vret (pc := 165) C d_Mo_spell_165 ⟨rfl, rfl⟩ (Nat.le_of_ble_eq_true rfl) (Nat.le_of_ble_eq_true rfl)
    · rw [if_neg h1] at hf
      exact L18 k9 k9_ih 100000 (x.1, x.2.1, x.2.2.1, x.2.2.2.1, x.2.2.2.2.1, x.2.2.2.2.2.1, x.2.2.2.2.2.2) hf
  unfold f_Mo_spell at hf
  change 𝒥 0 0 (wR g ar r.1 r.2.1 r.2.2) [(0, .ref (ar 0)), (1, .int a1), (2, .long a2), (4, .int a4)] [] 0
  refine j_iconst (pc := 0) C d_Mo_spell_0 ck_0 ?_
  refine j_istore (pc := 1) C d_Mo_spell_1 [1, 2, 3, 4, 0] (by decide) (lc' := [(0, .ref (ar 0)), (1, .int a1), (2, .long a2), (4, .int a4), (5, .int 0)]) rfl ?_
  refine j_iconst (pc := 3) C d_Mo_spell_3 ck_0 ?_
  refine j_istore (pc := 4) C d_Mo_spell_4 [1, 2, 3, 4, 5, 0] (by decide) (lc' := [(0, .ref (ar 0)), (1, .int a1), (2, .long a2), (4, .int a4), (5, .int 0), (6, .int 0)]) rfl ?_
  refine j_iconst (pc := 6) C d_Mo_spell_6 ck_0 ?_
  refine j_istore (pc := 7) C d_Mo_spell_7 [1, 2, 3, 4, 5, 6, 0] (by decide) (lc' := [(0, .ref (ar 0)), (1, .int a1), (2, .long a2), (4, .int a4), (5, .int 0), (6, .int 0), (7, .int 0)]) rfl ?_
  exact L9 100000 (a1, a2, a4, 0, 0, 0, r) hf
abbrev rm_Mo_rename : Room := { frames := 6, cells := 0, slots := 0, locals := 132 }
theorem cv_Mo_rename : CV y_Mo_rename b_Mo_rename 12 (some .int) 2 := ⟨⟨tw1285, tw10, by decide +kernel⟩, tw1283, tw1284⟩
set_option maxHeartbeats 4000000 in
set_option maxRecDepth 100000 in
theorem c_Mo_rename {g : GT} {ar : Nat → Nat} {a1 : Int32} {a2 : Int64} {r : RS} {q : Int32 × RS} (hf : f_Mo_rename a1 a2 r = some q) : MI g y_Mo_rename b_Mo_rename 12 (some .int) rm_Mo_rename [.ref (ar 0), .int a1, .long a2] (wR g ar r.1 r.2.1 r.2.2) q.1 (wR g ar q.2.1 q.2.2.1 q.2.2.2) := by
  refine MI.of (by decide) (Nat.le_of_ble_eq_true rfl) (fun 𝒥 C => ?_)
  have L216 : ∀ (n : Nat) (x : Int32 × Int64 × Int32 × Int32 × Int32 × Int32 × Int32 × Int32 × Int32 × Int32 × RS), lpN (BMo_rename_216) n x = some q → 𝒥 0 0 (wR g ar x.2.2.2.2.2.2.2.2.2.2.1 x.2.2.2.2.2.2.2.2.2.2.2.1 x.2.2.2.2.2.2.2.2.2.2.2.2) [(0, .ref (ar 0)), (1, .int x.1), (2, .long x.2.1), (4, .int x.2.2.1), (5, .int x.2.2.2.1), (6, .int x.2.2.2.2.1), (7, .int x.2.2.2.2.2.1), (8, .int x.2.2.2.2.2.2.1), (9, .int x.2.2.2.2.2.2.2.1), (10, .int x.2.2.2.2.2.2.2.2.1), (11, .int x.2.2.2.2.2.2.2.2.2.1)] [] 216 := by
    refine lp_ind (fun k216 k216_ih x hf => ?_)
    unfold BMo_rename_216 at hf
    refine j_iload (pc := 216) C d_Mo_rename_216 10 rfl ?_
    refine j_iload (pc := 218) C d_Mo_rename_218 8 rfl ?_
    refine j_icmp_ge (pc := 220) C d_Mo_rename_220 (tgt := 258) rfl (fun h18 => ?_) (fun h18 => ?_)
    · rw [if_pos h18] at hf
      refine j_iload (pc := 258) C d_Mo_rename_258 9 rfl ?_
      refine j_if_eq (pc := 260) C d_Mo_rename_260 (tgt := 268) rfl (fun h19 => ?_) (fun h19 => ?_)
      · rw [if_pos h19] at hf
        refine j_aload_n (pc := 268) C d_Mo_rename_268 rfl 0 rfl ?_
        refine j_iconst (pc := 269) C d_Mo_rename_269 ck_4 ?_
        obtain ⟨q20, eq20, hf⟩ := ob hf
        refine j_callVi (pc := 270) C (rest := []) d_Mo_rename_270 (c_Mo_takeBack (g := g) (ar := ar) eq20) cv_Mo_takeBack tw1302 0 rfl rfl cut_same rfl rfl (Nat.le_of_ble_eq_true rfl) (kc2 := 0) (ks2 := 0) (by decide) ?_
        cases hf
        exact j_iret (pc := 273) C d_Mo_rename_273 ⟨rfl, rfl⟩ (Nat.le_of_ble_eq_true rfl) (Nat.le_of_ble_eq_true rfl)
      · rw [if_neg h19] at hf
        refine j_iload (pc := 263) C d_Mo_rename_263 5 rfl ?_
        refine j_goto (pc := 265) C d_Mo_rename_265 (tgt := 273) rfl ?_
        cases hf
        exact j_iret (pc := 273) C d_Mo_rename_273 ⟨rfl, rfl⟩ (Nat.le_of_ble_eq_true rfl) (Nat.le_of_ble_eq_true rfl)
    · rw [if_neg h18] at hf
      refine j_iload (pc := 223) C d_Mo_rename_223 9 rfl ?_
      refine j_if_eq (pc := 225) C d_Mo_rename_225 (tgt := 258) rfl (fun h21 => ?_) (fun h21 => ?_)
      · rw [if_pos h21] at hf
        refine j_iload (pc := 258) C d_Mo_rename_258 9 rfl ?_
        refine j_if_eq (pc := 260) C d_Mo_rename_260 (tgt := 268) rfl (fun h22 => ?_) (fun h22 => ?_)
        · rw [if_pos h22] at hf
          refine j_aload_n (pc := 268) C d_Mo_rename_268 rfl 0 rfl ?_
          refine j_iconst (pc := 269) C d_Mo_rename_269 ck_4 ?_
          obtain ⟨q23, eq23, hf⟩ := ob hf
          refine j_callVi (pc := 270) C (rest := []) d_Mo_rename_270 (c_Mo_takeBack (g := g) (ar := ar) eq23) cv_Mo_takeBack tw1302 0 rfl rfl cut_same rfl rfl (Nat.le_of_ble_eq_true rfl) (kc2 := 0) (ks2 := 0) (by decide) ?_
          cases hf
          exact j_iret (pc := 273) C d_Mo_rename_273 ⟨rfl, rfl⟩ (Nat.le_of_ble_eq_true rfl) (Nat.le_of_ble_eq_true rfl)
        · rw [if_neg h22] at hf
          refine j_iload (pc := 263) C d_Mo_rename_263 5 rfl ?_
          refine j_goto (pc := 265) C d_Mo_rename_265 (tgt := 273) rfl ?_
          cases hf
          exact j_iret (pc := 273) C d_Mo_rename_273 ⟨rfl, rfl⟩ (Nat.le_of_ble_eq_true rfl) (Nat.le_of_ble_eq_true rfl)
      · rw [if_neg h21] at hf
        refine j_aload_n (pc := 228) C d_Mo_rename_228 rfl 0 rfl ?_
        refine j_get (pc := 229) C d_Mo_rename_229 0 13 wR_o0 rfl (v := .ref (ar 10)) rfl (by decide) tw955 ?_
        refine j_iload (pc := 232) C d_Mo_rename_232 10 rfl ?_
        obtain ⟨b24, hf⟩ := og hf
        refine j_iald (pc := 234) C d_Mo_rename_234 10 (inb_in b24) (x := x.2.2.2.2.2.2.2.2.2.2.1 10 x.2.2.2.2.2.2.2.2.2.1.toNatClampNeg) wR_a10 rfl ?_
        refine j_topi C (fun v25 ev25 => ?_)
        replace hf := ov ev25 hf
        refine j_aload_n (pc := 235) C d_Mo_rename_235 rfl 0 rfl ?_
        refine j_get (pc := 236) C d_Mo_rename_236 0 14 wR_o0 rfl (v := .ref (ar 11)) rfl (by decide) tw956 ?_
        refine j_iload (pc := 239) C d_Mo_rename_239 10 rfl ?_
        obtain ⟨b26, hf⟩ := og hf
        refine j_iald (pc := 241) C d_Mo_rename_241 11 (inb_in b26) (x := x.2.2.2.2.2.2.2.2.2.2.1 11 x.2.2.2.2.2.2.2.2.2.1.toNatClampNeg) wR_a11 rfl ?_
        refine j_topi C (fun v27 ev27 => ?_)
        replace hf := ov ev27 hf
        refine j_icmp_ne (pc := 242) C d_Mo_rename_242 (tgt := 249) rfl (fun h28 => ?_) (fun h28 => ?_)
        · rw [if_neg h28] at hf
          refine j_iconst (pc := 249) C d_Mo_rename_249 ck_0 ?_
          refine j_istore (pc := 250) C d_Mo_rename_250 [1, 2, 3, 4, 5, 6, 7, 8, 9, 0, 10] (by decide) (lc' := [(0, .ref (ar 0)), (1, .int x.1), (2, .long x.2.1), (4, .int x.2.2.1), (5, .int x.2.2.2.1), (6, .int x.2.2.2.2.1), (7, .int x.2.2.2.2.2.1), (8, .int x.2.2.2.2.2.2.1), (9, .int x.2.2.2.2.2.2.2.1), (10, .int 0), (11, .int x.2.2.2.2.2.2.2.2.2.1)]) rfl ?_
          refine j_iinc (pc := 252) C d_Mo_rename_252 10 rfl (v := x.2.2.2.2.2.2.2.2.2.1 + 1) (iv ci_1) [1, 2, 3, 4, 5, 6, 7, 8, 9, 10, 0] (by decide) (lc' := [(0, .ref (ar 0)), (1, .int x.1), (2, .long x.2.1), (4, .int x.2.2.1), (5, .int x.2.2.2.1), (6, .int x.2.2.2.2.1), (7, .int x.2.2.2.2.2.1), (8, .int x.2.2.2.2.2.2.1), (9, .int x.2.2.2.2.2.2.2.1), (10, .int 0), (11, .int (x.2.2.2.2.2.2.2.2.2.1 + 1))]) rfl ?_
          refine j_goto (pc := 255) C d_Mo_rename_255 (tgt := 216) rfl ?_
          exact k216_ih (x.1, x.2.1, x.2.2.1, x.2.2.2.1, x.2.2.2.2.1, x.2.2.2.2.2.1, x.2.2.2.2.2.2.1, x.2.2.2.2.2.2.2.1, 0, x.2.2.2.2.2.2.2.2.2.1 + 1, x.2.2.2.2.2.2.2.2.2.2) hf
        · rw [if_pos h28] at hf
          refine j_iconst (pc := 245) C d_Mo_rename_245 ck_1 ?_
          refine j_goto (pc := 246) C d_Mo_rename_246 (tgt := 250) rfl ?_
          refine j_istore (pc := 250) C d_Mo_rename_250 [1, 2, 3, 4, 5, 6, 7, 8, 9, 0, 10] (by decide) (lc' := [(0, .ref (ar 0)), (1, .int x.1), (2, .long x.2.1), (4, .int x.2.2.1), (5, .int x.2.2.2.1), (6, .int x.2.2.2.2.1), (7, .int x.2.2.2.2.2.1), (8, .int x.2.2.2.2.2.2.1), (9, .int x.2.2.2.2.2.2.2.1), (10, .int 1), (11, .int x.2.2.2.2.2.2.2.2.2.1)]) rfl ?_
          refine j_iinc (pc := 252) C d_Mo_rename_252 10 rfl (v := x.2.2.2.2.2.2.2.2.2.1 + 1) (iv ci_1) [1, 2, 3, 4, 5, 6, 7, 8, 9, 10, 0] (by decide) (lc' := [(0, .ref (ar 0)), (1, .int x.1), (2, .long x.2.1), (4, .int x.2.2.1), (5, .int x.2.2.2.1), (6, .int x.2.2.2.2.1), (7, .int x.2.2.2.2.2.1), (8, .int x.2.2.2.2.2.2.1), (9, .int x.2.2.2.2.2.2.2.1), (10, .int 1), (11, .int (x.2.2.2.2.2.2.2.2.2.1 + 1))]) rfl ?_
          refine j_goto (pc := 255) C d_Mo_rename_255 (tgt := 216) rfl ?_
          exact k216_ih (x.1, x.2.1, x.2.2.1, x.2.2.2.1, x.2.2.2.2.1, x.2.2.2.2.2.1, x.2.2.2.2.2.2.1, x.2.2.2.2.2.2.2.1, 1, x.2.2.2.2.2.2.2.2.2.1 + 1, x.2.2.2.2.2.2.2.2.2.2) hf
  have L79 : ∀ (n : Nat) (x : Int32 × Int64 × Int32 × Int32 × Int32 × Int32 × Int32 × RS), lpN (BMo_rename_79) n x = some q → 𝒥 0 0 (wR g ar x.2.2.2.2.2.2.2.1 x.2.2.2.2.2.2.2.2.1 x.2.2.2.2.2.2.2.2.2) [(0, .ref (ar 0)), (1, .int x.1), (2, .long x.2.1), (4, .int x.2.2.1), (5, .int x.2.2.2.1), (6, .int x.2.2.2.2.1), (7, .int x.2.2.2.2.2.1), (8, .int x.2.2.2.2.2.2.1)] [] 79 := by
    refine lp_ind (fun k79 k79_ih x hf => ?_)
    unfold BMo_rename_79 at hf
    refine j_iload (pc := 79) C d_Mo_rename_79 7 rfl ?_
    refine j_aload_n (pc := 81) C d_Mo_rename_81 rfl 0 rfl ?_
    refine j_get (pc := 82) C d_Mo_rename_82 0 7 wR_o0 rfl (v := .int (x.2.2.2.2.2.2.2.2.1 3)) rfl (by decide) tw949 ?_
    refine j_icmp_ge (pc := 85) C d_Mo_rename_85 (tgt := 132) rfl (fun h11 => ?_) (fun h11 => ?_)
    · rw [if_pos h11] at hf
      refine j_iload (pc := 132) C d_Mo_rename_132 6 rfl ?_
      refine j_sipush (pc := 134) C d_Mo_rename_134 cs_240 ?_
      refine j_icmp_le (pc := 137) C d_Mo_rename_137 (tgt := 146) rfl (fun h12 => ?_) (fun h12 => ?_)
      · rw [if_pos h12] at hf
        refine j_aload_n (pc := 146) C d_Mo_rename_146 rfl 0 rfl ?_
        obtain ⟨q13, eq13, hf⟩ := ob hf
        refine j_callVv (pc := 147) C (rest := []) d_Mo_rename_147 (c_Mo_keep (g := g) (ar := ar) eq13) cv_Mo_keep tw1290 0 rfl rfl cut_same rfl rfl (Nat.le_of_ble_eq_true rfl) (kc2 := 0) (ks2 := 0) (by decide) ?_
        refine j_aload_n (pc := 150) C d_Mo_rename_150 rfl 0 rfl ?_
        refine j_ldc2 (pc := 151) C d_Mo_rename_151 tw1122 ?_
        obtain ⟨q14, eq14, hf⟩ := ob hf
        refine j_callVi (pc := 154) C (rest := []) d_Mo_rename_154 (c_Mo_functionNamed (g := g) (ar := ar) eq14) cv_Mo_functionNamed tw1250 0 rfl rfl cut_same rfl rfl (Nat.le_of_ble_eq_true rfl) (kc2 := 0) (ks2 := 0) (by decide) ?_
        refine j_istore (pc := 157) C d_Mo_rename_157 [1, 2, 3, 4, 5, 6, 7, 0] (by decide) (lc' := [(0, .ref (ar 0)), (1, .int x.1), (2, .long x.2.1), (4, .int x.2.2.1), (5, .int x.2.2.2.1), (6, .int x.2.2.2.2.1), (7, .int x.2.2.2.2.2.1), (8, .int q14.1)]) rfl ?_
        refine j_aload_n (pc := 159) C d_Mo_rename_159 rfl 0 rfl ?_
        refine j_get (pc := 160) C d_Mo_rename_160 0 7 wR_o0 rfl (v := .int (q14.2.2.1 3)) rfl (by decide) tw949 ?_
        refine j_istore (pc := 163) C d_Mo_rename_163 [1, 2, 3, 4, 5, 6, 7, 8, 0] (by decide) (lc' := [(0, .ref (ar 0)), (1, .int x.1), (2, .long x.2.1), (4, .int x.2.2.1), (5, .int x.2.2.2.1), (6, .int x.2.2.2.2.1), (7, .int x.2.2.2.2.2.1), (8, .int q14.1), (9, .int (q14.2.2.1 3))]) rfl ?_
        refine j_aload_n (pc := 165) C d_Mo_rename_165 rfl 0 rfl ?_
        refine j_iload (pc := 166) C d_Mo_rename_166 3 rfl ?_
        refine j_lload_n (pc := 168) C d_Mo_rename_168 rfl 2 rfl ?_
        refine j_iload (pc := 169) C d_Mo_rename_169 4 rfl ?_
        obtain ⟨q15, eq15, hf⟩ := ob hf
        refine j_callVv (pc := 171) C (rest := []) d_Mo_rename_171 (c_Mo_spell (g := g) (ar := ar) eq15) cv_Mo_spell tw1294 0 rfl rfl cut_same rfl rfl (Nat.le_of_ble_eq_true rfl) (kc2 := 0) (ks2 := 0) (by decide) ?_
        refine j_aload_n (pc := 174) C d_Mo_rename_174 rfl 0 rfl ?_
        obtain ⟨q16, eq16, hf⟩ := ob hf
        refine j_callVv (pc := 175) C (rest := []) d_Mo_rename_175 (c_Mo_analyse (g := g) (ar := ar) eq16) cv_Mo_analyse tw1147 0 rfl rfl cut_same rfl rfl (Nat.le_of_ble_eq_true rfl) (kc2 := 0) (ks2 := 0) (by decide) ?_
        refine j_aload_n (pc := 178) C d_Mo_rename_178 rfl 0 rfl ?_
        refine j_get (pc := 179) C d_Mo_rename_179 0 24 wR_o0 rfl (v := .int (q16.2.1 5)) rfl (by decide) tw966 ?_
        refine j_if_ne (pc := 182) C d_Mo_rename_182 (tgt := 210) rfl (fun h17 => ?_) (fun h17 => ?_)
        · rw [if_neg h17] at hf
          refine j_iconst (pc := 210) C d_Mo_rename_210 ck_0 ?_
          refine j_istore (pc := 211) C d_Mo_rename_211 [1, 2, 3, 4, 5, 6, 7, 8, 9, 0] (by decide) (lc' := [(0, .ref (ar 0)), (1, .int x.1), (2, .long x.2.1), (4, .int x.2.2.1), (5, .int x.2.2.2.1), (6, .int x.2.2.2.2.1), (7, .int x.2.2.2.2.2.1), (8, .int q14.1), (9, .int (q14.2.2.1 3)), (10, .int 0)]) rfl ?_
          refine j_iconst (pc := 213) C d_Mo_rename_213 ck_0 ?_
          refine j_istore (pc := 214) C d_Mo_rename_214 [1, 2, 3, 4, 5, 6, 7, 8, 9, 10, 0] (by decide) (lc' := [(0, .ref (ar 0)), (1, .int x.1), (2, .long x.2.1), (4, .int x.2.2.1), (5, .int x.2.2.2.1), (6, .int x.2.2.2.2.1), (7, .int x.2.2.2.2.2.1), (8, .int q14.1), (9, .int (q14.2.2.1 3)), (10, .int 0), (11, .int 0)]) rfl ?_
          exact L216 100000 (x.1, x.2.1, x.2.2.1, x.2.2.2.1, x.2.2.2.2.1, x.2.2.2.2.2.1, q14.1, q14.2.2.1 3, 0, 0, q16) hf
        · rw [if_pos h17] at hf
          refine j_aload_n (pc := 185) C d_Mo_rename_185 rfl 0 rfl ?_
          refine j_get (pc := 186) C d_Mo_rename_186 0 7 wR_o0 rfl (v := .int (q16.2.1 3)) rfl (by decide) tw949 ?_
          refine j_iload (pc := 189) C d_Mo_rename_189 8 rfl ?_
          refine j_icmp_ne (pc := 191) C d_Mo_rename_191 (tgt := 210) rfl (fun h29 => ?_) (fun h29 => ?_)
          · rw [if_neg h29] at hf
            refine j_iconst (pc := 210) C d_Mo_rename_210 ck_0 ?_
            refine j_istore (pc := 211) C d_Mo_rename_211 [1, 2, 3, 4, 5, 6, 7, 8, 9, 0] (by decide) (lc' := [(0, .ref (ar 0)), (1, .int x.1), (2, .long x.2.1), (4, .int x.2.2.1), (5, .int x.2.2.2.1), (6, .int x.2.2.2.2.1), (7, .int x.2.2.2.2.2.1), (8, .int q14.1), (9, .int (q14.2.2.1 3)), (10, .int 0)]) rfl ?_
            refine j_iconst (pc := 213) C d_Mo_rename_213 ck_0 ?_
            refine j_istore (pc := 214) C d_Mo_rename_214 [1, 2, 3, 4, 5, 6, 7, 8, 9, 10, 0] (by decide) (lc' := [(0, .ref (ar 0)), (1, .int x.1), (2, .long x.2.1), (4, .int x.2.2.1), (5, .int x.2.2.2.1), (6, .int x.2.2.2.2.1), (7, .int x.2.2.2.2.2.1), (8, .int q14.1), (9, .int (q14.2.2.1 3)), (10, .int 0), (11, .int 0)]) rfl ?_
            exact L216 100000 (x.1, x.2.1, x.2.2.1, x.2.2.2.1, x.2.2.2.2.1, x.2.2.2.2.2.1, q14.1, q14.2.2.1 3, 0, 0, q16) hf
          · rw [if_pos h29] at hf
            refine j_aload_n (pc := 194) C d_Mo_rename_194 rfl 0 rfl ?_
            refine j_ldc2 (pc := 195) C d_Mo_rename_195 tw1122 ?_
            obtain ⟨q30, eq30, hf⟩ := ob hf
            refine j_callVi (pc := 198) C (rest := []) d_Mo_rename_198 (c_Mo_functionNamed (g := g) (ar := ar) eq30) cv_Mo_functionNamed tw1250 0 rfl rfl cut_same rfl rfl (Nat.le_of_ble_eq_true rfl) (kc2 := 0) (ks2 := 0) (by decide) ?_
            refine j_iload (pc := 201) C d_Mo_rename_201 7 rfl ?_
            refine j_icmp_ne (pc := 203) C d_Mo_rename_203 (tgt := 210) rfl (fun h31 => ?_) (fun h31 => ?_)
            · rw [if_neg h31] at hf
              refine j_iconst (pc := 210) C d_Mo_rename_210 ck_0 ?_
              refine j_istore (pc := 211) C d_Mo_rename_211 [1, 2, 3, 4, 5, 6, 7, 8, 9, 0] (by decide) (lc' := [(0, .ref (ar 0)), (1, .int x.1), (2, .long x.2.1), (4, .int x.2.2.1), (5, .int x.2.2.2.1), (6, .int x.2.2.2.2.1), (7, .int x.2.2.2.2.2.1), (8, .int q14.1), (9, .int (q14.2.2.1 3)), (10, .int 0)]) rfl ?_
              refine j_iconst (pc := 213) C d_Mo_rename_213 ck_0 ?_
              refine j_istore (pc := 214) C d_Mo_rename_214 [1, 2, 3, 4, 5, 6, 7, 8, 9, 10, 0] (by decide) (lc' := [(0, .ref (ar 0)), (1, .int x.1), (2, .long x.2.1), (4, .int x.2.2.1), (5, .int x.2.2.2.1), (6, .int x.2.2.2.2.1), (7, .int x.2.2.2.2.2.1), (8, .int q14.1), (9, .int (q14.2.2.1 3)), (10, .int 0), (11, .int 0)]) rfl ?_
              exact L216 100000 (x.1, x.2.1, x.2.2.1, x.2.2.2.1, x.2.2.2.2.1, x.2.2.2.2.2.1, q14.1, q14.2.2.1 3, 0, 0, q30.2) hf
            · rw [if_pos h31] at hf
              refine j_iconst (pc := 206) C d_Mo_rename_206 ck_1 ?_
              refine j_goto (pc := 207) C d_Mo_rename_207 (tgt := 211) rfl ?_
              refine j_istore (pc := 211) C d_Mo_rename_211 [1, 2, 3, 4, 5, 6, 7, 8, 9, 0] (by decide) (lc' := [(0, .ref (ar 0)), (1, .int x.1), (2, .long x.2.1), (4, .int x.2.2.1), (5, .int x.2.2.2.1), (6, .int x.2.2.2.2.1), (7, .int x.2.2.2.2.2.1), (8, .int q14.1), (9, .int (q14.2.2.1 3)), (10, .int 1)]) rfl ?_
              refine j_iconst (pc := 213) C d_Mo_rename_213 ck_0 ?_
              refine j_istore (pc := 214) C d_Mo_rename_214 [1, 2, 3, 4, 5, 6, 7, 8, 9, 10, 0] (by decide) (lc' := [(0, .ref (ar 0)), (1, .int x.1), (2, .long x.2.1), (4, .int x.2.2.1), (5, .int x.2.2.2.1), (6, .int x.2.2.2.2.1), (7, .int x.2.2.2.2.2.1), (8, .int q14.1), (9, .int (q14.2.2.1 3)), (10, .int 1), (11, .int 0)]) rfl ?_
              exact L216 100000 (x.1, x.2.1, x.2.2.1, x.2.2.2.1, x.2.2.2.2.1, x.2.2.2.2.2.1, q14.1, q14.2.2.1 3, 1, 0, q30.2) hf
      · rw [if_neg h12] at hf
        refine j_aload_n (pc := 140) C d_Mo_rename_140 rfl 0 rfl ?_
        refine j_iconst (pc := 141) C d_Mo_rename_141 ck_2 ?_
        obtain ⟨q32, eq32, hf⟩ := ob hf
        refine j_callVi (pc := 142) C (rest := []) d_Mo_rename_142 (c_Mo_fails (g := g) (ar := ar) eq32) cv_Mo_fails tw1262 0 rfl rfl cut_same rfl rfl (Nat.le_of_ble_eq_true rfl) (kc2 := 0) (ks2 := 0) (by decide) ?_
        cases hf
        exact j_iret (pc := 145) C d_Mo_rename_145 ⟨rfl, rfl⟩ (Nat.le_of_ble_eq_true rfl) (Nat.le_of_ble_eq_true rfl)
    · rw [if_neg h11] at hf
      refine j_aload_n (pc := 88) C d_Mo_rename_88 rfl 0 rfl ?_
      refine j_get (pc := 89) C d_Mo_rename_89 0 13 wR_o0 rfl (v := .ref (ar 10)) rfl (by decide) tw955 ?_
      refine j_iload (pc := 92) C d_Mo_rename_92 7 rfl ?_
      obtain ⟨b33, hf⟩ := og hf
      refine j_iald (pc := 94) C d_Mo_rename_94 10 (inb_in b33) (x := x.2.2.2.2.2.2.2.1 10 x.2.2.2.2.2.2.1.toNatClampNeg) wR_a10 rfl ?_
      refine j_topi C (fun v34 ev34 => ?_)
      replace hf := ov ev34 hf
      refine j_iload (pc := 95) C d_Mo_rename_95 3 rfl ?_
      refine j_icmp_ne (pc := 97) C d_Mo_rename_97 (tgt := 126) rfl (fun h35 => ?_) (fun h35 => ?_)
      · rw [if_neg h35] at hf
        refine j_iinc (pc := 126) C d_Mo_rename_126 7 rfl (v := x.2.2.2.2.2.2.1 + 1) (iv ci_1) [1, 2, 3, 4, 5, 6, 7, 0] (by decide) (lc' := [(0, .ref (ar 0)), (1, .int x.1), (2, .long x.2.1), (4, .int x.2.2.1), (5, .int x.2.2.2.1), (6, .int x.2.2.2.2.1), (7, .int x.2.2.2.2.2.1), (8, .int (x.2.2.2.2.2.2.1 + 1))]) rfl ?_
        refine j_goto (pc := 129) C d_Mo_rename_129 (tgt := 79) rfl ?_
        exact k79_ih (x.1, x.2.1, x.2.2.1, x.2.2.2.1, x.2.2.2.2.1, x.2.2.2.2.2.1, x.2.2.2.2.2.2.1 + 1, x.2.2.2.2.2.2.2) hf
      · rw [if_pos h35] at hf
        refine j_iinc (pc := 100) C d_Mo_rename_100 5 rfl (v := x.2.2.2.2.1 + 1) (iv ci_1) [1, 2, 3, 4, 5, 0, 6, 7] (by decide) (lc' := [(0, .ref (ar 0)), (1, .int x.1), (2, .long x.2.1), (4, .int x.2.2.1), (5, .int x.2.2.2.1), (6, .int (x.2.2.2.2.1 + 1)), (7, .int x.2.2.2.2.2.1), (8, .int x.2.2.2.2.2.2.1)]) rfl ?_
        refine j_iload (pc := 103) C d_Mo_rename_103 6 rfl ?_
        refine j_iload (pc := 105) C d_Mo_rename_105 4 rfl ?_
        refine j_aload_n (pc := 107) C d_Mo_rename_107 rfl 0 rfl ?_
        refine j_get (pc := 108) C d_Mo_rename_108 0 10 wR_o0 rfl (v := .ref (ar 7)) rfl (by decide) tw952 ?_
        refine j_iload (pc := 111) C d_Mo_rename_111 7 rfl ?_
        obtain ⟨b36, hf⟩ := og hf
        refine j_iald (pc := 113) C d_Mo_rename_113 7 (inb_in b36) (x := x.2.2.2.2.2.2.2.1 7 x.2.2.2.2.2.2.1.toNatClampNeg) wR_a7 rfl ?_
        refine j_topi C (fun v37 ev37 => ?_)
        replace hf := ov ev37 hf
        refine j_aload_n (pc := 114) C d_Mo_rename_114 rfl 0 rfl ?_
        refine j_get (pc := 115) C d_Mo_rename_115 0 9 wR_o0 rfl (v := .ref (ar 6)) rfl (by decide) tw951 ?_
        refine j_iload (pc := 118) C d_Mo_rename_118 7 rfl ?_
        obtain ⟨b38, hf⟩ := og hf
        refine j_iald (pc := 120) C d_Mo_rename_120 6 (inb_in b38) (x := x.2.2.2.2.2.2.2.1 6 x.2.2.2.2.2.2.1.toNatClampNeg) wR_a6 rfl ?_
        refine j_topi C (fun v39 ev39 => ?_)
        replace hf := ov ev39 hf
        refine j_isub (pc := 121) C d_Mo_rename_121 ?_
        refine j_isub (pc := 122) C d_Mo_rename_122 ?_
        refine j_iadd (pc := 123) C d_Mo_rename_123 ?_
        refine j_topi C (fun v40 ev40 => ?_)
        replace hf := ov ev40 hf
        refine j_istore (pc := 124) C d_Mo_rename_124 [1, 2, 3, 4, 5, 6, 0, 7] (by decide) (lc' := [(0, .ref (ar 0)), (1, .int x.1), (2, .long x.2.1), (4, .int x.2.2.1), (5, .int x.2.2.2.1), (6, .int (x.2.2.2.2.1 + 1)), (7, .int v40), (8, .int x.2.2.2.2.2.2.1)]) rfl ?_
        refine j_iinc (pc := 126) C d_Mo_rename_126 7 rfl (v := x.2.2.2.2.2.2.1 + 1) (iv ci_1) [1, 2, 3, 4, 5, 6, 7, 0] (by decide) (lc' := [(0, .ref (ar 0)), (1, .int x.1), (2, .long x.2.1), (4, .int x.2.2.1), (5, .int x.2.2.2.1), (6, .int (x.2.2.2.2.1 + 1)), (7, .int v40), (8, .int (x.2.2.2.2.2.2.1 + 1))]) rfl ?_
        refine j_goto (pc := 129) C d_Mo_rename_129 (tgt := 79) rfl ?_
        exact k79_ih (x.1, x.2.1, x.2.2.1, x.2.2.2.1, x.2.2.2.2.1 + 1, v40, x.2.2.2.2.2.2.1 + 1, x.2.2.2.2.2.2.2) hf
  unfold f_Mo_rename at hf
  change 𝒥 0 0 (wR g ar r.1 r.2.1 r.2.2) [(0, .ref (ar 0)), (1, .int a1), (2, .long a2)] [] 0
  refine j_aload_n (pc := 0) C d_Mo_rename_0 rfl 0 rfl ?_
  refine j_iconst (pc := 1) C d_Mo_rename_1 ck_0 ?_
  refine j_put (pc := 2) C d_Mo_rename_2 0 1 wR_o0 rfl (by decide) tw943 pd_I rfl rfl rfl (Nat.le_of_ble_eq_true rfl) (ws' := wR g ar r.1 (va_up r.2.1 0 0) r.2.2) wR_p0_1 ?_
  refine j_lload_n (pc := 5) C d_Mo_rename_5 rfl 2 rfl ?_
  obtain ⟨q1, eq1, hf⟩ := ob hf
  refine j_callSi (pc := 6) C (rest := []) d_Mo_rename_6 (c_Mo_isWord (g := g)  eq1) cv_Mo_isWord tw1286 cut_none rfl rfl (Nat.le_of_ble_eq_true rfl) (kc2 := 0) (ks2 := 0) (by decide) ?_
  refine j_if_eq (pc := 9) C d_Mo_rename_9 (tgt := 20) rfl (fun h2 => ?_) (fun h2 => ?_)
  · rw [if_pos h2] at hf
    refine j_aload_n (pc := 20) C d_Mo_rename_20 rfl 0 rfl ?_
    refine j_iconst (pc := 21) C d_Mo_rename_21 ck_1 ?_
    obtain ⟨q3, eq3, hf⟩ := ob hf
    refine j_callVi (pc := 22) C (rest := []) d_Mo_rename_22 (c_Mo_fails (g := g) (ar := ar) eq3) cv_Mo_fails tw1262 0 rfl rfl cut_same rfl rfl (Nat.le_of_ble_eq_true rfl) (kc2 := 0) (ks2 := 0) (by decide) ?_
    cases hf
    exact j_iret (pc := 25) C d_Mo_rename_25 ⟨rfl, rfl⟩ (Nat.le_of_ble_eq_true rfl) (Nat.le_of_ble_eq_true rfl)
  · rw [if_neg h2] at hf
    refine j_aload_n (pc := 12) C d_Mo_rename_12 rfl 0 rfl ?_
    refine j_lload_n (pc := 13) C d_Mo_rename_13 rfl 2 rfl ?_
    obtain ⟨q4, eq4, hf⟩ := ob hf
    refine j_callVi (pc := 14) C (rest := []) d_Mo_rename_14 (c_Mo_keyword (g := g) (ar := ar) eq4) cv_Mo_keyword tw1169 0 rfl rfl cut_same rfl rfl (Nat.le_of_ble_eq_true rfl) (kc2 := 0) (ks2 := 0) (by decide) ?_
    refine j_if_lt (pc := 17) C d_Mo_rename_17 (tgt := 26) rfl (fun h5 => ?_) (fun h5 => ?_)
    · rw [if_pos h5] at hf
      refine j_aload_n (pc := 26) C d_Mo_rename_26 rfl 0 rfl ?_
      obtain ⟨q6, eq6, hf⟩ := ob hf
      refine j_callVv (pc := 27) C (rest := []) d_Mo_rename_27 (c_Mo_analyse (g := g) (ar := ar) eq6) cv_Mo_analyse tw1147 0 rfl rfl cut_same rfl rfl (Nat.le_of_ble_eq_true rfl) (kc2 := 0) (ks2 := 0) (by decide) ?_
      refine j_aload_n (pc := 30) C d_Mo_rename_30 rfl 0 rfl ?_
      refine j_get (pc := 31) C d_Mo_rename_31 0 24 wR_o0 rfl (v := .int (q6.2.1 5)) rfl (by decide) tw966 ?_
      refine j_if_le (pc := 34) C d_Mo_rename_34 (tgt := 43) rfl (fun h7 => ?_) (fun h7 => ?_)
      · rw [if_pos h7] at hf
        refine j_aload_n (pc := 43) C d_Mo_rename_43 rfl 0 rfl ?_
        refine j_iload_n (pc := 44) C d_Mo_rename_44 rfl 1 rfl ?_
        obtain ⟨q8, eq8, hf⟩ := ob hf
        refine j_callVi (pc := 45) C (rest := []) d_Mo_rename_45 (c_Mo_boundAt (g := g) (ar := ar) eq8) cv_Mo_boundAt tw1278 0 rfl rfl cut_same rfl rfl (Nat.le_of_ble_eq_true rfl) (kc2 := 0) (ks2 := 0) (by decide) ?_
        refine j_istore (pc := 48) C d_Mo_rename_48 [1, 2, 3, 0] (by decide) (lc' := [(0, .ref (ar 0)), (1, .int a1), (2, .long a2), (4, .int q8.1)]) rfl ?_
        refine j_iload (pc := 50) C d_Mo_rename_50 3 rfl ?_
        refine j_if_ge (pc := 52) C d_Mo_rename_52 (tgt := 61) rfl (fun h9 => ?_) (fun h9 => ?_)
        · rw [if_pos h9] at hf
          refine j_lload_n (pc := 61) C d_Mo_rename_61 rfl 2 rfl ?_
          obtain ⟨q10, eq10, hf⟩ := ob hf
          refine j_callSi (pc := 62) C (rest := []) d_Mo_rename_62 (c_Mo_letters (g := g)  eq10) cv_Mo_letters tw1123 cut_none rfl rfl (Nat.le_of_ble_eq_true rfl) (kc2 := 0) (ks2 := 0) (by decide) ?_
          refine j_istore (pc := 65) C d_Mo_rename_65 [1, 2, 3, 4, 0] (by decide) (lc' := [(0, .ref (ar 0)), (1, .int a1), (2, .long a2), (4, .int q8.1), (5, .int q10)]) rfl ?_
          refine j_iconst (pc := 67) C d_Mo_rename_67 ck_0 ?_
          refine j_istore (pc := 68) C d_Mo_rename_68 [1, 2, 3, 4, 5, 0] (by decide) (lc' := [(0, .ref (ar 0)), (1, .int a1), (2, .long a2), (4, .int q8.1), (5, .int q10), (6, .int 0)]) rfl ?_
          refine j_aload_n (pc := 70) C d_Mo_rename_70 rfl 0 rfl ?_
          refine j_get (pc := 71) C d_Mo_rename_71 0 3 wR_o0 rfl (v := .int (q8.2.2.1 1)) rfl (by decide) tw945 ?_
          refine j_istore (pc := 74) C d_Mo_rename_74 [1, 2, 3, 4, 5, 6, 0] (by decide) (lc' := [(0, .ref (ar 0)), (1, .int a1), (2, .long a2), (4, .int q8.1), (5, .int q10), (6, .int 0), (7, .int (q8.2.2.1 1))]) rfl ?_
          refine j_iconst (pc := 76) C d_Mo_rename_76 ck_0 ?_
          refine j_istore (pc := 77) C d_Mo_rename_77 [1, 2, 3, 4, 5, 6, 7, 0] (by decide) (lc' := [(0, .ref (ar 0)), (1, .int a1), (2, .long a2), (4, .int q8.1), (5, .int q10), (6, .int 0), (7, .int (q8.2.2.1 1)), (8, .int 0)]) rfl ?_
          exact L79 100000 (a1, a2, q8.1, q10, 0, q8.2.2.1 1, 0, q8.2) hf
        · rw [if_neg h9] at hf
          refine j_aload_n (pc := 55) C d_Mo_rename_55 rfl 0 rfl ?_
          refine j_iconst (pc := 56) C d_Mo_rename_56 ck_3 ?_
          obtain ⟨q41, eq41, hf⟩ := ob hf
          refine j_callVi (pc := 57) C (rest := []) d_Mo_rename_57 (c_Mo_fails (g := g) (ar := ar) eq41) cv_Mo_fails tw1262 0 rfl rfl cut_same rfl rfl (Nat.le_of_ble_eq_true rfl) (kc2 := 0) (ks2 := 0) (by decide) ?_
          cases hf
          exact j_iret (pc := 60) C d_Mo_rename_60 ⟨rfl, rfl⟩ (Nat.le_of_ble_eq_true rfl) (Nat.le_of_ble_eq_true rfl)
      · rw [if_neg h7] at hf
        refine j_aload_n (pc := 37) C d_Mo_rename_37 rfl 0 rfl ?_
        refine j_iconst (pc := 38) C d_Mo_rename_38 ck_2 ?_
        obtain ⟨q42, eq42, hf⟩ := ob hf
        refine j_callVi (pc := 39) C (rest := []) d_Mo_rename_39 (c_Mo_fails (g := g) (ar := ar) eq42) cv_Mo_fails tw1262 0 rfl rfl cut_same rfl rfl (Nat.le_of_ble_eq_true rfl) (kc2 := 0) (ks2 := 0) (by decide) ?_
        cases hf
        exact j_iret (pc := 42) C d_Mo_rename_42 ⟨rfl, rfl⟩ (Nat.le_of_ble_eq_true rfl) (Nat.le_of_ble_eq_true rfl)
    · rw [if_neg h5] at hf
      refine j_aload_n (pc := 20) C d_Mo_rename_20 rfl 0 rfl ?_
      refine j_iconst (pc := 21) C d_Mo_rename_21 ck_1 ?_
      obtain ⟨q43, eq43, hf⟩ := ob hf
      refine j_callVi (pc := 22) C (rest := []) d_Mo_rename_22 (c_Mo_fails (g := g) (ar := ar) eq43) cv_Mo_fails tw1262 0 rfl rfl cut_same rfl rfl (Nat.le_of_ble_eq_true rfl) (kc2 := 0) (ks2 := 0) (by decide) ?_
      cases hf
      exact j_iret (pc := 25) C d_Mo_rename_25 ⟨rfl, rfl⟩ (Nat.le_of_ble_eq_true rfl) (Nat.le_of_ble_eq_true rfl)
abbrev rm_Mo_isHeld : Room := { frames := 1, cells := 0, slots := 0, locals := 26 }
theorem cv_Mo_isHeld : CV y_Mo_isHeld b_Mo_isHeld 7 (some .boolean) 3 := ⟨⟨tw1313, tw10, by decide +kernel⟩, tw1312, (sw_ (q := (y_Mo_isHeld, 54)) (by decide +kernel) (by decide +kernel))⟩
set_option maxHeartbeats 4000000 in
set_option maxRecDepth 100000 in
theorem c_Mo_isHeld {g : GT} {ar : Nat → Nat} {a1 : Int32} {a2 : Int32} {a3 : Int32} {r : RS} {q : Int32 × RS} (hf : f_Mo_isHeld a1 a2 a3 r = some q) : MI g y_Mo_isHeld b_Mo_isHeld 7 (some .boolean) rm_Mo_isHeld [.ref (ar 0), .int a1, .int a2, .int a3] (wR g ar r.1 r.2.1 r.2.2) q.1 (wR g ar q.2.1 q.2.2.1 q.2.2.2) := by
  refine MI.of (by decide) (Nat.le_of_ble_eq_true rfl) (fun 𝒥 C => ?_)
  have L173 : ∀ (n : Nat) (x : Int32 × Int32 × Int32 × Int32 × Int32 × RS), lpN (BMo_isHeld_173) n x = some q → 𝒥 0 0 (wR g ar x.2.2.2.2.2.1 x.2.2.2.2.2.2.1 x.2.2.2.2.2.2.2) [(0, .ref (ar 0)), (1, .int x.1), (2, .int x.2.1), (3, .int x.2.2.1), (4, .int x.2.2.2.1), (5, .int x.2.2.2.2.1)] [] 173 := by
    refine lp_ind (fun k173 k173_ih x hf => ?_)
    unfold BMo_isHeld_173 at hf
    refine j_iload (pc := 173) C d_Mo_isHeld_173 5 rfl ?_
    refine j_aload_n (pc := 175) C d_Mo_isHeld_175 rfl 0 rfl ?_
    refine j_get (pc := 176) C d_Mo_isHeld_176 0 18 wR_o0 rfl (v := .ref (ar 15)) rfl (by decide) tw960 ?_
    refine j_iload_n (pc := 179) C d_Mo_isHeld_179 rfl 1 rfl ?_
    obtain ⟨b2, hf⟩ := og hf
    refine j_iald (pc := 180) C d_Mo_isHeld_180 15 (inb_in b2) (x := x.2.2.2.2.2.1 15 x.1.toNatClampNeg) wR_a15 rfl ?_
    refine j_icmp_ge (pc := 181) C d_Mo_isHeld_181 (tgt := 224) rfl (fun h3 => ?_) (fun h3 => ?_)
    · rw [if_pos h3] at hf
      refine j_iload (pc := 224) C d_Mo_isHeld_224 4 rfl ?_
      obtain ⟨b4, hf⟩ := og hf
      cases hf
      exact j_zret (pc := 226) C d_Mo_isHeld_226 (isb_n b4) ⟨rfl, rfl⟩ (Nat.le_of_ble_eq_true rfl) (Nat.le_of_ble_eq_true rfl)
    · rw [if_neg h3] at hf
      refine j_iload (pc := 184) C d_Mo_isHeld_184 4 rfl ?_
      refine j_if_ne (pc := 186) C d_Mo_isHeld_186 (tgt := 211) rfl (fun h5 => ?_) (fun h5 => ?_)
      · rw [if_neg h5] at hf
        refine j_iconst (pc := 211) C d_Mo_isHeld_211 ck_1 ?_
        refine j_goto (pc := 212) C d_Mo_isHeld_212 (tgt := 216) rfl ?_
        refine j_istore (pc := 216) C d_Mo_isHeld_216 [1, 2, 3, 4, 0, 5] (by decide) (lc' := [(0, .ref (ar 0)), (1, .int x.1), (2, .int x.2.1), (3, .int x.2.2.1), (4, .int 1), (5, .int x.2.2.2.2.1)]) rfl ?_
        refine j_iinc (pc := 218) C d_Mo_isHeld_218 5 rfl (v := x.2.2.2.2.1 + 1) (iv ci_1) [1, 2, 3, 4, 5, 0] (by decide) (lc' := [(0, .ref (ar 0)), (1, .int x.1), (2, .int x.2.1), (3, .int x.2.2.1), (4, .int 1), (5, .int (x.2.2.2.2.1 + 1))]) rfl ?_
        refine j_goto (pc := 221) C d_Mo_isHeld_221 (tgt := 173) rfl ?_
        exact k173_ih (x.1, x.2.1, x.2.2.1, 1, x.2.2.2.2.1 + 1, x.2.2.2.2.2) hf
      · rw [if_pos h5] at hf
        refine j_aload_n (pc := 189) C d_Mo_isHeld_189 rfl 0 rfl ?_
        refine j_get (pc := 190) C d_Mo_isHeld_190 0 12 wR_o0 rfl (v := .ref (ar 9)) rfl (by decide) tw954 ?_
        refine j_iload (pc := 193) C d_Mo_isHeld_193 5 rfl ?_
        obtain ⟨b6, hf⟩ := og hf
        refine j_iald (pc := 195) C d_Mo_isHeld_195 9 (inb_in b6) (x := x.2.2.2.2.2.1 9 x.2.2.2.2.1.toNatClampNeg) wR_a9 rfl ?_
        refine j_topi C (fun v7 ev7 => ?_)
        replace hf := ov ev7 hf
        refine j_iconst (pc := 196) C d_Mo_isHeld_196 ck_4 ?_
        refine j_icmp_ne (pc := 197) C d_Mo_isHeld_197 (tgt := 215) rfl (fun h8 => ?_) (fun h8 => ?_)
        · rw [if_neg h8] at hf
          refine j_iconst (pc := 215) C d_Mo_isHeld_215 ck_0 ?_
          refine j_istore (pc := 216) C d_Mo_isHeld_216 [1, 2, 3, 4, 0, 5] (by decide) (lc' := [(0, .ref (ar 0)), (1, .int x.1), (2, .int x.2.1), (3, .int x.2.2.1), (4, .int 0), (5, .int x.2.2.2.2.1)]) rfl ?_
          refine j_iinc (pc := 218) C d_Mo_isHeld_218 5 rfl (v := x.2.2.2.2.1 + 1) (iv ci_1) [1, 2, 3, 4, 5, 0] (by decide) (lc' := [(0, .ref (ar 0)), (1, .int x.1), (2, .int x.2.1), (3, .int x.2.2.1), (4, .int 0), (5, .int (x.2.2.2.2.1 + 1))]) rfl ?_
          refine j_goto (pc := 221) C d_Mo_isHeld_221 (tgt := 173) rfl ?_
          exact k173_ih (x.1, x.2.1, x.2.2.1, 0, x.2.2.2.2.1 + 1, x.2.2.2.2.2) hf
        · rw [if_pos h8] at hf
          refine j_aload_n (pc := 200) C d_Mo_isHeld_200 rfl 0 rfl ?_
          refine j_get (pc := 201) C d_Mo_isHeld_201 0 13 wR_o0 rfl (v := .ref (ar 10)) rfl (by decide) tw955 ?_
          refine j_iload (pc := 204) C d_Mo_isHeld_204 5 rfl ?_
          obtain ⟨b9, hf⟩ := og hf
          refine j_iald (pc := 206) C d_Mo_isHeld_206 10 (inb_in b9) (x := x.2.2.2.2.2.1 10 x.2.2.2.2.1.toNatClampNeg) wR_a10 rfl ?_
          refine j_topi C (fun v10 ev10 => ?_)
          replace hf := ov ev10 hf
          refine j_iload_n (pc := 207) C d_Mo_isHeld_207 rfl 1 rfl ?_
          refine j_icmp_ne (pc := 208) C d_Mo_isHeld_208 (tgt := 215) rfl (fun h11 => ?_) (fun h11 => ?_)
          · rw [if_neg h11] at hf
            refine j_iconst (pc := 215) C d_Mo_isHeld_215 ck_0 ?_
            refine j_istore (pc := 216) C d_Mo_isHeld_216 [1, 2, 3, 4, 0, 5] (by decide) (lc' := [(0, .ref (ar 0)), (1, .int x.1), (2, .int x.2.1), (3, .int x.2.2.1), (4, .int 0), (5, .int x.2.2.2.2.1)]) rfl ?_
            refine j_iinc (pc := 218) C d_Mo_isHeld_218 5 rfl (v := x.2.2.2.2.1 + 1) (iv ci_1) [1, 2, 3, 4, 5, 0] (by decide) (lc' := [(0, .ref (ar 0)), (1, .int x.1), (2, .int x.2.1), (3, .int x.2.2.1), (4, .int 0), (5, .int (x.2.2.2.2.1 + 1))]) rfl ?_
            refine j_goto (pc := 221) C d_Mo_isHeld_221 (tgt := 173) rfl ?_
            exact k173_ih (x.1, x.2.1, x.2.2.1, 0, x.2.2.2.2.1 + 1, x.2.2.2.2.2) hf
          · rw [if_pos h11] at hf
            refine j_iconst (pc := 211) C d_Mo_isHeld_211 ck_1 ?_
            refine j_goto (pc := 212) C d_Mo_isHeld_212 (tgt := 216) rfl ?_
            refine j_istore (pc := 216) C d_Mo_isHeld_216 [1, 2, 3, 4, 0, 5] (by decide) (lc' := [(0, .ref (ar 0)), (1, .int x.1), (2, .int x.2.1), (3, .int x.2.2.1), (4, .int 1), (5, .int x.2.2.2.2.1)]) rfl ?_
            refine j_iinc (pc := 218) C d_Mo_isHeld_218 5 rfl (v := x.2.2.2.2.1 + 1) (iv ci_1) [1, 2, 3, 4, 5, 0] (by decide) (lc' := [(0, .ref (ar 0)), (1, .int x.1), (2, .int x.2.1), (3, .int x.2.2.1), (4, .int 1), (5, .int (x.2.2.2.2.1 + 1))]) rfl ?_
            refine j_goto (pc := 221) C d_Mo_isHeld_221 (tgt := 173) rfl ?_
            exact k173_ih (x.1, x.2.1, x.2.2.1, 1, x.2.2.2.2.1 + 1, x.2.2.2.2.2) hf
  have L39 : ∀ (k6 : Int32 × Int32 × Int32 × Int32 × Int32 × RS → Option (Int32 × RS)) (k6_ih : ∀ y : Int32 × Int32 × Int32 × Int32 × Int32 × RS, k6 y = some q → 𝒥 0 0 (wR g ar y.2.2.2.2.2.1 y.2.2.2.2.2.2.1 y.2.2.2.2.2.2.2) [(0, .ref (ar 0)), (1, .int y.1), (2, .int y.2.1), (3, .int y.2.2.1), (4, .int y.2.2.2.1), (5, .int y.2.2.2.2.1)] [] 6)  (n : Nat) (x : Int32 × Int32 × Int32 × Int32 × Int32 × Int32 × RS), lpN (BMo_isHeld_39 k6) n x = some q → 𝒥 0 0 (wR g ar x.2.2.2.2.2.2.1 x.2.2.2.2.2.2.2.1 x.2.2.2.2.2.2.2.2) [(0, .ref (ar 0)), (1, .int x.1), (2, .int x.2.1), (3, .int x.2.2.1), (4, .int x.2.2.2.1), (5, .int x.2.2.2.2.1), (6, .int x.2.2.2.2.2.1)] [] 39 := by
    intro k6 k6_ih
    refine lp_ind (fun k39 k39_ih x hf => ?_)
    unfold BMo_isHeld_39 at hf
    refine j_iload (pc := 39) C d_Mo_isHeld_39 6 rfl ?_
    refine j_aload_n (pc := 41) C d_Mo_isHeld_41 rfl 0 rfl ?_
    refine j_get (pc := 42) C d_Mo_isHeld_42 0 18 wR_o0 rfl (v := .ref (ar 15)) rfl (by decide) tw960 ?_
    refine j_iload_n (pc := 45) C d_Mo_isHeld_45 rfl 1 rfl ?_
    obtain ⟨b13, hf⟩ := og hf
    refine j_iald (pc := 46) C d_Mo_isHeld_46 15 (inb_in b13) (x := x.2.2.2.2.2.2.1 15 x.1.toNatClampNeg) wR_a15 rfl ?_
    refine j_icmp_ge (pc := 47) C d_Mo_isHeld_47 (tgt := 164) rfl (fun h14 => ?_) (fun h14 => ?_)
    · rw [if_pos h14] at hf
      refine j_iinc (pc := 164) C d_Mo_isHeld_164 5 rfl (v := x.2.2.2.2.1 + 1) (iv ci_1) [1, 2, 3, 4, 5, 0, 6] (by decide) (lc' := [(0, .ref (ar 0)), (1, .int x.1), (2, .int x.2.1), (3, .int x.2.2.1), (4, .int x.2.2.2.1), (5, .int (x.2.2.2.2.1 + 1)), (6, .int x.2.2.2.2.2.1)]) rfl ?_
      refine j_goto (pc := 167) C d_Mo_isHeld_167 (tgt := 6) rfl ?_
      refine j_lc C (lc' := [(0, .ref (ar 0)), (1, .int x.1), (2, .int x.2.1), (3, .int x.2.2.1), (4, .int x.2.2.2.1), (5, .int (x.2.2.2.2.1 + 1))]) [0, 1, 2, 3, 4, 5] rfl ?_
      exact k6_ih (x.1, x.2.1, x.2.2.1, x.2.2.2.1, x.2.2.2.2.1 + 1, x.2.2.2.2.2.2) hf
    · rw [if_neg h14] at hf
      refine j_aload_n (pc := 50) C d_Mo_isHeld_50 rfl 0 rfl ?_
      refine j_get (pc := 51) C d_Mo_isHeld_51 0 12 wR_o0 rfl (v := .ref (ar 9)) rfl (by decide) tw954 ?_
      refine j_iload (pc := 54) C d_Mo_isHeld_54 5 rfl ?_
      obtain ⟨b15, hf⟩ := og hf
      refine j_iald (pc := 56) C d_Mo_isHeld_56 9 (inb_in b15) (x := x.2.2.2.2.2.2.1 9 x.2.2.2.2.1.toNatClampNeg) wR_a9 rfl ?_
      refine j_topi C (fun v16 ev16 => ?_)
      replace hf := ov ev16 hf
      refine j_iconst (pc := 57) C d_Mo_isHeld_57 ck_5 ?_
      refine j_icmp_ne (pc := 58) C d_Mo_isHeld_58 (tgt := 164) rfl (fun h17 => ?_) (fun h17 => ?_)
      · rw [if_neg h17] at hf
        refine j_iinc (pc := 164) C d_Mo_isHeld_164 5 rfl (v := x.2.2.2.2.1 + 1) (iv ci_1) [1, 2, 3, 4, 5, 0, 6] (by decide) (lc' := [(0, .ref (ar 0)), (1, .int x.1), (2, .int x.2.1), (3, .int x.2.2.1), (4, .int x.2.2.2.1), (5, .int (x.2.2.2.2.1 + 1)), (6, .int x.2.2.2.2.2.1)]) rfl ?_
        refine j_goto (pc := 167) C d_Mo_isHeld_167 (tgt := 6) rfl ?_
        refine j_lc C (lc' := [(0, .ref (ar 0)), (1, .int x.1), (2, .int x.2.1), (3, .int x.2.2.1), (4, .int x.2.2.2.1), (5, .int (x.2.2.2.2.1 + 1))]) [0, 1, 2, 3, 4, 5] rfl ?_
        exact k6_ih (x.1, x.2.1, x.2.2.1, x.2.2.2.1, x.2.2.2.2.1 + 1, x.2.2.2.2.2.2) hf
      · rw [if_pos h17] at hf
        refine j_iload (pc := 61) C d_Mo_isHeld_61 4 rfl ?_
        refine j_if_ne (pc := 63) C d_Mo_isHeld_63 (tgt := 94) rfl (fun h18 => ?_) (fun h18 => ?_)
        · rw [if_neg h18] at hf
          refine j_iconst (pc := 94) C d_Mo_isHeld_94 ck_1 ?_
          refine j_goto (pc := 95) C d_Mo_isHeld_95 (tgt := 99) rfl ?_
          refine j_istore (pc := 99) C d_Mo_isHeld_99 [1, 2, 3, 4, 0, 5, 6] (by decide) (lc' := [(0, .ref (ar 0)), (1, .int x.1), (2, .int x.2.1), (3, .int x.2.2.1), (4, .int 1), (5, .int x.2.2.2.2.1), (6, .int x.2.2.2.2.2.1)]) rfl ?_
          refine j_iload (pc := 101) C d_Mo_isHeld_101 4 rfl ?_
          refine j_if_ne (pc := 103) C d_Mo_isHeld_103 (tgt := 151) rfl (fun _ => ?_) (fun h => absurd h (by decide))
          refine j_iconst (pc := 151) C d_Mo_isHeld_151 ck_1 ?_
          refine j_goto (pc := 152) C d_Mo_isHeld_152 (tgt := 156) rfl ?_
          refine j_istore (pc := 156) C d_Mo_isHeld_156 [1, 2, 3, 4, 0, 5, 6] (by decide) (lc' := [(0, .ref (ar 0)), (1, .int x.1), (2, .int x.2.1), (3, .int x.2.2.1), (4, .int 1), (5, .int x.2.2.2.2.1), (6, .int x.2.2.2.2.2.1)]) rfl ?_
          refine j_iinc (pc := 158) C d_Mo_isHeld_158 6 rfl (v := x.2.2.2.2.2.1 + 1) (iv ci_1) [1, 2, 3, 4, 5, 6, 0] (by decide) (lc' := [(0, .ref (ar 0)), (1, .int x.1), (2, .int x.2.1), (3, .int x.2.2.1), (4, .int 1), (5, .int x.2.2.2.2.1), (6, .int (x.2.2.2.2.2.1 + 1))]) rfl ?_
          refine j_goto (pc := 161) C d_Mo_isHeld_161 (tgt := 39) rfl ?_
          exact k39_ih (x.1, x.2.1, x.2.2.1, 1, x.2.2.2.2.1, x.2.2.2.2.2.1 + 1, x.2.2.2.2.2.2) hf
        · rw [if_pos h18] at hf
          refine j_aload_n (pc := 66) C d_Mo_isHeld_66 rfl 0 rfl ?_
          refine j_get (pc := 67) C d_Mo_isHeld_67 0 12 wR_o0 rfl (v := .ref (ar 9)) rfl (by decide) tw954 ?_
          refine j_iload (pc := 70) C d_Mo_isHeld_70 6 rfl ?_
          obtain ⟨b19, hf⟩ := og hf
          refine j_iald (pc := 72) C d_Mo_isHeld_72 9 (inb_in b19) (x := x.2.2.2.2.2.2.1 9 x.2.2.2.2.2.1.toNatClampNeg) wR_a9 rfl ?_
          refine j_topi C (fun v20 ev20 => ?_)
          replace hf := ov ev20 hf
          refine j_iconst (pc := 73) C d_Mo_isHeld_73 ck_4 ?_
          refine j_icmp_ne (pc := 74) C d_Mo_isHeld_74 (tgt := 98) rfl (fun h21 => ?_) (fun h21 => ?_)
          · rw [if_neg h21] at hf
            refine j_iconst (pc := 98) C d_Mo_isHeld_98 ck_0 ?_
            refine j_istore (pc := 99) C d_Mo_isHeld_99 [1, 2, 3, 4, 0, 5, 6] (by decide) (lc' := [(0, .ref (ar 0)), (1, .int x.1), (2, .int x.2.1), (3, .int x.2.2.1), (4, .int 0), (5, .int x.2.2.2.2.1), (6, .int x.2.2.2.2.2.1)]) rfl ?_
            refine j_iload (pc := 101) C d_Mo_isHeld_101 4 rfl ?_
            refine j_if_ne (pc := 103) C d_Mo_isHeld_103 (tgt := 151) rfl (fun h => absurd h (by decide)) (fun _ => ?_)
            refine j_aload_n (pc := 106) C d_Mo_isHeld_106 rfl 0 rfl ?_
            refine j_get (pc := 107) C d_Mo_isHeld_107 0 12 wR_o0 rfl (v := .ref (ar 9)) rfl (by decide) tw954 ?_
            refine j_iload (pc := 110) C d_Mo_isHeld_110 6 rfl ?_
            obtain ⟨b22, hf⟩ := og hf
            refine j_iald (pc := 112) C d_Mo_isHeld_112 9 (inb_in b22) (x := x.2.2.2.2.2.2.1 9 x.2.2.2.2.2.1.toNatClampNeg) wR_a9 rfl ?_
            refine j_topi C (fun v23 ev23 => ?_)
            replace hf := ov ev23 hf
            refine j_iconst (pc := 113) C d_Mo_isHeld_113 ck_5 ?_
            refine j_icmp_ne (pc := 114) C d_Mo_isHeld_114 (tgt := 155) rfl (fun h24 => ?_) (fun h24 => ?_)
            · rw [if_neg h24] at hf
              refine j_iconst (pc := 155) C d_Mo_isHeld_155 ck_0 ?_
              refine j_istore (pc := 156) C d_Mo_isHeld_156 [1, 2, 3, 4, 0, 5, 6] (by decide) (lc' := [(0, .ref (ar 0)), (1, .int x.1), (2, .int x.2.1), (3, .int x.2.2.1), (4, .int 0), (5, .int x.2.2.2.2.1), (6, .int x.2.2.2.2.2.1)]) rfl ?_
              refine j_iinc (pc := 158) C d_Mo_isHeld_158 6 rfl (v := x.2.2.2.2.2.1 + 1) (iv ci_1) [1, 2, 3, 4, 5, 6, 0] (by decide) (lc' := [(0, .ref (ar 0)), (1, .int x.1), (2, .int x.2.1), (3, .int x.2.2.1), (4, .int 0), (5, .int x.2.2.2.2.1), (6, .int (x.2.2.2.2.2.1 + 1))]) rfl ?_
              refine j_goto (pc := 161) C d_Mo_isHeld_161 (tgt := 39) rfl ?_
              exact k39_ih (x.1, x.2.1, x.2.2.1, 0, x.2.2.2.2.1, x.2.2.2.2.2.1 + 1, x.2.2.2.2.2.2) hf
            · rw [if_pos h24] at hf
              refine j_aload_n (pc := 117) C d_Mo_isHeld_117 rfl 0 rfl ?_
              refine j_get (pc := 118) C d_Mo_isHeld_118 0 13 wR_o0 rfl (v := .ref (ar 10)) rfl (by decide) tw955 ?_
              refine j_iload (pc := 121) C d_Mo_isHeld_121 6 rfl ?_
              obtain ⟨b25, hf⟩ := og hf
              refine j_iald (pc := 123) C d_Mo_isHeld_123 10 (inb_in b25) (x := x.2.2.2.2.2.2.1 10 x.2.2.2.2.2.1.toNatClampNeg) wR_a10 rfl ?_
              refine j_topi C (fun v26 ev26 => ?_)
              replace hf := ov ev26 hf
              refine j_iload_n (pc := 124) C d_Mo_isHeld_124 rfl 1 rfl ?_
              refine j_icmp_ne (pc := 125) C d_Mo_isHeld_125 (tgt := 155) rfl (fun h27 => ?_) (fun h27 => ?_)
              · rw [if_neg h27] at hf
                refine j_iconst (pc := 155) C d_Mo_isHeld_155 ck_0 ?_
                refine j_istore (pc := 156) C d_Mo_isHeld_156 [1, 2, 3, 4, 0, 5, 6] (by decide) (lc' := [(0, .ref (ar 0)), (1, .int x.1), (2, .int x.2.1), (3, .int x.2.2.1), (4, .int 0), (5, .int x.2.2.2.2.1), (6, .int x.2.2.2.2.2.1)]) rfl ?_
                refine j_iinc (pc := 158) C d_Mo_isHeld_158 6 rfl (v := x.2.2.2.2.2.1 + 1) (iv ci_1) [1, 2, 3, 4, 5, 6, 0] (by decide) (lc' := [(0, .ref (ar 0)), (1, .int x.1), (2, .int x.2.1), (3, .int x.2.2.1), (4, .int 0), (5, .int x.2.2.2.2.1), (6, .int (x.2.2.2.2.2.1 + 1))]) rfl ?_
                refine j_goto (pc := 161) C d_Mo_isHeld_161 (tgt := 39) rfl ?_
                exact k39_ih (x.1, x.2.1, x.2.2.1, 0, x.2.2.2.2.1, x.2.2.2.2.2.1 + 1, x.2.2.2.2.2.2) hf
              · rw [if_pos h27] at hf
                refine j_aload_n (pc := 128) C d_Mo_isHeld_128 rfl 0 rfl ?_
                refine j_aload_n (pc := 129) C d_Mo_isHeld_129 rfl 0 rfl ?_
                refine j_get (pc := 130) C d_Mo_isHeld_130 0 11 wR_o0 rfl (v := .ref (ar 8)) rfl (by decide) tw953 ?_
                refine j_iload (pc := 133) C d_Mo_isHeld_133 5 rfl ?_
                obtain ⟨b28, hf⟩ := og hf
                refine j_lald (pc := 135) C d_Mo_isHeld_135 8 (inb_in b28) (x := x.2.2.2.2.2.2.2.2 8 x.2.2.2.2.1.toNatClampNeg) wR_a8 rfl ?_
                refine j_topl C (fun v29 ev29 => ?_)
                replace hf := ov ev29 hf
                refine j_iload (pc := 136) C d_Mo_isHeld_136 6 rfl ?_
                obtain ⟨q30, eq30, hf⟩ := ob hf
                refine j_callVi (pc := 138) C (rest := []) d_Mo_isHeld_138 (c_Mo_meaning (g := g) (ar := ar) eq30) cv_Mo_meaning tw1246 0 rfl rfl cut_same rfl rfl (Nat.le_of_ble_eq_true rfl) (kc2 := 0) (ks2 := 0) (by decide) ?_
                refine j_aload_n (pc := 141) C d_Mo_isHeld_141 rfl 0 rfl ?_
                refine j_get (pc := 142) C d_Mo_isHeld_142 0 13 wR_o0 rfl (v := .ref (ar 10)) rfl (by decide) tw955 ?_
                refine j_iload (pc := 145) C d_Mo_isHeld_145 5 rfl ?_
                obtain ⟨b31, hf⟩ := og hf
                refine j_iald (pc := 147) C d_Mo_isHeld_147 10 (inb_in b31) (x := q30.2.1 10 x.2.2.2.2.1.toNatClampNeg) wR_a10 rfl ?_
                refine j_icmp_eq (pc := 148) C d_Mo_isHeld_148 (tgt := 155) rfl (fun h32 => ?_) (fun h32 => ?_)
                · rw [if_pos h32] at hf
                  refine j_iconst (pc := 155) C d_Mo_isHeld_155 ck_0 ?_
                  refine j_istore (pc := 156) C d_Mo_isHeld_156 [1, 2, 3, 4, 0, 5, 6] (by decide) (lc' := [(0, .ref (ar 0)), (1, .int x.1), (2, .int x.2.1), (3, .int x.2.2.1), (4, .int 0), (5, .int x.2.2.2.2.1), (6, .int x.2.2.2.2.2.1)]) rfl ?_
                  refine j_iinc (pc := 158) C d_Mo_isHeld_158 6 rfl (v := x.2.2.2.2.2.1 + 1) (iv ci_1) [1, 2, 3, 4, 5, 6, 0] (by decide) (lc' := [(0, .ref (ar 0)), (1, .int x.1), (2, .int x.2.1), (3, .int x.2.2.1), (4, .int 0), (5, .int x.2.2.2.2.1), (6, .int (x.2.2.2.2.2.1 + 1))]) rfl ?_
                  refine j_goto (pc := 161) C d_Mo_isHeld_161 (tgt := 39) rfl ?_
                  exact k39_ih (x.1, x.2.1, x.2.2.1, 0, x.2.2.2.2.1, x.2.2.2.2.2.1 + 1, q30.2) hf
                · rw [if_neg h32] at hf
                  refine j_iconst (pc := 151) C d_Mo_isHeld_151 ck_1 ?_
                  refine j_goto (pc := 152) C d_Mo_isHeld_152 (tgt := 156) rfl ?_
                  refine j_istore (pc := 156) C d_Mo_isHeld_156 [1, 2, 3, 4, 0, 5, 6] (by decide) (lc' := [(0, .ref (ar 0)), (1, .int x.1), (2, .int x.2.1), (3, .int x.2.2.1), (4, .int 1), (5, .int x.2.2.2.2.1), (6, .int x.2.2.2.2.2.1)]) rfl ?_
                  refine j_iinc (pc := 158) C d_Mo_isHeld_158 6 rfl (v := x.2.2.2.2.2.1 + 1) (iv ci_1) [1, 2, 3, 4, 5, 6, 0] (by decide) (lc' := [(0, .ref (ar 0)), (1, .int x.1), (2, .int x.2.1), (3, .int x.2.2.1), (4, .int 1), (5, .int x.2.2.2.2.1), (6, .int (x.2.2.2.2.2.1 + 1))]) rfl ?_
                  refine j_goto (pc := 161) C d_Mo_isHeld_161 (tgt := 39) rfl ?_
                  exact k39_ih (x.1, x.2.1, x.2.2.1, 1, x.2.2.2.2.1, x.2.2.2.2.2.1 + 1, q30.2) hf
          · rw [if_pos h21] at hf
            refine j_aload_n (pc := 77) C d_Mo_isHeld_77 rfl 0 rfl ?_
            refine j_get (pc := 78) C d_Mo_isHeld_78 0 13 wR_o0 rfl (v := .ref (ar 10)) rfl (by decide) tw955 ?_
            refine j_iload (pc := 81) C d_Mo_isHeld_81 6 rfl ?_
            obtain ⟨b33, hf⟩ := og hf
            refine j_iald (pc := 83) C d_Mo_isHeld_83 10 (inb_in b33) (x := x.2.2.2.2.2.2.1 10 x.2.2.2.2.2.1.toNatClampNeg) wR_a10 rfl ?_
            refine j_topi C (fun v34 ev34 => ?_)
            replace hf := ov ev34 hf
            refine j_aload_n (pc := 84) C d_Mo_isHeld_84 rfl 0 rfl ?_
            refine j_get (pc := 85) C d_Mo_isHeld_85 0 13 wR_o0 rfl (v := .ref (ar 10)) rfl (by decide) tw955 ?_
            refine j_iload (pc := 88) C d_Mo_isHeld_88 5 rfl ?_
            obtain ⟨b35, hf⟩ := og hf
            refine j_iald (pc := 90) C d_Mo_isHeld_90 10 (inb_in b35) (x := x.2.2.2.2.2.2.1 10 x.2.2.2.2.1.toNatClampNeg) wR_a10 rfl ?_
            refine j_topi C (fun v36 ev36 => ?_)
            replace hf := ov ev36 hf
            refine j_icmp_ne (pc := 91) C d_Mo_isHeld_91 (tgt := 98) rfl (fun h37 => ?_) (fun h37 => ?_)
            · rw [if_neg h37] at hf
              refine j_iconst (pc := 98) C d_Mo_isHeld_98 ck_0 ?_
              refine j_istore (pc := 99) C d_Mo_isHeld_99 [1, 2, 3, 4, 0, 5, 6] (by decide) (lc' := [(0, .ref (ar 0)), (1, .int x.1), (2, .int x.2.1), (3, .int x.2.2.1), (4, .int 0), (5, .int x.2.2.2.2.1), (6, .int x.2.2.2.2.2.1)]) rfl ?_
              refine j_iload (pc := 101) C d_Mo_isHeld_101 4 rfl ?_
              refine j_if_ne (pc := 103) C d_Mo_isHeld_103 (tgt := 151) rfl (fun h => absurd h (by decide)) (fun _ => ?_)
              refine j_aload_n (pc := 106) C d_Mo_isHeld_106 rfl 0 rfl ?_
              refine j_get (pc := 107) C d_Mo_isHeld_107 0 12 wR_o0 rfl (v := .ref (ar 9)) rfl (by decide) tw954 ?_
              refine j_iload (pc := 110) C d_Mo_isHeld_110 6 rfl ?_
              obtain ⟨b38, hf⟩ := og hf
              refine j_iald (pc := 112) C d_Mo_isHeld_112 9 (inb_in b38) (x := x.2.2.2.2.2.2.1 9 x.2.2.2.2.2.1.toNatClampNeg) wR_a9 rfl ?_
              refine j_topi C (fun v39 ev39 => ?_)
              replace hf := ov ev39 hf
              refine j_iconst (pc := 113) C d_Mo_isHeld_113 ck_5 ?_
              refine j_icmp_ne (pc := 114) C d_Mo_isHeld_114 (tgt := 155) rfl (fun h40 => ?_) (fun h40 => ?_)
              · rw [if_neg h40] at hf
                refine j_iconst (pc := 155) C d_Mo_isHeld_155 ck_0 ?_
                refine j_istore (pc := 156) C d_Mo_isHeld_156 [1, 2, 3, 4, 0, 5, 6] (by decide) (lc' := [(0, .ref (ar 0)), (1, .int x.1), (2, .int x.2.1), (3, .int x.2.2.1), (4, .int 0), (5, .int x.2.2.2.2.1), (6, .int x.2.2.2.2.2.1)]) rfl ?_
                refine j_iinc (pc := 158) C d_Mo_isHeld_158 6 rfl (v := x.2.2.2.2.2.1 + 1) (iv ci_1) [1, 2, 3, 4, 5, 6, 0] (by decide) (lc' := [(0, .ref (ar 0)), (1, .int x.1), (2, .int x.2.1), (3, .int x.2.2.1), (4, .int 0), (5, .int x.2.2.2.2.1), (6, .int (x.2.2.2.2.2.1 + 1))]) rfl ?_
                refine j_goto (pc := 161) C d_Mo_isHeld_161 (tgt := 39) rfl ?_
                exact k39_ih (x.1, x.2.1, x.2.2.1, 0, x.2.2.2.2.1, x.2.2.2.2.2.1 + 1, x.2.2.2.2.2.2) hf
              · rw [if_pos h40] at hf
                refine j_aload_n (pc := 117) C d_Mo_isHeld_117 rfl 0 rfl ?_
                refine j_get (pc := 118) C d_Mo_isHeld_118 0 13 wR_o0 rfl (v := .ref (ar 10)) rfl (by decide) tw955 ?_
                refine j_iload (pc := 121) C d_Mo_isHeld_121 6 rfl ?_
                obtain ⟨b41, hf⟩ := og hf
                refine j_iald (pc := 123) C d_Mo_isHeld_123 10 (inb_in b41) (x := x.2.2.2.2.2.2.1 10 x.2.2.2.2.2.1.toNatClampNeg) wR_a10 rfl ?_
                refine j_topi C (fun v42 ev42 => ?_)
                replace hf := ov ev42 hf
                refine j_iload_n (pc := 124) C d_Mo_isHeld_124 rfl 1 rfl ?_
                refine j_icmp_ne (pc := 125) C d_Mo_isHeld_125 (tgt := 155) rfl (fun h43 => ?_) (fun h43 => ?_)
                · rw [if_neg h43] at hf
                  refine j_iconst (pc := 155) C d_Mo_isHeld_155 ck_0 ?_
                  refine j_istore (pc := 156) C d_Mo_isHeld_156 [1, 2, 3, 4, 0, 5, 6] (by decide) (lc' := [(0, .ref (ar 0)), (1, .int x.1), (2, .int x.2.1), (3, .int x.2.2.1), (4, .int 0), (5, .int x.2.2.2.2.1), (6, .int x.2.2.2.2.2.1)]) rfl ?_
                  refine j_iinc (pc := 158) C d_Mo_isHeld_158 6 rfl (v := x.2.2.2.2.2.1 + 1) (iv ci_1) [1, 2, 3, 4, 5, 6, 0] (by decide) (lc' := [(0, .ref (ar 0)), (1, .int x.1), (2, .int x.2.1), (3, .int x.2.2.1), (4, .int 0), (5, .int x.2.2.2.2.1), (6, .int (x.2.2.2.2.2.1 + 1))]) rfl ?_
                  refine j_goto (pc := 161) C d_Mo_isHeld_161 (tgt := 39) rfl ?_
                  exact k39_ih (x.1, x.2.1, x.2.2.1, 0, x.2.2.2.2.1, x.2.2.2.2.2.1 + 1, x.2.2.2.2.2.2) hf
                · rw [if_pos h43] at hf
                  refine j_aload_n (pc := 128) C d_Mo_isHeld_128 rfl 0 rfl ?_
                  refine j_aload_n (pc := 129) C d_Mo_isHeld_129 rfl 0 rfl ?_
                  refine j_get (pc := 130) C d_Mo_isHeld_130 0 11 wR_o0 rfl (v := .ref (ar 8)) rfl (by decide) tw953 ?_
                  refine j_iload (pc := 133) C d_Mo_isHeld_133 5 rfl ?_
                  obtain ⟨b44, hf⟩ := og hf
                  refine j_lald (pc := 135) C d_Mo_isHeld_135 8 (inb_in b44) (x := x.2.2.2.2.2.2.2.2 8 x.2.2.2.2.1.toNatClampNeg) wR_a8 rfl ?_
                  refine j_topl C (fun v45 ev45 => ?_)
                  replace hf := ov ev45 hf
                  refine j_iload (pc := 136) C d_Mo_isHeld_136 6 rfl ?_
                  obtain ⟨q46, eq46, hf⟩ := ob hf
                  refine j_callVi (pc := 138) C (rest := []) d_Mo_isHeld_138 (c_Mo_meaning (g := g) (ar := ar) eq46) cv_Mo_meaning tw1246 0 rfl rfl cut_same rfl rfl (Nat.le_of_ble_eq_true rfl) (kc2 := 0) (ks2 := 0) (by decide) ?_
                  refine j_aload_n (pc := 141) C d_Mo_isHeld_141 rfl 0 rfl ?_
                  refine j_get (pc := 142) C d_Mo_isHeld_142 0 13 wR_o0 rfl (v := .ref (ar 10)) rfl (by decide) tw955 ?_
                  refine j_iload (pc := 145) C d_Mo_isHeld_145 5 rfl ?_
                  obtain ⟨b47, hf⟩ := og hf
                  refine j_iald (pc := 147) C d_Mo_isHeld_147 10 (inb_in b47) (x := q46.2.1 10 x.2.2.2.2.1.toNatClampNeg) wR_a10 rfl ?_
                  refine j_icmp_eq (pc := 148) C d_Mo_isHeld_148 (tgt := 155) rfl (fun h48 => ?_) (fun h48 => ?_)
                  · rw [if_pos h48] at hf
                    refine j_iconst (pc := 155) C d_Mo_isHeld_155 ck_0 ?_
                    refine j_istore (pc := 156) C d_Mo_isHeld_156 [1, 2, 3, 4, 0, 5, 6] (by decide) (lc' := [(0, .ref (ar 0)), (1, .int x.1), (2, .int x.2.1), (3, .int x.2.2.1), (4, .int 0), (5, .int x.2.2.2.2.1), (6, .int x.2.2.2.2.2.1)]) rfl ?_
                    refine j_iinc (pc := 158) C d_Mo_isHeld_158 6 rfl (v := x.2.2.2.2.2.1 + 1) (iv ci_1) [1, 2, 3, 4, 5, 6, 0] (by decide) (lc' := [(0, .ref (ar 0)), (1, .int x.1), (2, .int x.2.1), (3, .int x.2.2.1), (4, .int 0), (5, .int x.2.2.2.2.1), (6, .int (x.2.2.2.2.2.1 + 1))]) rfl ?_
                    refine j_goto (pc := 161) C d_Mo_isHeld_161 (tgt := 39) rfl ?_
                    exact k39_ih (x.1, x.2.1, x.2.2.1, 0, x.2.2.2.2.1, x.2.2.2.2.2.1 + 1, q46.2) hf
                  · rw [if_neg h48] at hf
                    refine j_iconst (pc := 151) C d_Mo_isHeld_151 ck_1 ?_
                    refine j_goto (pc := 152) C d_Mo_isHeld_152 (tgt := 156) rfl ?_
                    refine j_istore (pc := 156) C d_Mo_isHeld_156 [1, 2, 3, 4, 0, 5, 6] (by decide) (lc' := [(0, .ref (ar 0)), (1, .int x.1), (2, .int x.2.1), (3, .int x.2.2.1), (4, .int 1), (5, .int x.2.2.2.2.1), (6, .int x.2.2.2.2.2.1)]) rfl ?_
                    refine j_iinc (pc := 158) C d_Mo_isHeld_158 6 rfl (v := x.2.2.2.2.2.1 + 1) (iv ci_1) [1, 2, 3, 4, 5, 6, 0] (by decide) (lc' := [(0, .ref (ar 0)), (1, .int x.1), (2, .int x.2.1), (3, .int x.2.2.1), (4, .int 1), (5, .int x.2.2.2.2.1), (6, .int (x.2.2.2.2.2.1 + 1))]) rfl ?_
                    refine j_goto (pc := 161) C d_Mo_isHeld_161 (tgt := 39) rfl ?_
                    exact k39_ih (x.1, x.2.1, x.2.2.1, 1, x.2.2.2.2.1, x.2.2.2.2.2.1 + 1, q46.2) hf
            · rw [if_pos h37] at hf
              refine j_iconst (pc := 94) C d_Mo_isHeld_94 ck_1 ?_
              refine j_goto (pc := 95) C d_Mo_isHeld_95 (tgt := 99) rfl ?_
              refine j_istore (pc := 99) C d_Mo_isHeld_99 [1, 2, 3, 4, 0, 5, 6] (by decide) (lc' := [(0, .ref (ar 0)), (1, .int x.1), (2, .int x.2.1), (3, .int x.2.2.1), (4, .int 1), (5, .int x.2.2.2.2.1), (6, .int x.2.2.2.2.2.1)]) rfl ?_
              refine j_iload (pc := 101) C d_Mo_isHeld_101 4 rfl ?_
              refine j_if_ne (pc := 103) C d_Mo_isHeld_103 (tgt := 151) rfl (fun _ => ?_) (fun h => absurd h (by decide))
              refine j_iconst (pc := 151) C d_Mo_isHeld_151 ck_1 ?_
              refine j_goto (pc := 152) C d_Mo_isHeld_152 (tgt := 156) rfl ?_
              refine j_istore (pc := 156) C d_Mo_isHeld_156 [1, 2, 3, 4, 0, 5, 6] (by decide) (lc' := [(0, .ref (ar 0)), (1, .int x.1), (2, .int x.2.1), (3, .int x.2.2.1), (4, .int 1), (5, .int x.2.2.2.2.1), (6, .int x.2.2.2.2.2.1)]) rfl ?_
              refine j_iinc (pc := 158) C d_Mo_isHeld_158 6 rfl (v := x.2.2.2.2.2.1 + 1) (iv ci_1) [1, 2, 3, 4, 5, 6, 0] (by decide) (lc' := [(0, .ref (ar 0)), (1, .int x.1), (2, .int x.2.1), (3, .int x.2.2.1), (4, .int 1), (5, .int x.2.2.2.2.1), (6, .int (x.2.2.2.2.2.1 + 1))]) rfl ?_
              refine j_goto (pc := 161) C d_Mo_isHeld_161 (tgt := 39) rfl ?_
              exact k39_ih (x.1, x.2.1, x.2.2.1, 1, x.2.2.2.2.1, x.2.2.2.2.2.1 + 1, x.2.2.2.2.2.2) hf
  have L6 : ∀ (n : Nat) (x : Int32 × Int32 × Int32 × Int32 × Int32 × RS), lpN (BMo_isHeld_6) n x = some q → 𝒥 0 0 (wR g ar x.2.2.2.2.2.1 x.2.2.2.2.2.2.1 x.2.2.2.2.2.2.2) [(0, .ref (ar 0)), (1, .int x.1), (2, .int x.2.1), (3, .int x.2.2.1), (4, .int x.2.2.2.1), (5, .int x.2.2.2.2.1)] [] 6 := by
    refine lp_ind (fun k6 k6_ih x hf => ?_)
    unfold BMo_isHeld_6 at hf
    refine j_iload (pc := 6) C d_Mo_isHeld_6 5 rfl ?_
    refine j_iload_n (pc := 8) C d_Mo_isHeld_8 rfl 3 rfl ?_
    refine j_icmp_ge (pc := 9) C d_Mo_isHeld_9 (tgt := 170) rfl (fun h1 => ?_) (fun h1 => ?_)
    · rw [if_pos h1] at hf
      refine j_iload_n (pc := 170) C d_Mo_isHeld_170 rfl 3 rfl ?_
      refine j_istore (pc := 171) C d_Mo_isHeld_171 [1, 2, 3, 4, 5, 0] (by decide) (lc' := [(0, .ref (ar 0)), (1, .int x.1), (2, .int x.2.1), (3, .int x.2.2.1), (4, .int x.2.2.2.1), (5, .int x.2.2.1)]) rfl ?_
      exact L173 100000 (x.1, x.2.1, x.2.2.1, x.2.2.2.1, x.2.2.1, x.2.2.2.2.2) hf
    · rw [if_neg h1] at hf
      refine j_iload (pc := 12) C d_Mo_isHeld_12 4 rfl ?_
      refine j_if_ne (pc := 14) C d_Mo_isHeld_14 (tgt := 29) rfl (fun h12 => ?_) (fun h12 => ?_)
      · rw [if_neg h12] at hf
        refine j_iconst (pc := 29) C d_Mo_isHeld_29 ck_1 ?_
        refine j_goto (pc := 30) C d_Mo_isHeld_30 (tgt := 34) rfl ?_
        refine j_istore (pc := 34) C d_Mo_isHeld_34 [1, 2, 3, 4, 0, 5] (by decide) (lc' := [(0, .ref (ar 0)), (1, .int x.1), (2, .int x.2.1), (3, .int x.2.2.1), (4, .int 1), (5, .int x.2.2.2.2.1)]) rfl ?_
        refine j_iload_n (pc := 36) C d_Mo_isHeld_36 rfl 3 rfl ?_
        refine j_istore (pc := 37) C d_Mo_isHeld_37 [1, 2, 3, 4, 5, 6, 0] (by decide) (lc' := [(0, .ref (ar 0)), (1, .int x.1), (2, .int x.2.1), (3, .int x.2.2.1), (4, .int 1), (5, .int x.2.2.2.2.1), (6, .int x.2.2.1)]) rfl ?_
        exact L39 k6 k6_ih 100000 (x.1, x.2.1, x.2.2.1, 1, x.2.2.2.2.1, x.2.2.1, x.2.2.2.2.2) hf
      · rw [if_pos h12] at hf
        refine j_aload_n (pc := 17) C d_Mo_isHeld_17 rfl 0 rfl ?_
        refine j_get (pc := 18) C d_Mo_isHeld_18 0 12 wR_o0 rfl (v := .ref (ar 9)) rfl (by decide) tw954 ?_
        refine j_iload (pc := 21) C d_Mo_isHeld_21 5 rfl ?_
        obtain ⟨b49, hf⟩ := og hf
        refine j_iald (pc := 23) C d_Mo_isHeld_23 9 (inb_in b49) (x := x.2.2.2.2.2.1 9 x.2.2.2.2.1.toNatClampNeg) wR_a9 rfl ?_
        refine j_topi C (fun v50 ev50 => ?_)
        replace hf := ov ev50 hf
        refine j_bipush (pc := 24) C d_Mo_isHeld_24 cb_6 ?_
        refine j_icmp_ne (pc := 26) C d_Mo_isHeld_26 (tgt := 33) rfl (fun h51 => ?_) (fun h51 => ?_)
        · rw [if_neg h51] at hf
          refine j_iconst (pc := 33) C d_Mo_isHeld_33 ck_0 ?_
          refine j_istore (pc := 34) C d_Mo_isHeld_34 [1, 2, 3, 4, 0, 5] (by decide) (lc' := [(0, .ref (ar 0)), (1, .int x.1), (2, .int x.2.1), (3, .int x.2.2.1), (4, .int 0), (5, .int x.2.2.2.2.1)]) rfl ?_
          refine j_iload_n (pc := 36) C d_Mo_isHeld_36 rfl 3 rfl ?_
          refine j_istore (pc := 37) C d_Mo_isHeld_37 [1, 2, 3, 4, 5, 6, 0] (by decide) (lc' := [(0, .ref (ar 0)), (1, .int x.1), (2, .int x.2.1), (3, .int x.2.2.1), (4, .int 0), (5, .int x.2.2.2.2.1), (6, .int x.2.2.1)]) rfl ?_
          exact L39 k6 k6_ih 100000 (x.1, x.2.1, x.2.2.1, 0, x.2.2.2.2.1, x.2.2.1, x.2.2.2.2.2) hf
        · rw [if_pos h51] at hf
          refine j_iconst (pc := 29) C d_Mo_isHeld_29 ck_1 ?_
          refine j_goto (pc := 30) C d_Mo_isHeld_30 (tgt := 34) rfl ?_
          refine j_istore (pc := 34) C d_Mo_isHeld_34 [1, 2, 3, 4, 0, 5] (by decide) (lc' := [(0, .ref (ar 0)), (1, .int x.1), (2, .int x.2.1), (3, .int x.2.2.1), (4, .int 1), (5, .int x.2.2.2.2.1)]) rfl ?_
          refine j_iload_n (pc := 36) C d_Mo_isHeld_36 rfl 3 rfl ?_
          refine j_istore (pc := 37) C d_Mo_isHeld_37 [1, 2, 3, 4, 5, 6, 0] (by decide) (lc' := [(0, .ref (ar 0)), (1, .int x.1), (2, .int x.2.1), (3, .int x.2.2.1), (4, .int 1), (5, .int x.2.2.2.2.1), (6, .int x.2.2.1)]) rfl ?_
          exact L39 k6 k6_ih 100000 (x.1, x.2.1, x.2.2.1, 1, x.2.2.2.2.1, x.2.2.1, x.2.2.2.2.2) hf
  unfold f_Mo_isHeld at hf
  change 𝒥 0 0 (wR g ar r.1 r.2.1 r.2.2) [(0, .ref (ar 0)), (1, .int a1), (2, .int a2), (3, .int a3)] [] 0
  refine j_iconst (pc := 0) C d_Mo_isHeld_0 ck_0 ?_
  refine j_istore (pc := 1) C d_Mo_isHeld_1 [1, 2, 3, 4, 0] (by decide) (lc' := [(0, .ref (ar 0)), (1, .int a1), (2, .int a2), (3, .int a3), (4, .int 0)]) rfl ?_
  refine j_iload_n (pc := 3) C d_Mo_isHeld_3 rfl 2 rfl ?_
  refine j_istore (pc := 4) C d_Mo_isHeld_4 [1, 2, 3, 4, 5, 0] (by decide) (lc' := [(0, .ref (ar 0)), (1, .int a1), (2, .int a2), (3, .int a3), (4, .int 0), (5, .int a2)]) rfl ?_
  exact L6 100000 (a1, a2, a3, 0, a2, r) hf
