abbrev rm_Mo_unfold : Room := { frames := 1, cells := 0, slots := 0, locals := 22 }
theorem cv_Mo_unfold : CV y_Mo_unfold b_Mo_unfold 8 none 3 := ⟨⟨tw1317, tw10, by decide +kernel⟩, tw1316, (sw_ (q := (y_Mo_unfold, 54)) (by decide +kernel) (by decide +kernel))⟩
set_option maxHeartbeats 4000000 in
set_option maxRecDepth 100000 in
theorem c_Mo_unfold {g : GT} {ar : Nat → Nat} {a1 : Int32} {a2 : Int32} {a3 : Int32} {r : RS} {q : RS} (hf : f_Mo_unfold a1 a2 a3 r = some q) : MV g y_Mo_unfold b_Mo_unfold 8 none rm_Mo_unfold [.ref (ar 0), .int a1, .int a2, .int a3] (wR g ar r.1 r.2.1 r.2.2) (wR g ar q.1 q.2.1 q.2.2) := by
  refine MV.of (by decide) (Nat.le_of_ble_eq_true rfl) (fun 𝒥 C => ?_)
  have L139 : ∀ (k9 : Int32 × Int32 × Int32 × Int32 × Int32 × Int32 × RS → Option RS) (k9_ih : ∀ y : Int32 × Int32 × Int32 × Int32 × Int32 × Int32 × RS, k9 y = some q → 𝒥 0 0 (wR g ar y.2.2.2.2.2.2.1 y.2.2.2.2.2.2.2.1 y.2.2.2.2.2.2.2.2) [(0, .ref (ar 0)), (1, .int y.1), (2, .int y.2.1), (3, .int y.2.2.1), (4, .int y.2.2.2.1), (5, .int y.2.2.2.2.1), (6, .int y.2.2.2.2.2.1)] [] 9)  (k18 : Int32 × Int32 × Int32 × Int32 × Int32 × Int32 × RS → Option RS) (k18_ih : ∀ y : Int32 × Int32 × Int32 × Int32 × Int32 × Int32 × RS, k18 y = some q → 𝒥 0 0 (wR g ar y.2.2.2.2.2.2.1 y.2.2.2.2.2.2.2.1 y.2.2.2.2.2.2.2.2) [(0, .ref (ar 0)), (1, .int y.1), (2, .int y.2.1), (3, .int y.2.2.1), (4, .int y.2.2.2.1), (5, .int y.2.2.2.2.1), (6, .int y.2.2.2.2.2.1)] [] 18)  (n : Nat) (x : Int32 × Int32 × Int32 × Int32 × Int32 × Int32 × Int32 × RS), lpN (BMo_unfold_139 k9 k18) n x = some q → 𝒥 0 0 (wR g ar x.2.2.2.2.2.2.2.1 x.2.2.2.2.2.2.2.2.1 x.2.2.2.2.2.2.2.2.2) [(0, .ref (ar 0)), (1, .int x.1), (2, .int x.2.1), (3, .int x.2.2.1), (4, .int x.2.2.2.1), (5, .int x.2.2.2.2.1), (6, .int x.2.2.2.2.2.1), (7, .int x.2.2.2.2.2.2.1)] [] 139 := by
    intro k9 k9_ih k18 k18_ih
    refine lp_ind (fun k139 k139_ih x hf => ?_)
    unfold BMo_unfold_139 at hf
    refine j_iload (pc := 139) C d_Mo_unfold_139 7 rfl ?_
    refine j_aload_n (pc := 141) C d_Mo_unfold_141 rfl 0 rfl ?_
    refine j_get (pc := 142) C d_Mo_unfold_142 0 10 wR_o0 rfl (v := .ref (ar 7)) rfl (by decide) tw952 ?_
    refine j_iload_n (pc := 145) C d_Mo_unfold_145 rfl 3 rfl ?_
    refine j_iconst (pc := 146) C d_Mo_unfold_146 ck_1 ?_
    refine j_isub (pc := 147) C d_Mo_unfold_147 ?_
    obtain ⟨b29, hf⟩ := og hf
    refine j_iald (pc := 148) C d_Mo_unfold_148 7 (inb_in b29) (x := x.2.2.2.2.2.2.2.1 7 (x.2.2.1 - 1).toNatClampNeg) wR_a7 rfl ?_
    refine j_topi C (fun v30 ev30 => ?_)
    replace hf := ov ev30 hf
    refine j_icmp_ge (pc := 149) C d_Mo_unfold_149 (tgt := 175) rfl (fun h31 => ?_) (fun h31 => ?_)
    · rw [if_pos h31] at hf
      refine j_aload_n (pc := 175) C d_Mo_unfold_175 rfl 0 rfl ?_
      refine j_get (pc := 176) C d_Mo_unfold_176 0 6 wR_o0 rfl (v := .ref (ar 4)) rfl (by decide) tw948 ?_
      refine j_iload (pc := 179) C d_Mo_unfold_179 4 rfl ?_
      refine j_bipush (pc := 181) C d_Mo_unfold_181 cb_41 ?_
      obtain ⟨b32, hf⟩ := og hf
      refine j_iast (pc := 183) C d_Mo_unfold_183 4 (inb_in b32) wR_a4 (ws' := wR g ar (va_up x.2.2.2.2.2.2.2.1 4 (upd (x.2.2.2.2.2.2.2.1 4) x.2.2.2.1.toNatClampNeg 41)) x.2.2.2.2.2.2.2.2.1 x.2.2.2.2.2.2.2.2.2) wR_s4 ?_
      refine j_iinc (pc := 184) C d_Mo_unfold_184 4 rfl (v := x.2.2.2.1 + 1) (iv ci_1) [1, 2, 3, 4, 0, 5, 6, 7] (by decide) (lc' := [(0, .ref (ar 0)), (1, .int x.1), (2, .int x.2.1), (3, .int x.2.2.1), (4, .int (x.2.2.2.1 + 1)), (5, .int x.2.2.2.2.1), (6, .int x.2.2.2.2.2.1), (7, .int x.2.2.2.2.2.2.1)]) rfl ?_
      refine j_aload_n (pc := 187) C d_Mo_unfold_187 rfl 0 rfl ?_
      refine j_get (pc := 188) C d_Mo_unfold_188 0 10 wR_o0 rfl (v := .ref (ar 7)) rfl (by decide) tw952 ?_
      refine j_iload (pc := 191) C d_Mo_unfold_191 5 rfl ?_
      obtain ⟨b33, hf⟩ := og hf
      refine j_iald (pc := 193) C d_Mo_unfold_193 7 (inb_in b33) (x := x.2.2.2.2.2.2.2.1 7 x.2.2.2.2.1.toNatClampNeg) wR_a7 rfl ?_
      refine j_topi C (fun v34 ev34 => ?_)
      replace hf := ov ev34 hf
      refine j_istore (pc := 194) C d_Mo_unfold_194 [1, 2, 3, 4, 5, 6, 0, 7] (by decide) (lc' := [(0, .ref (ar 0)), (1, .int x.1), (2, .int x.2.1), (3, .int x.2.2.1), (4, .int (x.2.2.2.1 + 1)), (5, .int x.2.2.2.2.1), (6, .int v34), (7, .int x.2.2.2.2.2.2.1)]) rfl ?_
      refine j_goto (pc := 196) C d_Mo_unfold_196 (tgt := 9) rfl ?_
      refine j_lc C (lc' := [(0, .ref (ar 0)), (1, .int x.1), (2, .int x.2.1), (3, .int x.2.2.1), (4, .int (x.2.2.2.1 + 1)), (5, .int x.2.2.2.2.1), (6, .int v34)]) [0, 1, 2, 3, 4, 5, 6] rfl ?_
      exact k9_ih (x.1, x.2.1, x.2.2.1, x.2.2.2.1 + 1, x.2.2.2.2.1, v34, ((va_up x.2.2.2.2.2.2.2.1 4 (upd (x.2.2.2.2.2.2.2.1 4) x.2.2.2.1.toNatClampNeg 41)), x.2.2.2.2.2.2.2.2.1, x.2.2.2.2.2.2.2.2.2)) hf
    · rw [if_neg h31] at hf
      refine j_aload_n (pc := 152) C d_Mo_unfold_152 rfl 0 rfl ?_
      refine j_get (pc := 153) C d_Mo_unfold_153 0 6 wR_o0 rfl (v := .ref (ar 4)) rfl (by decide) tw948 ?_
      refine j_iload (pc := 156) C d_Mo_unfold_156 4 rfl ?_
      refine j_aload_n (pc := 158) C d_Mo_unfold_158 rfl 0 rfl ?_
      refine j_get (pc := 159) C d_Mo_unfold_159 0 2 wR_o0 rfl (v := .ref (ar 2)) rfl (by decide) tw944 ?_
      refine j_iload (pc := 162) C d_Mo_unfold_162 7 rfl ?_
      obtain ⟨b35, hf⟩ := og hf
      refine j_iald (pc := 164) C d_Mo_unfold_164 2 (inb_in b35) (x := x.2.2.2.2.2.2.2.1 2 x.2.2.2.2.2.2.1.toNatClampNeg) wR_a2 rfl ?_
      refine j_topi C (fun v36 ev36 => ?_)
      replace hf := ov ev36 hf
      obtain ⟨b37, hf⟩ := og hf
      refine j_iast (pc := 165) C d_Mo_unfold_165 4 (inb_in b37) wR_a4 (ws' := wR g ar (va_up x.2.2.2.2.2.2.2.1 4 (upd (x.2.2.2.2.2.2.2.1 4) x.2.2.2.1.toNatClampNeg v36)) x.2.2.2.2.2.2.2.2.1 x.2.2.2.2.2.2.2.2.2) wR_s4 ?_
      refine j_iinc (pc := 166) C d_Mo_unfold_166 4 rfl (v := x.2.2.2.1 + 1) (iv ci_1) [1, 2, 3, 4, 0, 5, 6, 7] (by decide) (lc' := [(0, .ref (ar 0)), (1, .int x.1), (2, .int x.2.1), (3, .int x.2.2.1), (4, .int (x.2.2.2.1 + 1)), (5, .int x.2.2.2.2.1), (6, .int x.2.2.2.2.2.1), (7, .int x.2.2.2.2.2.2.1)]) rfl ?_
      refine j_iinc (pc := 169) C d_Mo_unfold_169 7 rfl (v := x.2.2.2.2.2.2.1 + 1) (iv ci_1) [1, 2, 3, 4, 5, 6, 7, 0] (by decide) (lc' := [(0, .ref (ar 0)), (1, .int x.1), (2, .int x.2.1), (3, .int x.2.2.1), (4, .int (x.2.2.2.1 + 1)), (5, .int x.2.2.2.2.1), (6, .int x.2.2.2.2.2.1), (7, .int (x.2.2.2.2.2.2.1 + 1))]) rfl ?_
      refine j_goto (pc := 172) C d_Mo_unfold_172 (tgt := 139) rfl ?_
      exact k139_ih (x.1, x.2.1, x.2.2.1, x.2.2.2.1 + 1, x.2.2.2.2.1, x.2.2.2.2.2.1, x.2.2.2.2.2.2.1 + 1, ((va_up x.2.2.2.2.2.2.2.1 4 (upd (x.2.2.2.2.2.2.2.1 4) x.2.2.2.1.toNatClampNeg v36)), x.2.2.2.2.2.2.2.2.1, x.2.2.2.2.2.2.2.2.2)) hf
  have L18 : ∀ (k9 : Int32 × Int32 × Int32 × Int32 × Int32 × Int32 × RS → Option RS) (k9_ih : ∀ y : Int32 × Int32 × Int32 × Int32 × Int32 × Int32 × RS, k9 y = some q → 𝒥 0 0 (wR g ar y.2.2.2.2.2.2.1 y.2.2.2.2.2.2.2.1 y.2.2.2.2.2.2.2.2) [(0, .ref (ar 0)), (1, .int y.1), (2, .int y.2.1), (3, .int y.2.2.1), (4, .int y.2.2.2.1), (5, .int y.2.2.2.2.1), (6, .int y.2.2.2.2.2.1)] [] 9)  (n : Nat) (x : Int32 × Int32 × Int32 × Int32 × Int32 × Int32 × RS), lpN (BMo_unfold_18 k9) n x = some q → 𝒥 0 0 (wR g ar x.2.2.2.2.2.2.1 x.2.2.2.2.2.2.2.1 x.2.2.2.2.2.2.2.2) [(0, .ref (ar 0)), (1, .int x.1), (2, .int x.2.1), (3, .int x.2.2.1), (4, .int x.2.2.2.1), (5, .int x.2.2.2.2.1), (6, .int x.2.2.2.2.2.1)] [] 18 := by
    intro k9 k9_ih
    refine lp_ind (fun k18 k18_ih x hf => ?_)
    unfold BMo_unfold_18 at hf
    refine j_iload (pc := 18) C d_Mo_unfold_18 5 rfl ?_
    refine j_aload_n (pc := 20) C d_Mo_unfold_20 rfl 0 rfl ?_
    refine j_get (pc := 21) C d_Mo_unfold_21 0 7 wR_o0 rfl (v := .int (x.2.2.2.2.2.2.2.1 3)) rfl (by decide) tw949 ?_
    refine j_icmp_ge (pc := 24) C d_Mo_unfold_24 (tgt := 45) rfl (fun h3 => ?_) (fun h3 => ?_)
    · rw [if_pos h3] at hf
      refine j_iload (pc := 45) C d_Mo_unfold_45 5 rfl ?_
      refine j_iload_n (pc := 47) C d_Mo_unfold_47 rfl 1 rfl ?_
      refine j_iconst (pc := 48) C d_Mo_unfold_48 ck_1 ?_
      refine j_isub (pc := 49) C d_Mo_unfold_49 ?_
      refine j_icmp_ne (pc := 50) C d_Mo_unfold_50 (tgt := 76) rfl (fun h4 => ?_) (fun h4 => ?_)
      · rw [if_neg h4] at hf
        refine j_iload (pc := 76) C d_Mo_unfold_76 5 rfl ?_
        refine j_aload_n (pc := 78) C d_Mo_unfold_78 rfl 0 rfl ?_
        refine j_get (pc := 79) C d_Mo_unfold_79 0 7 wR_o0 rfl (v := .int (x.2.2.2.2.2.2.2.1 3)) rfl (by decide) tw949 ?_
        refine j_icmp_ge (pc := 82) C d_Mo_unfold_82 (tgt := 199) rfl (fun h5 => ?_) (fun h5 => ?_)
        · rw [if_pos h5] at hf
          refine j_aload_n (pc := 199) C d_Mo_unfold_199 rfl 0 rfl ?_
          refine j_get (pc := 200) C d_Mo_unfold_200 0 6 wR_o0 rfl (v := .ref (ar 4)) rfl (by decide) tw948 ?_
          refine j_iload (pc := 203) C d_Mo_unfold_203 4 rfl ?_
          refine j_aload_n (pc := 205) C d_Mo_unfold_205 rfl 0 rfl ?_
          refine j_get (pc := 206) C d_Mo_unfold_206 0 2 wR_o0 rfl (v := .ref (ar 2)) rfl (by decide) tw944 ?_
          refine j_iload (pc := 209) C d_Mo_unfold_209 6 rfl ?_
          obtain ⟨b6, hf⟩ := og hf
          refine j_iald (pc := 211) C d_Mo_unfold_211 2 (inb_in b6) (x := x.2.2.2.2.2.2.1 2 x.2.2.2.2.2.1.toNatClampNeg) wR_a2 rfl ?_
          refine j_topi C (fun v7 ev7 => ?_)
          replace hf := ov ev7 hf
          obtain ⟨b8, hf⟩ := og hf
          refine j_iast (pc := 212) C d_Mo_unfold_212 4 (inb_in b8) wR_a4 (ws' := wR g ar (va_up x.2.2.2.2.2.2.1 4 (upd (x.2.2.2.2.2.2.1 4) x.2.2.2.1.toNatClampNeg v7)) x.2.2.2.2.2.2.2.1 x.2.2.2.2.2.2.2.2) wR_s4 ?_
          refine j_iinc (pc := 213) C d_Mo_unfold_213 4 rfl (v := x.2.2.2.1 + 1) (iv ci_1) [1, 2, 3, 4, 0, 5, 6] (by decide) (lc' := [(0, .ref (ar 0)), (1, .int x.1), (2, .int x.2.1), (3, .int x.2.2.1), (4, .int (x.2.2.2.1 + 1)), (5, .int x.2.2.2.2.1), (6, .int x.2.2.2.2.2.1)]) rfl ?_
          refine j_iinc (pc := 216) C d_Mo_unfold_216 6 rfl (v := x.2.2.2.2.2.1 + 1) (iv ci_1) [1, 2, 3, 4, 5, 6, 0] (by decide) (lc' := [(0, .ref (ar 0)), (1, .int x.1), (2, .int x.2.1), (3, .int x.2.2.1), (4, .int (x.2.2.2.1 + 1)), (5, .int x.2.2.2.2.1), (6, .int (x.2.2.2.2.2.1 + 1))]) rfl ?_
          refine j_goto (pc := 219) C d_Mo_unfold_219 (tgt := 9) rfl ?_
          exact k9_ih (x.1, x.2.1, x.2.2.1, x.2.2.2.1 + 1, x.2.2.2.2.1, x.2.2.2.2.2.1 + 1, ((va_up x.2.2.2.2.2.2.1 4 (upd (x.2.2.2.2.2.2.1 4) x.2.2.2.1.toNatClampNeg v7)), x.2.2.2.2.2.2.2.1, x.2.2.2.2.2.2.2.2)) hf
        · rw [if_neg h5] at hf
          refine j_iload (pc := 85) C d_Mo_unfold_85 6 rfl ?_
          refine j_aload_n (pc := 87) C d_Mo_unfold_87 rfl 0 rfl ?_
          refine j_get (pc := 88) C d_Mo_unfold_88 0 9 wR_o0 rfl (v := .ref (ar 6)) rfl (by decide) tw951 ?_
          refine j_iload (pc := 91) C d_Mo_unfold_91 5 rfl ?_
          obtain ⟨b9, hf⟩ := og hf
          refine j_iald (pc := 93) C d_Mo_unfold_93 6 (inb_in b9) (x := x.2.2.2.2.2.2.1 6 x.2.2.2.2.1.toNatClampNeg) wR_a6 rfl ?_
          refine j_topi C (fun v10 ev10 => ?_)
          replace hf := ov ev10 hf
          refine j_icmp_ne (pc := 94) C d_Mo_unfold_94 (tgt := 199) rfl (fun h11 => ?_) (fun h11 => ?_)
          · rw [if_neg h11] at hf
            refine j_aload_n (pc := 199) C d_Mo_unfold_199 rfl 0 rfl ?_
            refine j_get (pc := 200) C d_Mo_unfold_200 0 6 wR_o0 rfl (v := .ref (ar 4)) rfl (by decide) tw948 ?_
            refine j_iload (pc := 203) C d_Mo_unfold_203 4 rfl ?_
            refine j_aload_n (pc := 205) C d_Mo_unfold_205 rfl 0 rfl ?_
            refine j_get (pc := 206) C d_Mo_unfold_206 0 2 wR_o0 rfl (v := .ref (ar 2)) rfl (by decide) tw944 ?_
            refine j_iload (pc := 209) C d_Mo_unfold_209 6 rfl ?_
            obtain ⟨b12, hf⟩ := og hf
            refine j_iald (pc := 211) C d_Mo_unfold_211 2 (inb_in b12) (x := x.2.2.2.2.2.2.1 2 x.2.2.2.2.2.1.toNatClampNeg) wR_a2 rfl ?_
            refine j_topi C (fun v13 ev13 => ?_)
            replace hf := ov ev13 hf
            obtain ⟨b14, hf⟩ := og hf
            refine j_iast (pc := 212) C d_Mo_unfold_212 4 (inb_in b14) wR_a4 (ws' := wR g ar (va_up x.2.2.2.2.2.2.1 4 (upd (x.2.2.2.2.2.2.1 4) x.2.2.2.1.toNatClampNeg v13)) x.2.2.2.2.2.2.2.1 x.2.2.2.2.2.2.2.2) wR_s4 ?_
            refine j_iinc (pc := 213) C d_Mo_unfold_213 4 rfl (v := x.2.2.2.1 + 1) (iv ci_1) [1, 2, 3, 4, 0, 5, 6] (by decide) (lc' := [(0, .ref (ar 0)), (1, .int x.1), (2, .int x.2.1), (3, .int x.2.2.1), (4, .int (x.2.2.2.1 + 1)), (5, .int x.2.2.2.2.1), (6, .int x.2.2.2.2.2.1)]) rfl ?_
            refine j_iinc (pc := 216) C d_Mo_unfold_216 6 rfl (v := x.2.2.2.2.2.1 + 1) (iv ci_1) [1, 2, 3, 4, 5, 6, 0] (by decide) (lc' := [(0, .ref (ar 0)), (1, .int x.1), (2, .int x.2.1), (3, .int x.2.2.1), (4, .int (x.2.2.2.1 + 1)), (5, .int x.2.2.2.2.1), (6, .int (x.2.2.2.2.2.1 + 1))]) rfl ?_
            refine j_goto (pc := 219) C d_Mo_unfold_219 (tgt := 9) rfl ?_
            exact k9_ih (x.1, x.2.1, x.2.2.1, x.2.2.2.1 + 1, x.2.2.2.2.1, x.2.2.2.2.2.1 + 1, ((va_up x.2.2.2.2.2.2.1 4 (upd (x.2.2.2.2.2.2.1 4) x.2.2.2.1.toNatClampNeg v13)), x.2.2.2.2.2.2.2.1, x.2.2.2.2.2.2.2.2)) hf
          · rw [if_pos h11] at hf
            refine j_aload_n (pc := 97) C d_Mo_unfold_97 rfl 0 rfl ?_
            refine j_get (pc := 98) C d_Mo_unfold_98 0 12 wR_o0 rfl (v := .ref (ar 9)) rfl (by decide) tw954 ?_
            refine j_iload (pc := 101) C d_Mo_unfold_101 5 rfl ?_
            obtain ⟨b15, hf⟩ := og hf
            refine j_iald (pc := 103) C d_Mo_unfold_103 9 (inb_in b15) (x := x.2.2.2.2.2.2.1 9 x.2.2.2.2.1.toNatClampNeg) wR_a9 rfl ?_
            refine j_topi C (fun v16 ev16 => ?_)
            replace hf := ov ev16 hf
            refine j_iconst (pc := 104) C d_Mo_unfold_104 ck_5 ?_
            refine j_icmp_ne (pc := 105) C d_Mo_unfold_105 (tgt := 199) rfl (fun h17 => ?_) (fun h17 => ?_)
            · rw [if_neg h17] at hf
              refine j_aload_n (pc := 199) C d_Mo_unfold_199 rfl 0 rfl ?_
              refine j_get (pc := 200) C d_Mo_unfold_200 0 6 wR_o0 rfl (v := .ref (ar 4)) rfl (by decide) tw948 ?_
              refine j_iload (pc := 203) C d_Mo_unfold_203 4 rfl ?_
              refine j_aload_n (pc := 205) C d_Mo_unfold_205 rfl 0 rfl ?_
              refine j_get (pc := 206) C d_Mo_unfold_206 0 2 wR_o0 rfl (v := .ref (ar 2)) rfl (by decide) tw944 ?_
              refine j_iload (pc := 209) C d_Mo_unfold_209 6 rfl ?_
              obtain ⟨b18, hf⟩ := og hf
              refine j_iald (pc := 211) C d_Mo_unfold_211 2 (inb_in b18) (x := x.2.2.2.2.2.2.1 2 x.2.2.2.2.2.1.toNatClampNeg) wR_a2 rfl ?_
              refine j_topi C (fun v19 ev19 => ?_)
              replace hf := ov ev19 hf
              obtain ⟨b20, hf⟩ := og hf
              refine j_iast (pc := 212) C d_Mo_unfold_212 4 (inb_in b20) wR_a4 (ws' := wR g ar (va_up x.2.2.2.2.2.2.1 4 (upd (x.2.2.2.2.2.2.1 4) x.2.2.2.1.toNatClampNeg v19)) x.2.2.2.2.2.2.2.1 x.2.2.2.2.2.2.2.2) wR_s4 ?_
              refine j_iinc (pc := 213) C d_Mo_unfold_213 4 rfl (v := x.2.2.2.1 + 1) (iv ci_1) [1, 2, 3, 4, 0, 5, 6] (by decide) (lc' := [(0, .ref (ar 0)), (1, .int x.1), (2, .int x.2.1), (3, .int x.2.2.1), (4, .int (x.2.2.2.1 + 1)), (5, .int x.2.2.2.2.1), (6, .int x.2.2.2.2.2.1)]) rfl ?_
              refine j_iinc (pc := 216) C d_Mo_unfold_216 6 rfl (v := x.2.2.2.2.2.1 + 1) (iv ci_1) [1, 2, 3, 4, 5, 6, 0] (by decide) (lc' := [(0, .ref (ar 0)), (1, .int x.1), (2, .int x.2.1), (3, .int x.2.2.1), (4, .int (x.2.2.2.1 + 1)), (5, .int x.2.2.2.2.1), (6, .int (x.2.2.2.2.2.1 + 1))]) rfl ?_
              refine j_goto (pc := 219) C d_Mo_unfold_219 (tgt := 9) rfl ?_
              exact k9_ih (x.1, x.2.1, x.2.2.1, x.2.2.2.1 + 1, x.2.2.2.2.1, x.2.2.2.2.2.1 + 1, ((va_up x.2.2.2.2.2.2.1 4 (upd (x.2.2.2.2.2.2.1 4) x.2.2.2.1.toNatClampNeg v19)), x.2.2.2.2.2.2.2.1, x.2.2.2.2.2.2.2.2)) hf
            · rw [if_pos h17] at hf
              refine j_aload_n (pc := 108) C d_Mo_unfold_108 rfl 0 rfl ?_
              refine j_get (pc := 109) C d_Mo_unfold_109 0 13 wR_o0 rfl (v := .ref (ar 10)) rfl (by decide) tw955 ?_
              refine j_iload (pc := 112) C d_Mo_unfold_112 5 rfl ?_
              obtain ⟨b21, hf⟩ := og hf
              refine j_iald (pc := 114) C d_Mo_unfold_114 10 (inb_in b21) (x := x.2.2.2.2.2.2.1 10 x.2.2.2.2.1.toNatClampNeg) wR_a10 rfl ?_
              refine j_topi C (fun v22 ev22 => ?_)
              replace hf := ov ev22 hf
              refine j_iload_n (pc := 115) C d_Mo_unfold_115 rfl 1 rfl ?_
              refine j_icmp_ne (pc := 116) C d_Mo_unfold_116 (tgt := 199) rfl (fun h23 => ?_) (fun h23 => ?_)
              · rw [if_neg h23] at hf
                refine j_aload_n (pc := 199) C d_Mo_unfold_199 rfl 0 rfl ?_
                refine j_get (pc := 200) C d_Mo_unfold_200 0 6 wR_o0 rfl (v := .ref (ar 4)) rfl (by decide) tw948 ?_
                refine j_iload (pc := 203) C d_Mo_unfold_203 4 rfl ?_
                refine j_aload_n (pc := 205) C d_Mo_unfold_205 rfl 0 rfl ?_
                refine j_get (pc := 206) C d_Mo_unfold_206 0 2 wR_o0 rfl (v := .ref (ar 2)) rfl (by decide) tw944 ?_
                refine j_iload (pc := 209) C d_Mo_unfold_209 6 rfl ?_
                obtain ⟨b24, hf⟩ := og hf
                refine j_iald (pc := 211) C d_Mo_unfold_211 2 (inb_in b24) (x := x.2.2.2.2.2.2.1 2 x.2.2.2.2.2.1.toNatClampNeg) wR_a2 rfl ?_
                refine j_topi C (fun v25 ev25 => ?_)
                replace hf := ov ev25 hf
                obtain ⟨b26, hf⟩ := og hf
                refine j_iast (pc := 212) C d_Mo_unfold_212 4 (inb_in b26) wR_a4 (ws' := wR g ar (va_up x.2.2.2.2.2.2.1 4 (upd (x.2.2.2.2.2.2.1 4) x.2.2.2.1.toNatClampNeg v25)) x.2.2.2.2.2.2.2.1 x.2.2.2.2.2.2.2.2) wR_s4 ?_
                refine j_iinc (pc := 213) C d_Mo_unfold_213 4 rfl (v := x.2.2.2.1 + 1) (iv ci_1) [1, 2, 3, 4, 0, 5, 6] (by decide) (lc' := [(0, .ref (ar 0)), (1, .int x.1), (2, .int x.2.1), (3, .int x.2.2.1), (4, .int (x.2.2.2.1 + 1)), (5, .int x.2.2.2.2.1), (6, .int x.2.2.2.2.2.1)]) rfl ?_
                refine j_iinc (pc := 216) C d_Mo_unfold_216 6 rfl (v := x.2.2.2.2.2.1 + 1) (iv ci_1) [1, 2, 3, 4, 5, 6, 0] (by decide) (lc' := [(0, .ref (ar 0)), (1, .int x.1), (2, .int x.2.1), (3, .int x.2.2.1), (4, .int (x.2.2.2.1 + 1)), (5, .int x.2.2.2.2.1), (6, .int (x.2.2.2.2.2.1 + 1))]) rfl ?_
                refine j_goto (pc := 219) C d_Mo_unfold_219 (tgt := 9) rfl ?_
                exact k9_ih (x.1, x.2.1, x.2.2.1, x.2.2.2.1 + 1, x.2.2.2.2.1, x.2.2.2.2.2.1 + 1, ((va_up x.2.2.2.2.2.2.1 4 (upd (x.2.2.2.2.2.2.1 4) x.2.2.2.1.toNatClampNeg v25)), x.2.2.2.2.2.2.2.1, x.2.2.2.2.2.2.2.2)) hf
              · rw [if_pos h23] at hf
                refine j_aload_n (pc := 119) C d_Mo_unfold_119 rfl 0 rfl ?_
                refine j_get (pc := 120) C d_Mo_unfold_120 0 6 wR_o0 rfl (v := .ref (ar 4)) rfl (by decide) tw948 ?_
                refine j_iload (pc := 123) C d_Mo_unfold_123 4 rfl ?_
                refine j_bipush (pc := 125) C d_Mo_unfold_125 cb_40 ?_
                obtain ⟨b27, hf⟩ := og hf
                refine j_iast (pc := 127) C d_Mo_unfold_127 4 (inb_in b27) wR_a4 (ws' := wR g ar (va_up x.2.2.2.2.2.2.1 4 (upd (x.2.2.2.2.2.2.1 4) x.2.2.2.1.toNatClampNeg 40)) x.2.2.2.2.2.2.2.1 x.2.2.2.2.2.2.2.2) wR_s4 ?_
                refine j_iinc (pc := 128) C d_Mo_unfold_128 4 rfl (v := x.2.2.2.1 + 1) (iv ci_1) [1, 2, 3, 4, 0, 5, 6] (by decide) (lc' := [(0, .ref (ar 0)), (1, .int x.1), (2, .int x.2.1), (3, .int x.2.2.1), (4, .int (x.2.2.2.1 + 1)), (5, .int x.2.2.2.2.1), (6, .int x.2.2.2.2.2.1)]) rfl ?_
                refine j_aload_n (pc := 131) C d_Mo_unfold_131 rfl 0 rfl ?_
                refine j_get (pc := 132) C d_Mo_unfold_132 0 9 wR_o0 rfl (v := .ref (ar 6)) rfl (by decide) tw951 ?_
                refine j_iload_n (pc := 135) C d_Mo_unfold_135 rfl 2 rfl ?_
                obtain ⟨b28, hf⟩ := og hf
                refine j_iald (pc := 136) C d_Mo_unfold_136 6 (inb_in b28) (x := x.2.2.2.2.2.2.1 6 x.2.1.toNatClampNeg) wR_a6 rfl ?_
                refine j_istore (pc := 137) C d_Mo_unfold_137 [1, 2, 3, 4, 5, 6, 7, 0] (by decide) (lc' := [(0, .ref (ar 0)), (1, .int x.1), (2, .int x.2.1), (3, .int x.2.2.1), (4, .int (x.2.2.2.1 + 1)), (5, .int x.2.2.2.2.1), (6, .int x.2.2.2.2.2.1), (7, .int (x.2.2.2.2.2.2.1 6 x.2.1.toNatClampNeg))]) rfl ?_
                exact L139 k9 k9_ih k18 k18_ih 100000 (x.1, x.2.1, x.2.2.1, x.2.2.2.1 + 1, x.2.2.2.2.1, x.2.2.2.2.2.1, x.2.2.2.2.2.2.1 6 x.2.1.toNatClampNeg, ((va_up x.2.2.2.2.2.2.1 4 (upd (x.2.2.2.2.2.2.1 4) x.2.2.2.1.toNatClampNeg 40)), x.2.2.2.2.2.2.2.1, x.2.2.2.2.2.2.2.2)) hf
      · rw [if_pos h4] at hf
        refine j_iload (pc := 53) C d_Mo_unfold_53 6 rfl ?_
        refine j_aload_n (pc := 55) C d_Mo_unfold_55 rfl 0 rfl ?_
        refine j_get (pc := 56) C d_Mo_unfold_56 0 9 wR_o0 rfl (v := .ref (ar 6)) rfl (by decide) tw951 ?_
        refine j_iload (pc := 59) C d_Mo_unfold_59 5 rfl ?_
        obtain ⟨b38, hf⟩ := og hf
        refine j_iald (pc := 61) C d_Mo_unfold_61 6 (inb_in b38) (x := x.2.2.2.2.2.2.1 6 x.2.2.2.2.1.toNatClampNeg) wR_a6 rfl ?_
        refine j_topi C (fun v39 ev39 => ?_)
        replace hf := ov ev39 hf
        refine j_icmp_ne (pc := 62) C d_Mo_unfold_62 (tgt := 76) rfl (fun h40 => ?_) (fun h40 => ?_)
        · rw [if_neg h40] at hf
          refine j_iload (pc := 76) C d_Mo_unfold_76 5 rfl ?_
          refine j_aload_n (pc := 78) C d_Mo_unfold_78 rfl 0 rfl ?_
          refine j_get (pc := 79) C d_Mo_unfold_79 0 7 wR_o0 rfl (v := .int (x.2.2.2.2.2.2.2.1 3)) rfl (by decide) tw949 ?_
          refine j_icmp_ge (pc := 82) C d_Mo_unfold_82 (tgt := 199) rfl (fun h41 => ?_) (fun h41 => ?_)
          · rw [if_pos h41] at hf
            refine j_aload_n (pc := 199) C d_Mo_unfold_199 rfl 0 rfl ?_
            refine j_get (pc := 200) C d_Mo_unfold_200 0 6 wR_o0 rfl (v := .ref (ar 4)) rfl (by decide) tw948 ?_
            refine j_iload (pc := 203) C d_Mo_unfold_203 4 rfl ?_
            refine j_aload_n (pc := 205) C d_Mo_unfold_205 rfl 0 rfl ?_
            refine j_get (pc := 206) C d_Mo_unfold_206 0 2 wR_o0 rfl (v := .ref (ar 2)) rfl (by decide) tw944 ?_
            refine j_iload (pc := 209) C d_Mo_unfold_209 6 rfl ?_
            obtain ⟨b42, hf⟩ := og hf
            refine j_iald (pc := 211) C d_Mo_unfold_211 2 (inb_in b42) (x := x.2.2.2.2.2.2.1 2 x.2.2.2.2.2.1.toNatClampNeg) wR_a2 rfl ?_
            refine j_topi C (fun v43 ev43 => ?_)
            replace hf := ov ev43 hf
            obtain ⟨b44, hf⟩ := og hf
            refine j_iast (pc := 212) C d_Mo_unfold_212 4 (inb_in b44) wR_a4 (ws' := wR g ar (va_up x.2.2.2.2.2.2.1 4 (upd (x.2.2.2.2.2.2.1 4) x.2.2.2.1.toNatClampNeg v43)) x.2.2.2.2.2.2.2.1 x.2.2.2.2.2.2.2.2) wR_s4 ?_
            refine j_iinc (pc := 213) C d_Mo_unfold_213 4 rfl (v := x.2.2.2.1 + 1) (iv ci_1) [1, 2, 3, 4, 0, 5, 6] (by decide) (lc' := [(0, .ref (ar 0)), (1, .int x.1), (2, .int x.2.1), (3, .int x.2.2.1), (4, .int (x.2.2.2.1 + 1)), (5, .int x.2.2.2.2.1), (6, .int x.2.2.2.2.2.1)]) rfl ?_
            refine j_iinc (pc := 216) C d_Mo_unfold_216 6 rfl (v := x.2.2.2.2.2.1 + 1) (iv ci_1) [1, 2, 3, 4, 5, 6, 0] (by decide) (lc' := [(0, .ref (ar 0)), (1, .int x.1), (2, .int x.2.1), (3, .int x.2.2.1), (4, .int (x.2.2.2.1 + 1)), (5, .int x.2.2.2.2.1), (6, .int (x.2.2.2.2.2.1 + 1))]) rfl ?_
            refine j_goto (pc := 219) C d_Mo_unfold_219 (tgt := 9) rfl ?_
            exact k9_ih (x.1, x.2.1, x.2.2.1, x.2.2.2.1 + 1, x.2.2.2.2.1, x.2.2.2.2.2.1 + 1, ((va_up x.2.2.2.2.2.2.1 4 (upd (x.2.2.2.2.2.2.1 4) x.2.2.2.1.toNatClampNeg v43)), x.2.2.2.2.2.2.2.1, x.2.2.2.2.2.2.2.2)) hf
          · rw [if_neg h41] at hf
            refine j_iload (pc := 85) C d_Mo_unfold_85 6 rfl ?_
            refine j_aload_n (pc := 87) C d_Mo_unfold_87 rfl 0 rfl ?_
            refine j_get (pc := 88) C d_Mo_unfold_88 0 9 wR_o0 rfl (v := .ref (ar 6)) rfl (by decide) tw951 ?_
            refine j_iload (pc := 91) C d_Mo_unfold_91 5 rfl ?_
            obtain ⟨b45, hf⟩ := og hf
            refine j_iald (pc := 93) C d_Mo_unfold_93 6 (inb_in b45) (x := x.2.2.2.2.2.2.1 6 x.2.2.2.2.1.toNatClampNeg) wR_a6 rfl ?_
            refine j_topi C (fun v46 ev46 => ?_)
            replace hf := ov ev46 hf
            refine j_icmp_ne (pc := 94) C d_Mo_unfold_94 (tgt := 199) rfl (fun h47 => ?_) (fun h47 => ?_)
            · rw [if_neg h47] at hf
              refine j_aload_n (pc := 199) C d_Mo_unfold_199 rfl 0 rfl ?_
              refine j_get (pc := 200) C d_Mo_unfold_200 0 6 wR_o0 rfl (v := .ref (ar 4)) rfl (by decide) tw948 ?_
              refine j_iload (pc := 203) C d_Mo_unfold_203 4 rfl ?_
              refine j_aload_n (pc := 205) C d_Mo_unfold_205 rfl 0 rfl ?_
              refine j_get (pc := 206) C d_Mo_unfold_206 0 2 wR_o0 rfl (v := .ref (ar 2)) rfl (by decide) tw944 ?_
              refine j_iload (pc := 209) C d_Mo_unfold_209 6 rfl ?_
              obtain ⟨b48, hf⟩ := og hf
              refine j_iald (pc := 211) C d_Mo_unfold_211 2 (inb_in b48) (x := x.2.2.2.2.2.2.1 2 x.2.2.2.2.2.1.toNatClampNeg) wR_a2 rfl ?_
              refine j_topi C (fun v49 ev49 => ?_)
              replace hf := ov ev49 hf
              obtain ⟨b50, hf⟩ := og hf
              refine j_iast (pc := 212) C d_Mo_unfold_212 4 (inb_in b50) wR_a4 (ws' := wR g ar (va_up x.2.2.2.2.2.2.1 4 (upd (x.2.2.2.2.2.2.1 4) x.2.2.2.1.toNatClampNeg v49)) x.2.2.2.2.2.2.2.1 x.2.2.2.2.2.2.2.2) wR_s4 ?_
              refine j_iinc (pc := 213) C d_Mo_unfold_213 4 rfl (v := x.2.2.2.1 + 1) (iv ci_1) [1, 2, 3, 4, 0, 5, 6] (by decide) (lc' := [(0, .ref (ar 0)), (1, .int x.1), (2, .int x.2.1), (3, .int x.2.2.1), (4, .int (x.2.2.2.1 + 1)), (5, .int x.2.2.2.2.1), (6, .int x.2.2.2.2.2.1)]) rfl ?_
              refine j_iinc (pc := 216) C d_Mo_unfold_216 6 rfl (v := x.2.2.2.2.2.1 + 1) (iv ci_1) [1, 2, 3, 4, 5, 6, 0] (by decide) (lc' := [(0, .ref (ar 0)), (1, .int x.1), (2, .int x.2.1), (3, .int x.2.2.1), (4, .int (x.2.2.2.1 + 1)), (5, .int x.2.2.2.2.1), (6, .int (x.2.2.2.2.2.1 + 1))]) rfl ?_
              refine j_goto (pc := 219) C d_Mo_unfold_219 (tgt := 9) rfl ?_
              exact k9_ih (x.1, x.2.1, x.2.2.1, x.2.2.2.1 + 1, x.2.2.2.2.1, x.2.2.2.2.2.1 + 1, ((va_up x.2.2.2.2.2.2.1 4 (upd (x.2.2.2.2.2.2.1 4) x.2.2.2.1.toNatClampNeg v49)), x.2.2.2.2.2.2.2.1, x.2.2.2.2.2.2.2.2)) hf
            · rw [if_pos h47] at hf
              refine j_aload_n (pc := 97) C d_Mo_unfold_97 rfl 0 rfl ?_
              refine j_get (pc := 98) C d_Mo_unfold_98 0 12 wR_o0 rfl (v := .ref (ar 9)) rfl (by decide) tw954 ?_
              refine j_iload (pc := 101) C d_Mo_unfold_101 5 rfl ?_
              obtain ⟨b51, hf⟩ := og hf
              refine j_iald (pc := 103) C d_Mo_unfold_103 9 (inb_in b51) (x := x.2.2.2.2.2.2.1 9 x.2.2.2.2.1.toNatClampNeg) wR_a9 rfl ?_
              refine j_topi C (fun v52 ev52 => ?_)
              replace hf := ov ev52 hf
              refine j_iconst (pc := 104) C d_Mo_unfold_104 ck_5 ?_
              refine j_icmp_ne (pc := 105) C d_Mo_unfold_105 (tgt := 199) rfl (fun h53 => ?_) (fun h53 => ?_)
              · rw [if_neg h53] at hf
                refine j_aload_n (pc := 199) C d_Mo_unfold_199 rfl 0 rfl ?_
                refine j_get (pc := 200) C d_Mo_unfold_200 0 6 wR_o0 rfl (v := .ref (ar 4)) rfl (by decide) tw948 ?_
                refine j_iload (pc := 203) C d_Mo_unfold_203 4 rfl ?_
                refine j_aload_n (pc := 205) C d_Mo_unfold_205 rfl 0 rfl ?_
                refine j_get (pc := 206) C d_Mo_unfold_206 0 2 wR_o0 rfl (v := .ref (ar 2)) rfl (by decide) tw944 ?_
                refine j_iload (pc := 209) C d_Mo_unfold_209 6 rfl ?_
                obtain ⟨b54, hf⟩ := og hf
                refine j_iald (pc := 211) C d_Mo_unfold_211 2 (inb_in b54) (x := x.2.2.2.2.2.2.1 2 x.2.2.2.2.2.1.toNatClampNeg) wR_a2 rfl ?_
                refine j_topi C (fun v55 ev55 => ?_)
                replace hf := ov ev55 hf
                obtain ⟨b56, hf⟩ := og hf
                refine j_iast (pc := 212) C d_Mo_unfold_212 4 (inb_in b56) wR_a4 (ws' := wR g ar (va_up x.2.2.2.2.2.2.1 4 (upd (x.2.2.2.2.2.2.1 4) x.2.2.2.1.toNatClampNeg v55)) x.2.2.2.2.2.2.2.1 x.2.2.2.2.2.2.2.2) wR_s4 ?_
                refine j_iinc (pc := 213) C d_Mo_unfold_213 4 rfl (v := x.2.2.2.1 + 1) (iv ci_1) [1, 2, 3, 4, 0, 5, 6] (by decide) (lc' := [(0, .ref (ar 0)), (1, .int x.1), (2, .int x.2.1), (3, .int x.2.2.1), (4, .int (x.2.2.2.1 + 1)), (5, .int x.2.2.2.2.1), (6, .int x.2.2.2.2.2.1)]) rfl ?_
                refine j_iinc (pc := 216) C d_Mo_unfold_216 6 rfl (v := x.2.2.2.2.2.1 + 1) (iv ci_1) [1, 2, 3, 4, 5, 6, 0] (by decide) (lc' := [(0, .ref (ar 0)), (1, .int x.1), (2, .int x.2.1), (3, .int x.2.2.1), (4, .int (x.2.2.2.1 + 1)), (5, .int x.2.2.2.2.1), (6, .int (x.2.2.2.2.2.1 + 1))]) rfl ?_
                refine j_goto (pc := 219) C d_Mo_unfold_219 (tgt := 9) rfl ?_
                exact k9_ih (x.1, x.2.1, x.2.2.1, x.2.2.2.1 + 1, x.2.2.2.2.1, x.2.2.2.2.2.1 + 1, ((va_up x.2.2.2.2.2.2.1 4 (upd (x.2.2.2.2.2.2.1 4) x.2.2.2.1.toNatClampNeg v55)), x.2.2.2.2.2.2.2.1, x.2.2.2.2.2.2.2.2)) hf
              · rw [if_pos h53] at hf
                refine j_aload_n (pc := 108) C d_Mo_unfold_108 rfl 0 rfl ?_
                refine j_get (pc := 109) C d_Mo_unfold_109 0 13 wR_o0 rfl (v := .ref (ar 10)) rfl (by decide) tw955 ?_
                refine j_iload (pc := 112) C d_Mo_unfold_112 5 rfl ?_
                obtain ⟨b57, hf⟩ := og hf
                refine j_iald (pc := 114) C d_Mo_unfold_114 10 (inb_in b57) (x := x.2.2.2.2.2.2.1 10 x.2.2.2.2.1.toNatClampNeg) wR_a10 rfl ?_
                refine j_topi C (fun v58 ev58 => ?_)
                replace hf := ov ev58 hf
                refine j_iload_n (pc := 115) C d_Mo_unfold_115 rfl 1 rfl ?_
                refine j_icmp_ne (pc := 116) C d_Mo_unfold_116 (tgt := 199) rfl (fun h59 => ?_) (fun h59 => ?_)
                · rw [if_neg h59] at hf
                  refine j_aload_n (pc := 199) C d_Mo_unfold_199 rfl 0 rfl ?_
                  refine j_get (pc := 200) C d_Mo_unfold_200 0 6 wR_o0 rfl (v := .ref (ar 4)) rfl (by decide) tw948 ?_
                  refine j_iload (pc := 203) C d_Mo_unfold_203 4 rfl ?_
                  refine j_aload_n (pc := 205) C d_Mo_unfold_205 rfl 0 rfl ?_
                  refine j_get (pc := 206) C d_Mo_unfold_206 0 2 wR_o0 rfl (v := .ref (ar 2)) rfl (by decide) tw944 ?_
                  refine j_iload (pc := 209) C d_Mo_unfold_209 6 rfl ?_
                  obtain ⟨b60, hf⟩ := og hf
                  refine j_iald (pc := 211) C d_Mo_unfold_211 2 (inb_in b60) (x := x.2.2.2.2.2.2.1 2 x.2.2.2.2.2.1.toNatClampNeg) wR_a2 rfl ?_
                  refine j_topi C (fun v61 ev61 => ?_)
                  replace hf := ov ev61 hf
                  obtain ⟨b62, hf⟩ := og hf
                  refine j_iast (pc := 212) C d_Mo_unfold_212 4 (inb_in b62) wR_a4 (ws' := wR g ar (va_up x.2.2.2.2.2.2.1 4 (upd (x.2.2.2.2.2.2.1 4) x.2.2.2.1.toNatClampNeg v61)) x.2.2.2.2.2.2.2.1 x.2.2.2.2.2.2.2.2) wR_s4 ?_
                  refine j_iinc (pc := 213) C d_Mo_unfold_213 4 rfl (v := x.2.2.2.1 + 1) (iv ci_1) [1, 2, 3, 4, 0, 5, 6] (by decide) (lc' := [(0, .ref (ar 0)), (1, .int x.1), (2, .int x.2.1), (3, .int x.2.2.1), (4, .int (x.2.2.2.1 + 1)), (5, .int x.2.2.2.2.1), (6, .int x.2.2.2.2.2.1)]) rfl ?_
                  refine j_iinc (pc := 216) C d_Mo_unfold_216 6 rfl (v := x.2.2.2.2.2.1 + 1) (iv ci_1) [1, 2, 3, 4, 5, 6, 0] (by decide) (lc' := [(0, .ref (ar 0)), (1, .int x.1), (2, .int x.2.1), (3, .int x.2.2.1), (4, .int (x.2.2.2.1 + 1)), (5, .int x.2.2.2.2.1), (6, .int (x.2.2.2.2.2.1 + 1))]) rfl ?_
                  refine j_goto (pc := 219) C d_Mo_unfold_219 (tgt := 9) rfl ?_
                  exact k9_ih (x.1, x.2.1, x.2.2.1, x.2.2.2.1 + 1, x.2.2.2.2.1, x.2.2.2.2.2.1 + 1, ((va_up x.2.2.2.2.2.2.1 4 (upd (x.2.2.2.2.2.2.1 4) x.2.2.2.1.toNatClampNeg v61)), x.2.2.2.2.2.2.2.1, x.2.2.2.2.2.2.2.2)) hf
                · rw [if_pos h59] at hf
                  refine j_aload_n (pc := 119) C d_Mo_unfold_119 rfl 0 rfl ?_
                  refine j_get (pc := 120) C d_Mo_unfold_120 0 6 wR_o0 rfl (v := .ref (ar 4)) rfl (by decide) tw948 ?_
                  refine j_iload (pc := 123) C d_Mo_unfold_123 4 rfl ?_
                  refine j_bipush (pc := 125) C d_Mo_unfold_125 cb_40 ?_
                  obtain ⟨b63, hf⟩ := og hf
                  refine j_iast (pc := 127) C d_Mo_unfold_127 4 (inb_in b63) wR_a4 (ws' := wR g ar (va_up x.2.2.2.2.2.2.1 4 (upd (x.2.2.2.2.2.2.1 4) x.2.2.2.1.toNatClampNeg 40)) x.2.2.2.2.2.2.2.1 x.2.2.2.2.2.2.2.2) wR_s4 ?_
                  refine j_iinc (pc := 128) C d_Mo_unfold_128 4 rfl (v := x.2.2.2.1 + 1) (iv ci_1) [1, 2, 3, 4, 0, 5, 6] (by decide) (lc' := [(0, .ref (ar 0)), (1, .int x.1), (2, .int x.2.1), (3, .int x.2.2.1), (4, .int (x.2.2.2.1 + 1)), (5, .int x.2.2.2.2.1), (6, .int x.2.2.2.2.2.1)]) rfl ?_
                  refine j_aload_n (pc := 131) C d_Mo_unfold_131 rfl 0 rfl ?_
                  refine j_get (pc := 132) C d_Mo_unfold_132 0 9 wR_o0 rfl (v := .ref (ar 6)) rfl (by decide) tw951 ?_
                  refine j_iload_n (pc := 135) C d_Mo_unfold_135 rfl 2 rfl ?_
                  obtain ⟨b64, hf⟩ := og hf
                  refine j_iald (pc := 136) C d_Mo_unfold_136 6 (inb_in b64) (x := x.2.2.2.2.2.2.1 6 x.2.1.toNatClampNeg) wR_a6 rfl ?_
                  refine j_istore (pc := 137) C d_Mo_unfold_137 [1, 2, 3, 4, 5, 6, 7, 0] (by decide) (lc' := [(0, .ref (ar 0)), (1, .int x.1), (2, .int x.2.1), (3, .int x.2.2.1), (4, .int (x.2.2.2.1 + 1)), (5, .int x.2.2.2.2.1), (6, .int x.2.2.2.2.2.1), (7, .int (x.2.2.2.2.2.2.1 6 x.2.1.toNatClampNeg))]) rfl ?_
                  exact L139 k9 k9_ih k18 k18_ih 100000 (x.1, x.2.1, x.2.2.1, x.2.2.2.1 + 1, x.2.2.2.2.1, x.2.2.2.2.2.1, x.2.2.2.2.2.2.1 6 x.2.1.toNatClampNeg, ((va_up x.2.2.2.2.2.2.1 4 (upd (x.2.2.2.2.2.2.1 4) x.2.2.2.1.toNatClampNeg 40)), x.2.2.2.2.2.2.2.1, x.2.2.2.2.2.2.2.2)) hf
        · rw [if_pos h40] at hf
          refine j_aload_n (pc := 65) C d_Mo_unfold_65 rfl 0 rfl ?_
          refine j_get (pc := 66) C d_Mo_unfold_66 0 10 wR_o0 rfl (v := .ref (ar 7)) rfl (by decide) tw952 ?_
          refine j_iload_n (pc := 69) C d_Mo_unfold_69 rfl 3 rfl ?_
          obtain ⟨b65, hf⟩ := og hf
          refine j_iald (pc := 70) C d_Mo_unfold_70 7 (inb_in b65) (x := x.2.2.2.2.2.2.1 7 x.2.2.1.toNatClampNeg) wR_a7 rfl ?_
          refine j_istore (pc := 71) C d_Mo_unfold_71 [1, 2, 3, 4, 5, 6, 0] (by decide) (lc' := [(0, .ref (ar 0)), (1, .int x.1), (2, .int x.2.1), (3, .int x.2.2.1), (4, .int x.2.2.2.1), (5, .int x.2.2.2.2.1), (6, .int (x.2.2.2.2.2.2.1 7 x.2.2.1.toNatClampNeg))]) rfl ?_
          refine j_goto (pc := 73) C d_Mo_unfold_73 (tgt := 9) rfl ?_
          exact k9_ih (x.1, x.2.1, x.2.2.1, x.2.2.2.1, x.2.2.2.2.1, x.2.2.2.2.2.2.1 7 x.2.2.1.toNatClampNeg, x.2.2.2.2.2.2) hf
    · rw [if_neg h3] at hf
      refine j_aload_n (pc := 27) C d_Mo_unfold_27 rfl 0 rfl ?_
      refine j_get (pc := 28) C d_Mo_unfold_28 0 10 wR_o0 rfl (v := .ref (ar 7)) rfl (by decide) tw952 ?_
      refine j_iload (pc := 31) C d_Mo_unfold_31 5 rfl ?_
      obtain ⟨b66, hf⟩ := og hf
      refine j_iald (pc := 33) C d_Mo_unfold_33 7 (inb_in b66) (x := x.2.2.2.2.2.2.1 7 x.2.2.2.2.1.toNatClampNeg) wR_a7 rfl ?_
      refine j_topi C (fun v67 ev67 => ?_)
      replace hf := ov ev67 hf
      refine j_iload (pc := 34) C d_Mo_unfold_34 6 rfl ?_
      refine j_icmp_gt (pc := 36) C d_Mo_unfold_36 (tgt := 45) rfl (fun h68 => ?_) (fun h68 => ?_)
      · rw [if_pos h68] at hf
        refine j_iload (pc := 45) C d_Mo_unfold_45 5 rfl ?_
        refine j_iload_n (pc := 47) C d_Mo_unfold_47 rfl 1 rfl ?_
        refine j_iconst (pc := 48) C d_Mo_unfold_48 ck_1 ?_
        refine j_isub (pc := 49) C d_Mo_unfold_49 ?_
        refine j_icmp_ne (pc := 50) C d_Mo_unfold_50 (tgt := 76) rfl (fun h69 => ?_) (fun h69 => ?_)
        · rw [if_neg h69] at hf
          refine j_iload (pc := 76) C d_Mo_unfold_76 5 rfl ?_
          refine j_aload_n (pc := 78) C d_Mo_unfold_78 rfl 0 rfl ?_
          refine j_get (pc := 79) C d_Mo_unfold_79 0 7 wR_o0 rfl (v := .int (x.2.2.2.2.2.2.2.1 3)) rfl (by decide) tw949 ?_
          refine j_icmp_ge (pc := 82) C d_Mo_unfold_82 (tgt := 199) rfl (fun h70 => ?_) (fun h70 => ?_)
          · rw [if_pos h70] at hf
            refine j_aload_n (pc := 199) C d_Mo_unfold_199 rfl 0 rfl ?_
            refine j_get (pc := 200) C d_Mo_unfold_200 0 6 wR_o0 rfl (v := .ref (ar 4)) rfl (by decide) tw948 ?_
            refine j_iload (pc := 203) C d_Mo_unfold_203 4 rfl ?_
            refine j_aload_n (pc := 205) C d_Mo_unfold_205 rfl 0 rfl ?_
            refine j_get (pc := 206) C d_Mo_unfold_206 0 2 wR_o0 rfl (v := .ref (ar 2)) rfl (by decide) tw944 ?_
            refine j_iload (pc := 209) C d_Mo_unfold_209 6 rfl ?_
            obtain ⟨b71, hf⟩ := og hf
            refine j_iald (pc := 211) C d_Mo_unfold_211 2 (inb_in b71) (x := x.2.2.2.2.2.2.1 2 x.2.2.2.2.2.1.toNatClampNeg) wR_a2 rfl ?_
            refine j_topi C (fun v72 ev72 => ?_)
            replace hf := ov ev72 hf
            obtain ⟨b73, hf⟩ := og hf
            refine j_iast (pc := 212) C d_Mo_unfold_212 4 (inb_in b73) wR_a4 (ws' := wR g ar (va_up x.2.2.2.2.2.2.1 4 (upd (x.2.2.2.2.2.2.1 4) x.2.2.2.1.toNatClampNeg v72)) x.2.2.2.2.2.2.2.1 x.2.2.2.2.2.2.2.2) wR_s4 ?_
            refine j_iinc (pc := 213) C d_Mo_unfold_213 4 rfl (v := x.2.2.2.1 + 1) (iv ci_1) [1, 2, 3, 4, 0, 5, 6] (by decide) (lc' := [(0, .ref (ar 0)), (1, .int x.1), (2, .int x.2.1), (3, .int x.2.2.1), (4, .int (x.2.2.2.1 + 1)), (5, .int x.2.2.2.2.1), (6, .int x.2.2.2.2.2.1)]) rfl ?_
            refine j_iinc (pc := 216) C d_Mo_unfold_216 6 rfl (v := x.2.2.2.2.2.1 + 1) (iv ci_1) [1, 2, 3, 4, 5, 6, 0] (by decide) (lc' := [(0, .ref (ar 0)), (1, .int x.1), (2, .int x.2.1), (3, .int x.2.2.1), (4, .int (x.2.2.2.1 + 1)), (5, .int x.2.2.2.2.1), (6, .int (x.2.2.2.2.2.1 + 1))]) rfl ?_
            refine j_goto (pc := 219) C d_Mo_unfold_219 (tgt := 9) rfl ?_
            exact k9_ih (x.1, x.2.1, x.2.2.1, x.2.2.2.1 + 1, x.2.2.2.2.1, x.2.2.2.2.2.1 + 1, ((va_up x.2.2.2.2.2.2.1 4 (upd (x.2.2.2.2.2.2.1 4) x.2.2.2.1.toNatClampNeg v72)), x.2.2.2.2.2.2.2.1, x.2.2.2.2.2.2.2.2)) hf
          · rw [if_neg h70] at hf
            refine j_iload (pc := 85) C d_Mo_unfold_85 6 rfl ?_
            refine j_aload_n (pc := 87) C d_Mo_unfold_87 rfl 0 rfl ?_
            refine j_get (pc := 88) C d_Mo_unfold_88 0 9 wR_o0 rfl (v := .ref (ar 6)) rfl (by decide) tw951 ?_
            refine j_iload (pc := 91) C d_Mo_unfold_91 5 rfl ?_
            obtain ⟨b74, hf⟩ := og hf
            refine j_iald (pc := 93) C d_Mo_unfold_93 6 (inb_in b74) (x := x.2.2.2.2.2.2.1 6 x.2.2.2.2.1.toNatClampNeg) wR_a6 rfl ?_
            refine j_topi C (fun v75 ev75 => ?_)
            replace hf := ov ev75 hf
            refine j_icmp_ne (pc := 94) C d_Mo_unfold_94 (tgt := 199) rfl (fun h76 => ?_) (fun h76 => ?_)
            · rw [if_neg h76] at hf
              refine j_aload_n (pc := 199) C d_Mo_unfold_199 rfl 0 rfl ?_
              refine j_get (pc := 200) C d_Mo_unfold_200 0 6 wR_o0 rfl (v := .ref (ar 4)) rfl (by decide) tw948 ?_
              refine j_iload (pc := 203) C d_Mo_unfold_203 4 rfl ?_
              refine j_aload_n (pc := 205) C d_Mo_unfold_205 rfl 0 rfl ?_
              refine j_get (pc := 206) C d_Mo_unfold_206 0 2 wR_o0 rfl (v := .ref (ar 2)) rfl (by decide) tw944 ?_
              refine j_iload (pc := 209) C d_Mo_unfold_209 6 rfl ?_
              obtain ⟨b77, hf⟩ := og hf
              refine j_iald (pc := 211) C d_Mo_unfold_211 2 (inb_in b77) (x := x.2.2.2.2.2.2.1 2 x.2.2.2.2.2.1.toNatClampNeg) wR_a2 rfl ?_
              refine j_topi C (fun v78 ev78 => ?_)
              replace hf := ov ev78 hf
              obtain ⟨b79, hf⟩ := og hf
              refine j_iast (pc := 212) C d_Mo_unfold_212 4 (inb_in b79) wR_a4 (ws' := wR g ar (va_up x.2.2.2.2.2.2.1 4 (upd (x.2.2.2.2.2.2.1 4) x.2.2.2.1.toNatClampNeg v78)) x.2.2.2.2.2.2.2.1 x.2.2.2.2.2.2.2.2) wR_s4 ?_
              refine j_iinc (pc := 213) C d_Mo_unfold_213 4 rfl (v := x.2.2.2.1 + 1) (iv ci_1) [1, 2, 3, 4, 0, 5, 6] (by decide) (lc' := [(0, .ref (ar 0)), (1, .int x.1), (2, .int x.2.1), (3, .int x.2.2.1), (4, .int (x.2.2.2.1 + 1)), (5, .int x.2.2.2.2.1), (6, .int x.2.2.2.2.2.1)]) rfl ?_
              refine j_iinc (pc := 216) C d_Mo_unfold_216 6 rfl (v := x.2.2.2.2.2.1 + 1) (iv ci_1) [1, 2, 3, 4, 5, 6, 0] (by decide) (lc' := [(0, .ref (ar 0)), (1, .int x.1), (2, .int x.2.1), (3, .int x.2.2.1), (4, .int (x.2.2.2.1 + 1)), (5, .int x.2.2.2.2.1), (6, .int (x.2.2.2.2.2.1 + 1))]) rfl ?_
              refine j_goto (pc := 219) C d_Mo_unfold_219 (tgt := 9) rfl ?_
              exact k9_ih (x.1, x.2.1, x.2.2.1, x.2.2.2.1 + 1, x.2.2.2.2.1, x.2.2.2.2.2.1 + 1, ((va_up x.2.2.2.2.2.2.1 4 (upd (x.2.2.2.2.2.2.1 4) x.2.2.2.1.toNatClampNeg v78)), x.2.2.2.2.2.2.2.1, x.2.2.2.2.2.2.2.2)) hf
            · rw [if_pos h76] at hf
              refine j_aload_n (pc := 97) C d_Mo_unfold_97 rfl 0 rfl ?_
              refine j_get (pc := 98) C d_Mo_unfold_98 0 12 wR_o0 rfl (v := .ref (ar 9)) rfl (by decide) tw954 ?_
              refine j_iload (pc := 101) C d_Mo_unfold_101 5 rfl ?_
              obtain ⟨b80, hf⟩ := og hf
              refine j_iald (pc := 103) C d_Mo_unfold_103 9 (inb_in b80) (x := x.2.2.2.2.2.2.1 9 x.2.2.2.2.1.toNatClampNeg) wR_a9 rfl ?_
              refine j_topi C (fun v81 ev81 => ?_)
              replace hf := ov ev81 hf
              refine j_iconst (pc := 104) C d_Mo_unfold_104 ck_5 ?_
              refine j_icmp_ne (pc := 105) C d_Mo_unfold_105 (tgt := 199) rfl (fun h82 => ?_) (fun h82 => ?_)
              · rw [if_neg h82] at hf
                refine j_aload_n (pc := 199) C d_Mo_unfold_199 rfl 0 rfl ?_
                refine j_get (pc := 200) C d_Mo_unfold_200 0 6 wR_o0 rfl (v := .ref (ar 4)) rfl (by decide) tw948 ?_
                refine j_iload (pc := 203) C d_Mo_unfold_203 4 rfl ?_
                refine j_aload_n (pc := 205) C d_Mo_unfold_205 rfl 0 rfl ?_
                refine j_get (pc := 206) C d_Mo_unfold_206 0 2 wR_o0 rfl (v := .ref (ar 2)) rfl (by decide) tw944 ?_
                refine j_iload (pc := 209) C d_Mo_unfold_209 6 rfl ?_
                obtain ⟨b83, hf⟩ := og hf
                refine j_iald (pc := 211) C d_Mo_unfold_211 2 (inb_in b83) (x := x.2.2.2.2.2.2.1 2 x.2.2.2.2.2.1.toNatClampNeg) wR_a2 rfl ?_
                refine j_topi C (fun v84 ev84 => ?_)
                replace hf := ov ev84 hf
                obtain ⟨b85, hf⟩ := og hf
                refine j_iast (pc := 212) C d_Mo_unfold_212 4 (inb_in b85) wR_a4 (ws' := wR g ar (va_up x.2.2.2.2.2.2.1 4 (upd (x.2.2.2.2.2.2.1 4) x.2.2.2.1.toNatClampNeg v84)) x.2.2.2.2.2.2.2.1 x.2.2.2.2.2.2.2.2) wR_s4 ?_
                refine j_iinc (pc := 213) C d_Mo_unfold_213 4 rfl (v := x.2.2.2.1 + 1) (iv ci_1) [1, 2, 3, 4, 0, 5, 6] (by decide) (lc' := [(0, .ref (ar 0)), (1, .int x.1), (2, .int x.2.1), (3, .int x.2.2.1), (4, .int (x.2.2.2.1 + 1)), (5, .int x.2.2.2.2.1), (6, .int x.2.2.2.2.2.1)]) rfl ?_
                refine j_iinc (pc := 216) C d_Mo_unfold_216 6 rfl (v := x.2.2.2.2.2.1 + 1) (iv ci_1) [1, 2, 3, 4, 5, 6, 0] (by decide) (lc' := [(0, .ref (ar 0)), (1, .int x.1), (2, .int x.2.1), (3, .int x.2.2.1), (4, .int (x.2.2.2.1 + 1)), (5, .int x.2.2.2.2.1), (6, .int (x.2.2.2.2.2.1 + 1))]) rfl ?_
                refine j_goto (pc := 219) C d_Mo_unfold_219 (tgt := 9) rfl ?_
                exact k9_ih (x.1, x.2.1, x.2.2.1, x.2.2.2.1 + 1, x.2.2.2.2.1, x.2.2.2.2.2.1 + 1, ((va_up x.2.2.2.2.2.2.1 4 (upd (x.2.2.2.2.2.2.1 4) x.2.2.2.1.toNatClampNeg v84)), x.2.2.2.2.2.2.2.1, x.2.2.2.2.2.2.2.2)) hf
              · rw [if_pos h82] at hf
                refine j_aload_n (pc := 108) C d_Mo_unfold_108 rfl 0 rfl ?_
                refine j_get (pc := 109) C d_Mo_unfold_109 0 13 wR_o0 rfl (v := .ref (ar 10)) rfl (by decide) tw955 ?_
                refine j_iload (pc := 112) C d_Mo_unfold_112 5 rfl ?_
                obtain ⟨b86, hf⟩ := og hf
                refine j_iald (pc := 114) C d_Mo_unfold_114 10 (inb_in b86) (x := x.2.2.2.2.2.2.1 10 x.2.2.2.2.1.toNatClampNeg) wR_a10 rfl ?_
                refine j_topi C (fun v87 ev87 => ?_)
                replace hf := ov ev87 hf
                refine j_iload_n (pc := 115) C d_Mo_unfold_115 rfl 1 rfl ?_
                refine j_icmp_ne (pc := 116) C d_Mo_unfold_116 (tgt := 199) rfl (fun h88 => ?_) (fun h88 => ?_)
                · rw [if_neg h88] at hf
                  refine j_aload_n (pc := 199) C d_Mo_unfold_199 rfl 0 rfl ?_
                  refine j_get (pc := 200) C d_Mo_unfold_200 0 6 wR_o0 rfl (v := .ref (ar 4)) rfl (by decide) tw948 ?_
                  refine j_iload (pc := 203) C d_Mo_unfold_203 4 rfl ?_
                  refine j_aload_n (pc := 205) C d_Mo_unfold_205 rfl 0 rfl ?_
                  refine j_get (pc := 206) C d_Mo_unfold_206 0 2 wR_o0 rfl (v := .ref (ar 2)) rfl (by decide) tw944 ?_
                  refine j_iload (pc := 209) C d_Mo_unfold_209 6 rfl ?_
                  obtain ⟨b89, hf⟩ := og hf
                  refine j_iald (pc := 211) C d_Mo_unfold_211 2 (inb_in b89) (x := x.2.2.2.2.2.2.1 2 x.2.2.2.2.2.1.toNatClampNeg) wR_a2 rfl ?_
                  refine j_topi C (fun v90 ev90 => ?_)
                  replace hf := ov ev90 hf
                  obtain ⟨b91, hf⟩ := og hf
                  refine j_iast (pc := 212) C d_Mo_unfold_212 4 (inb_in b91) wR_a4 (ws' := wR g ar (va_up x.2.2.2.2.2.2.1 4 (upd (x.2.2.2.2.2.2.1 4) x.2.2.2.1.toNatClampNeg v90)) x.2.2.2.2.2.2.2.1 x.2.2.2.2.2.2.2.2) wR_s4 ?_
                  refine j_iinc (pc := 213) C d_Mo_unfold_213 4 rfl (v := x.2.2.2.1 + 1) (iv ci_1) [1, 2, 3, 4, 0, 5, 6] (by decide) (lc' := [(0, .ref (ar 0)), (1, .int x.1), (2, .int x.2.1), (3, .int x.2.2.1), (4, .int (x.2.2.2.1 + 1)), (5, .int x.2.2.2.2.1), (6, .int x.2.2.2.2.2.1)]) rfl ?_
                  refine j_iinc (pc := 216) C d_Mo_unfold_216 6 rfl (v := x.2.2.2.2.2.1 + 1) (iv ci_1) [1, 2, 3, 4, 5, 6, 0] (by decide) (lc' := [(0, .ref (ar 0)), (1, .int x.1), (2, .int x.2.1), (3, .int x.2.2.1), (4, .int (x.2.2.2.1 + 1)), (5, .int x.2.2.2.2.1), (6, .int (x.2.2.2.2.2.1 + 1))]) rfl ?_
                  refine j_goto (pc := 219) C d_Mo_unfold_219 (tgt := 9) rfl ?_
                  exact k9_ih (x.1, x.2.1, x.2.2.1, x.2.2.2.1 + 1, x.2.2.2.2.1, x.2.2.2.2.2.1 + 1, ((va_up x.2.2.2.2.2.2.1 4 (upd (x.2.2.2.2.2.2.1 4) x.2.2.2.1.toNatClampNeg v90)), x.2.2.2.2.2.2.2.1, x.2.2.2.2.2.2.2.2)) hf
                · rw [if_pos h88] at hf
                  refine j_aload_n (pc := 119) C d_Mo_unfold_119 rfl 0 rfl ?_
                  refine j_get (pc := 120) C d_Mo_unfold_120 0 6 wR_o0 rfl (v := .ref (ar 4)) rfl (by decide) tw948 ?_
                  refine j_iload (pc := 123) C d_Mo_unfold_123 4 rfl ?_
                  refine j_bipush (pc := 125) C d_Mo_unfold_125 cb_40 ?_
                  obtain ⟨b92, hf⟩ := og hf
                  refine j_iast (pc := 127) C d_Mo_unfold_127 4 (inb_in b92) wR_a4 (ws' := wR g ar (va_up x.2.2.2.2.2.2.1 4 (upd (x.2.2.2.2.2.2.1 4) x.2.2.2.1.toNatClampNeg 40)) x.2.2.2.2.2.2.2.1 x.2.2.2.2.2.2.2.2) wR_s4 ?_
                  refine j_iinc (pc := 128) C d_Mo_unfold_128 4 rfl (v := x.2.2.2.1 + 1) (iv ci_1) [1, 2, 3, 4, 0, 5, 6] (by decide) (lc' := [(0, .ref (ar 0)), (1, .int x.1), (2, .int x.2.1), (3, .int x.2.2.1), (4, .int (x.2.2.2.1 + 1)), (5, .int x.2.2.2.2.1), (6, .int x.2.2.2.2.2.1)]) rfl ?_
                  refine j_aload_n (pc := 131) C d_Mo_unfold_131 rfl 0 rfl ?_
                  refine j_get (pc := 132) C d_Mo_unfold_132 0 9 wR_o0 rfl (v := .ref (ar 6)) rfl (by decide) tw951 ?_
                  refine j_iload_n (pc := 135) C d_Mo_unfold_135 rfl 2 rfl ?_
                  obtain ⟨b93, hf⟩ := og hf
                  refine j_iald (pc := 136) C d_Mo_unfold_136 6 (inb_in b93) (x := x.2.2.2.2.2.2.1 6 x.2.1.toNatClampNeg) wR_a6 rfl ?_
                  refine j_istore (pc := 137) C d_Mo_unfold_137 [1, 2, 3, 4, 5, 6, 7, 0] (by decide) (lc' := [(0, .ref (ar 0)), (1, .int x.1), (2, .int x.2.1), (3, .int x.2.2.1), (4, .int (x.2.2.2.1 + 1)), (5, .int x.2.2.2.2.1), (6, .int x.2.2.2.2.2.1), (7, .int (x.2.2.2.2.2.2.1 6 x.2.1.toNatClampNeg))]) rfl ?_
                  exact L139 k9 k9_ih k18 k18_ih 100000 (x.1, x.2.1, x.2.2.1, x.2.2.2.1 + 1, x.2.2.2.2.1, x.2.2.2.2.2.1, x.2.2.2.2.2.2.1 6 x.2.1.toNatClampNeg, ((va_up x.2.2.2.2.2.2.1 4 (upd (x.2.2.2.2.2.2.1 4) x.2.2.2.1.toNatClampNeg 40)), x.2.2.2.2.2.2.2.1, x.2.2.2.2.2.2.2.2)) hf
        · rw [if_pos h69] at hf
          refine j_iload (pc := 53) C d_Mo_unfold_53 6 rfl ?_
          refine j_aload_n (pc := 55) C d_Mo_unfold_55 rfl 0 rfl ?_
          refine j_get (pc := 56) C d_Mo_unfold_56 0 9 wR_o0 rfl (v := .ref (ar 6)) rfl (by decide) tw951 ?_
          refine j_iload (pc := 59) C d_Mo_unfold_59 5 rfl ?_
          obtain ⟨b94, hf⟩ := og hf
          refine j_iald (pc := 61) C d_Mo_unfold_61 6 (inb_in b94) (x := x.2.2.2.2.2.2.1 6 x.2.2.2.2.1.toNatClampNeg) wR_a6 rfl ?_
          refine j_topi C (fun v95 ev95 => ?_)
          replace hf := ov ev95 hf
          refine j_icmp_ne (pc := 62) C d_Mo_unfold_62 (tgt := 76) rfl (fun h96 => ?_) (fun h96 => ?_)
          · rw [if_neg h96] at hf
            refine j_iload (pc := 76) C d_Mo_unfold_76 5 rfl ?_
            refine j_aload_n (pc := 78) C d_Mo_unfold_78 rfl 0 rfl ?_
            refine j_get (pc := 79) C d_Mo_unfold_79 0 7 wR_o0 rfl (v := .int (x.2.2.2.2.2.2.2.1 3)) rfl (by decide) tw949 ?_
            refine j_icmp_ge (pc := 82) C d_Mo_unfold_82 (tgt := 199) rfl (fun h97 => ?_) (fun h97 => ?_)
            · rw [if_pos h97] at hf
              refine j_aload_n (pc := 199) C d_Mo_unfold_199 rfl 0 rfl ?_
              refine j_get (pc := 200) C d_Mo_unfold_200 0 6 wR_o0 rfl (v := .ref (ar 4)) rfl (by decide) tw948 ?_
              refine j_iload (pc := 203) C d_Mo_unfold_203 4 rfl ?_
              refine j_aload_n (pc := 205) C d_Mo_unfold_205 rfl 0 rfl ?_
              refine j_get (pc := 206) C d_Mo_unfold_206 0 2 wR_o0 rfl (v := .ref (ar 2)) rfl (by decide) tw944 ?_
              refine j_iload (pc := 209) C d_Mo_unfold_209 6 rfl ?_
              obtain ⟨b98, hf⟩ := og hf
              refine j_iald (pc := 211) C d_Mo_unfold_211 2 (inb_in b98) (x := x.2.2.2.2.2.2.1 2 x.2.2.2.2.2.1.toNatClampNeg) wR_a2 rfl ?_
              refine j_topi C (fun v99 ev99 => ?_)
              replace hf := ov ev99 hf
              obtain ⟨b100, hf⟩ := og hf
              refine j_iast (pc := 212) C d_Mo_unfold_212 4 (inb_in b100) wR_a4 (ws' := wR g ar (va_up x.2.2.2.2.2.2.1 4 (upd (x.2.2.2.2.2.2.1 4) x.2.2.2.1.toNatClampNeg v99)) x.2.2.2.2.2.2.2.1 x.2.2.2.2.2.2.2.2) wR_s4 ?_
              refine j_iinc (pc := 213) C d_Mo_unfold_213 4 rfl (v := x.2.2.2.1 + 1) (iv ci_1) [1, 2, 3, 4, 0, 5, 6] (by decide) (lc' := [(0, .ref (ar 0)), (1, .int x.1), (2, .int x.2.1), (3, .int x.2.2.1), (4, .int (x.2.2.2.1 + 1)), (5, .int x.2.2.2.2.1), (6, .int x.2.2.2.2.2.1)]) rfl ?_
              refine j_iinc (pc := 216) C d_Mo_unfold_216 6 rfl (v := x.2.2.2.2.2.1 + 1) (iv ci_1) [1, 2, 3, 4, 5, 6, 0] (by decide) (lc' := [(0, .ref (ar 0)), (1, .int x.1), (2, .int x.2.1), (3, .int x.2.2.1), (4, .int (x.2.2.2.1 + 1)), (5, .int x.2.2.2.2.1), (6, .int (x.2.2.2.2.2.1 + 1))]) rfl ?_
              refine j_goto (pc := 219) C d_Mo_unfold_219 (tgt := 9) rfl ?_
              exact k9_ih (x.1, x.2.1, x.2.2.1, x.2.2.2.1 + 1, x.2.2.2.2.1, x.2.2.2.2.2.1 + 1, ((va_up x.2.2.2.2.2.2.1 4 (upd (x.2.2.2.2.2.2.1 4) x.2.2.2.1.toNatClampNeg v99)), x.2.2.2.2.2.2.2.1, x.2.2.2.2.2.2.2.2)) hf
            · rw [if_neg h97] at hf
              refine j_iload (pc := 85) C d_Mo_unfold_85 6 rfl ?_
              refine j_aload_n (pc := 87) C d_Mo_unfold_87 rfl 0 rfl ?_
              refine j_get (pc := 88) C d_Mo_unfold_88 0 9 wR_o0 rfl (v := .ref (ar 6)) rfl (by decide) tw951 ?_
              refine j_iload (pc := 91) C d_Mo_unfold_91 5 rfl ?_
              obtain ⟨b101, hf⟩ := og hf
              refine j_iald (pc := 93) C d_Mo_unfold_93 6 (inb_in b101) (x := x.2.2.2.2.2.2.1 6 x.2.2.2.2.1.toNatClampNeg) wR_a6 rfl ?_
              refine j_topi C (fun v102 ev102 => ?_)
              replace hf := ov ev102 hf
              refine j_icmp_ne (pc := 94) C d_Mo_unfold_94 (tgt := 199) rfl (fun h103 => ?_) (fun h103 => ?_)
              · rw [if_neg h103] at hf
                refine j_aload_n (pc := 199) C d_Mo_unfold_199 rfl 0 rfl ?_
                refine j_get (pc := 200) C d_Mo_unfold_200 0 6 wR_o0 rfl (v := .ref (ar 4)) rfl (by decide) tw948 ?_
                refine j_iload (pc := 203) C d_Mo_unfold_203 4 rfl ?_
                refine j_aload_n (pc := 205) C d_Mo_unfold_205 rfl 0 rfl ?_
                refine j_get (pc := 206) C d_Mo_unfold_206 0 2 wR_o0 rfl (v := .ref (ar 2)) rfl (by decide) tw944 ?_
                refine j_iload (pc := 209) C d_Mo_unfold_209 6 rfl ?_
                obtain ⟨b104, hf⟩ := og hf
                refine j_iald (pc := 211) C d_Mo_unfold_211 2 (inb_in b104) (x := x.2.2.2.2.2.2.1 2 x.2.2.2.2.2.1.toNatClampNeg) wR_a2 rfl ?_
                refine j_topi C (fun v105 ev105 => ?_)
                replace hf := ov ev105 hf
                obtain ⟨b106, hf⟩ := og hf
                refine j_iast (pc := 212) C d_Mo_unfold_212 4 (inb_in b106) wR_a4 (ws' := wR g ar (va_up x.2.2.2.2.2.2.1 4 (upd (x.2.2.2.2.2.2.1 4) x.2.2.2.1.toNatClampNeg v105)) x.2.2.2.2.2.2.2.1 x.2.2.2.2.2.2.2.2) wR_s4 ?_
                refine j_iinc (pc := 213) C d_Mo_unfold_213 4 rfl (v := x.2.2.2.1 + 1) (iv ci_1) [1, 2, 3, 4, 0, 5, 6] (by decide) (lc' := [(0, .ref (ar 0)), (1, .int x.1), (2, .int x.2.1), (3, .int x.2.2.1), (4, .int (x.2.2.2.1 + 1)), (5, .int x.2.2.2.2.1), (6, .int x.2.2.2.2.2.1)]) rfl ?_
                refine j_iinc (pc := 216) C d_Mo_unfold_216 6 rfl (v := x.2.2.2.2.2.1 + 1) (iv ci_1) [1, 2, 3, 4, 5, 6, 0] (by decide) (lc' := [(0, .ref (ar 0)), (1, .int x.1), (2, .int x.2.1), (3, .int x.2.2.1), (4, .int (x.2.2.2.1 + 1)), (5, .int x.2.2.2.2.1), (6, .int (x.2.2.2.2.2.1 + 1))]) rfl ?_
                refine j_goto (pc := 219) C d_Mo_unfold_219 (tgt := 9) rfl ?_
                exact k9_ih (x.1, x.2.1, x.2.2.1, x.2.2.2.1 + 1, x.2.2.2.2.1, x.2.2.2.2.2.1 + 1, ((va_up x.2.2.2.2.2.2.1 4 (upd (x.2.2.2.2.2.2.1 4) x.2.2.2.1.toNatClampNeg v105)), x.2.2.2.2.2.2.2.1, x.2.2.2.2.2.2.2.2)) hf
              · rw [if_pos h103] at hf
                refine j_aload_n (pc := 97) C d_Mo_unfold_97 rfl 0 rfl ?_
                refine j_get (pc := 98) C d_Mo_unfold_98 0 12 wR_o0 rfl (v := .ref (ar 9)) rfl (by decide) tw954 ?_
                refine j_iload (pc := 101) C d_Mo_unfold_101 5 rfl ?_
                obtain ⟨b107, hf⟩ := og hf
                refine j_iald (pc := 103) C d_Mo_unfold_103 9 (inb_in b107) (x := x.2.2.2.2.2.2.1 9 x.2.2.2.2.1.toNatClampNeg) wR_a9 rfl ?_
                refine j_topi C (fun v108 ev108 => ?_)
                replace hf := ov ev108 hf
                refine j_iconst (pc := 104) C d_Mo_unfold_104 ck_5 ?_
                refine j_icmp_ne (pc := 105) C d_Mo_unfold_105 (tgt := 199) rfl (fun h109 => ?_) (fun h109 => ?_)
                · rw [if_neg h109] at hf
                  refine j_aload_n (pc := 199) C d_Mo_unfold_199 rfl 0 rfl ?_
                  refine j_get (pc := 200) C d_Mo_unfold_200 0 6 wR_o0 rfl (v := .ref (ar 4)) rfl (by decide) tw948 ?_
                  refine j_iload (pc := 203) C d_Mo_unfold_203 4 rfl ?_
                  refine j_aload_n (pc := 205) C d_Mo_unfold_205 rfl 0 rfl ?_
                  refine j_get (pc := 206) C d_Mo_unfold_206 0 2 wR_o0 rfl (v := .ref (ar 2)) rfl (by decide) tw944 ?_
                  refine j_iload (pc := 209) C d_Mo_unfold_209 6 rfl ?_
                  obtain ⟨b110, hf⟩ := og hf
                  refine j_iald (pc := 211) C d_Mo_unfold_211 2 (inb_in b110) (x := x.2.2.2.2.2.2.1 2 x.2.2.2.2.2.1.toNatClampNeg) wR_a2 rfl ?_
                  refine j_topi C (fun v111 ev111 => ?_)
                  replace hf := ov ev111 hf
                  obtain ⟨b112, hf⟩ := og hf
                  refine j_iast (pc := 212) C d_Mo_unfold_212 4 (inb_in b112) wR_a4 (ws' := wR g ar (va_up x.2.2.2.2.2.2.1 4 (upd (x.2.2.2.2.2.2.1 4) x.2.2.2.1.toNatClampNeg v111)) x.2.2.2.2.2.2.2.1 x.2.2.2.2.2.2.2.2) wR_s4 ?_
                  refine j_iinc (pc := 213) C d_Mo_unfold_213 4 rfl (v := x.2.2.2.1 + 1) (iv ci_1) [1, 2, 3, 4, 0, 5, 6] (by decide) (lc' := [(0, .ref (ar 0)), (1, .int x.1), (2, .int x.2.1), (3, .int x.2.2.1), (4, .int (x.2.2.2.1 + 1)), (5, .int x.2.2.2.2.1), (6, .int x.2.2.2.2.2.1)]) rfl ?_
                  refine j_iinc (pc := 216) C d_Mo_unfold_216 6 rfl (v := x.2.2.2.2.2.1 + 1) (iv ci_1) [1, 2, 3, 4, 5, 6, 0] (by decide) (lc' := [(0, .ref (ar 0)), (1, .int x.1), (2, .int x.2.1), (3, .int x.2.2.1), (4, .int (x.2.2.2.1 + 1)), (5, .int x.2.2.2.2.1), (6, .int (x.2.2.2.2.2.1 + 1))]) rfl ?_
                  refine j_goto (pc := 219) C d_Mo_unfold_219 (tgt := 9) rfl ?_
                  exact k9_ih (x.1, x.2.1, x.2.2.1, x.2.2.2.1 + 1, x.2.2.2.2.1, x.2.2.2.2.2.1 + 1, ((va_up x.2.2.2.2.2.2.1 4 (upd (x.2.2.2.2.2.2.1 4) x.2.2.2.1.toNatClampNeg v111)), x.2.2.2.2.2.2.2.1, x.2.2.2.2.2.2.2.2)) hf
                · rw [if_pos h109] at hf
                  refine j_aload_n (pc := 108) C d_Mo_unfold_108 rfl 0 rfl ?_
                  refine j_get (pc := 109) C d_Mo_unfold_109 0 13 wR_o0 rfl (v := .ref (ar 10)) rfl (by decide) tw955 ?_
                  refine j_iload (pc := 112) C d_Mo_unfold_112 5 rfl ?_
                  obtain ⟨b113, hf⟩ := og hf
                  refine j_iald (pc := 114) C d_Mo_unfold_114 10 (inb_in b113) (x := x.2.2.2.2.2.2.1 10 x.2.2.2.2.1.toNatClampNeg) wR_a10 rfl ?_
                  refine j_topi C (fun v114 ev114 => ?_)
                  replace hf := ov ev114 hf
                  refine j_iload_n (pc := 115) C d_Mo_unfold_115 rfl 1 rfl ?_
                  refine j_icmp_ne (pc := 116) C d_Mo_unfold_116 (tgt := 199) rfl (fun h115 => ?_) (fun h115 => ?_)
                  · rw [if_neg h115] at hf
                    refine j_aload_n (pc := 199) C d_Mo_unfold_199 rfl 0 rfl ?_
                    refine j_get (pc := 200) C d_Mo_unfold_200 0 6 wR_o0 rfl (v := .ref (ar 4)) rfl (by decide) tw948 ?_
                    refine j_iload (pc := 203) C d_Mo_unfold_203 4 rfl ?_
                    refine j_aload_n (pc := 205) C d_Mo_unfold_205 rfl 0 rfl ?_
                    refine j_get (pc := 206) C d_Mo_unfold_206 0 2 wR_o0 rfl (v := .ref (ar 2)) rfl (by decide) tw944 ?_
                    refine j_iload (pc := 209) C d_Mo_unfold_209 6 rfl ?_
                    obtain ⟨b116, hf⟩ := og hf
                    refine j_iald (pc := 211) C d_Mo_unfold_211 2 (inb_in b116) (x := x.2.2.2.2.2.2.1 2 x.2.2.2.2.2.1.toNatClampNeg) wR_a2 rfl ?_
                    refine j_topi C (fun v117 ev117 => ?_)
                    replace hf := ov ev117 hf
                    obtain ⟨b118, hf⟩ := og hf
                    refine j_iast (pc := 212) C d_Mo_unfold_212 4 (inb_in b118) wR_a4 (ws' := wR g ar (va_up x.2.2.2.2.2.2.1 4 (upd (x.2.2.2.2.2.2.1 4) x.2.2.2.1.toNatClampNeg v117)) x.2.2.2.2.2.2.2.1 x.2.2.2.2.2.2.2.2) wR_s4 ?_
                    refine j_iinc (pc := 213) C d_Mo_unfold_213 4 rfl (v := x.2.2.2.1 + 1) (iv ci_1) [1, 2, 3, 4, 0, 5, 6] (by decide) (lc' := [(0, .ref (ar 0)), (1, .int x.1), (2, .int x.2.1), (3, .int x.2.2.1), (4, .int (x.2.2.2.1 + 1)), (5, .int x.2.2.2.2.1), (6, .int x.2.2.2.2.2.1)]) rfl ?_
                    refine j_iinc (pc := 216) C d_Mo_unfold_216 6 rfl (v := x.2.2.2.2.2.1 + 1) (iv ci_1) [1, 2, 3, 4, 5, 6, 0] (by decide) (lc' := [(0, .ref (ar 0)), (1, .int x.1), (2, .int x.2.1), (3, .int x.2.2.1), (4, .int (x.2.2.2.1 + 1)), (5, .int x.2.2.2.2.1), (6, .int (x.2.2.2.2.2.1 + 1))]) rfl ?_
                    refine j_goto (pc := 219) C d_Mo_unfold_219 (tgt := 9) rfl ?_
                    exact k9_ih (x.1, x.2.1, x.2.2.1, x.2.2.2.1 + 1, x.2.2.2.2.1, x.2.2.2.2.2.1 + 1, ((va_up x.2.2.2.2.2.2.1 4 (upd (x.2.2.2.2.2.2.1 4) x.2.2.2.1.toNatClampNeg v117)), x.2.2.2.2.2.2.2.1, x.2.2.2.2.2.2.2.2)) hf
                  · rw [if_pos h115] at hf
                    refine j_aload_n (pc := 119) C d_Mo_unfold_119 rfl 0 rfl ?_
                    refine j_get (pc := 120) C d_Mo_unfold_120 0 6 wR_o0 rfl (v := .ref (ar 4)) rfl (by decide) tw948 ?_
                    refine j_iload (pc := 123) C d_Mo_unfold_123 4 rfl ?_
                    refine j_bipush (pc := 125) C d_Mo_unfold_125 cb_40 ?_
                    obtain ⟨b119, hf⟩ := og hf
                    refine j_iast (pc := 127) C d_Mo_unfold_127 4 (inb_in b119) wR_a4 (ws' := wR g ar (va_up x.2.2.2.2.2.2.1 4 (upd (x.2.2.2.2.2.2.1 4) x.2.2.2.1.toNatClampNeg 40)) x.2.2.2.2.2.2.2.1 x.2.2.2.2.2.2.2.2) wR_s4 ?_
                    refine j_iinc (pc := 128) C d_Mo_unfold_128 4 rfl (v := x.2.2.2.1 + 1) (iv ci_1) [1, 2, 3, 4, 0, 5, 6] (by decide) (lc' := [(0, .ref (ar 0)), (1, .int x.1), (2, .int x.2.1), (3, .int x.2.2.1), (4, .int (x.2.2.2.1 + 1)), (5, .int x.2.2.2.2.1), (6, .int x.2.2.2.2.2.1)]) rfl ?_
                    refine j_aload_n (pc := 131) C d_Mo_unfold_131 rfl 0 rfl ?_
                    refine j_get (pc := 132) C d_Mo_unfold_132 0 9 wR_o0 rfl (v := .ref (ar 6)) rfl (by decide) tw951 ?_
                    refine j_iload_n (pc := 135) C d_Mo_unfold_135 rfl 2 rfl ?_
                    obtain ⟨b120, hf⟩ := og hf
                    refine j_iald (pc := 136) C d_Mo_unfold_136 6 (inb_in b120) (x := x.2.2.2.2.2.2.1 6 x.2.1.toNatClampNeg) wR_a6 rfl ?_
                    refine j_istore (pc := 137) C d_Mo_unfold_137 [1, 2, 3, 4, 5, 6, 7, 0] (by decide) (lc' := [(0, .ref (ar 0)), (1, .int x.1), (2, .int x.2.1), (3, .int x.2.2.1), (4, .int (x.2.2.2.1 + 1)), (5, .int x.2.2.2.2.1), (6, .int x.2.2.2.2.2.1), (7, .int (x.2.2.2.2.2.2.1 6 x.2.1.toNatClampNeg))]) rfl ?_
                    exact L139 k9 k9_ih k18 k18_ih 100000 (x.1, x.2.1, x.2.2.1, x.2.2.2.1 + 1, x.2.2.2.2.1, x.2.2.2.2.2.1, x.2.2.2.2.2.2.1 6 x.2.1.toNatClampNeg, ((va_up x.2.2.2.2.2.2.1 4 (upd (x.2.2.2.2.2.2.1 4) x.2.2.2.1.toNatClampNeg 40)), x.2.2.2.2.2.2.2.1, x.2.2.2.2.2.2.2.2)) hf
          · rw [if_pos h96] at hf
            refine j_aload_n (pc := 65) C d_Mo_unfold_65 rfl 0 rfl ?_
            refine j_get (pc := 66) C d_Mo_unfold_66 0 10 wR_o0 rfl (v := .ref (ar 7)) rfl (by decide) tw952 ?_
            refine j_iload_n (pc := 69) C d_Mo_unfold_69 rfl 3 rfl ?_
            obtain ⟨b121, hf⟩ := og hf
            refine j_iald (pc := 70) C d_Mo_unfold_70 7 (inb_in b121) (x := x.2.2.2.2.2.2.1 7 x.2.2.1.toNatClampNeg) wR_a7 rfl ?_
            refine j_istore (pc := 71) C d_Mo_unfold_71 [1, 2, 3, 4, 5, 6, 0] (by decide) (lc' := [(0, .ref (ar 0)), (1, .int x.1), (2, .int x.2.1), (3, .int x.2.2.1), (4, .int x.2.2.2.1), (5, .int x.2.2.2.2.1), (6, .int (x.2.2.2.2.2.2.1 7 x.2.2.1.toNatClampNeg))]) rfl ?_
            refine j_goto (pc := 73) C d_Mo_unfold_73 (tgt := 9) rfl ?_
            exact k9_ih (x.1, x.2.1, x.2.2.1, x.2.2.2.1, x.2.2.2.2.1, x.2.2.2.2.2.2.1 7 x.2.2.1.toNatClampNeg, x.2.2.2.2.2.2) hf
      · rw [if_neg h68] at hf
        refine j_iinc (pc := 39) C d_Mo_unfold_39 5 rfl (v := x.2.2.2.2.1 + 1) (iv ci_1) [1, 2, 3, 4, 5, 0, 6] (by decide) (lc' := [(0, .ref (ar 0)), (1, .int x.1), (2, .int x.2.1), (3, .int x.2.2.1), (4, .int x.2.2.2.1), (5, .int (x.2.2.2.2.1 + 1)), (6, .int x.2.2.2.2.2.1)]) rfl ?_
        refine j_goto (pc := 42) C d_Mo_unfold_42 (tgt := 18) rfl ?_
        exact k18_ih (x.1, x.2.1, x.2.2.1, x.2.2.2.1, x.2.2.2.2.1 + 1, x.2.2.2.2.2.1, x.2.2.2.2.2.2) hf
  have L9 : ∀ (n : Nat) (x : Int32 × Int32 × Int32 × Int32 × Int32 × Int32 × RS), lpN (BMo_unfold_9) n x = some q → 𝒥 0 0 (wR g ar x.2.2.2.2.2.2.1 x.2.2.2.2.2.2.2.1 x.2.2.2.2.2.2.2.2) [(0, .ref (ar 0)), (1, .int x.1), (2, .int x.2.1), (3, .int x.2.2.1), (4, .int x.2.2.2.1), (5, .int x.2.2.2.2.1), (6, .int x.2.2.2.2.2.1)] [] 9 := by
    refine lp_ind (fun k9 k9_ih x hf => ?_)
    unfold BMo_unfold_9 at hf
    refine j_iload (pc := 9) C d_Mo_unfold_9 6 rfl ?_
    refine j_aload_n (pc := 11) C d_Mo_unfold_11 rfl 0 rfl ?_
    refine j_get (pc := 12) C d_Mo_unfold_12 0 3 wR_o0 rfl (v := .int (x.2.2.2.2.2.2.2.1 1)) rfl (by decide) tw945 ?_
    refine j_icmp_ge (pc := 15) C d_Mo_unfold_15 (tgt := 222) rfl (fun h1 => ?_) (fun h1 => ?_)
    · rw [if_pos h1] at hf
      refine j_aload_n (pc := 222) C d_Mo_unfold_222 rfl 0 rfl ?_
      refine j_iload (pc := 223) C d_Mo_unfold_223 4 rfl ?_
      obtain ⟨q2, eq2, hf⟩ := ob hf
      refine j_callVv (pc := 225) C (rest := []) d_Mo_unfold_225 (c_Mo_becomeFresh (g := g) (ar := ar) eq2) cv_Mo_becomeFresh tw1298 0 rfl rfl cut_same rfl rfl (Nat.le_of_ble_eq_true rfl) (kc2 := 0) (ks2 := 0) (by decide) ?_
      cases hf
      exact j_vret (pc := 228) C d_Mo_unfold_228 ⟨rfl, rfl⟩ (Nat.le_of_ble_eq_true rfl) (Nat.le_of_ble_eq_true rfl)
    · rw [if_neg h1] at hf
      exact L18 k9 k9_ih 100000 (x.1, x.2.1, x.2.2.1, x.2.2.2.1, x.2.2.2.2.1, x.2.2.2.2.2.1, x.2.2.2.2.2.2) hf
  unfold f_Mo_unfold at hf
  change 𝒥 0 0 (wR g ar r.1 r.2.1 r.2.2) [(0, .ref (ar 0)), (1, .int a1), (2, .int a2), (3, .int a3)] [] 0
  refine j_iconst (pc := 0) C d_Mo_unfold_0 ck_0 ?_
  refine j_istore (pc := 1) C d_Mo_unfold_1 [1, 2, 3, 4, 0] (by decide) (lc' := [(0, .ref (ar 0)), (1, .int a1), (2, .int a2), (3, .int a3), (4, .int 0)]) rfl ?_
  refine j_iconst (pc := 3) C d_Mo_unfold_3 ck_0 ?_
  refine j_istore (pc := 4) C d_Mo_unfold_4 [1, 2, 3, 4, 5, 0] (by decide) (lc' := [(0, .ref (ar 0)), (1, .int a1), (2, .int a2), (3, .int a3), (4, .int 0), (5, .int 0)]) rfl ?_
  refine j_iconst (pc := 6) C d_Mo_unfold_6 ck_0 ?_
  refine j_istore (pc := 7) C d_Mo_unfold_7 [1, 2, 3, 4, 5, 6, 0] (by decide) (lc' := [(0, .ref (ar 0)), (1, .int a1), (2, .int a2), (3, .int a3), (4, .int 0), (5, .int 0), (6, .int 0)]) rfl ?_
  exact L9 100000 (a1, a2, a3, 0, 0, 0, r) hf
abbrev rm_Mo_inline : Room := { frames := 6, cells := 0, slots := 0, locals := 132 }
theorem cv_Mo_inline : CV y_Mo_inline b_Mo_inline 9 (some .int) 1 := ⟨⟨tw1309, tw10, by decide +kernel⟩, tw1307, tw1308⟩
set_option maxHeartbeats 4000000 in
set_option maxRecDepth 100000 in
theorem c_Mo_inline {g : GT} {ar : Nat → Nat} {a1 : Int32} {r : RS} {q : Int32 × RS} (hf : f_Mo_inline a1 r = some q) : MI g y_Mo_inline b_Mo_inline 9 (some .int) rm_Mo_inline [.ref (ar 0), .int a1] (wR g ar r.1 r.2.1 r.2.2) q.1 (wR g ar q.2.1 q.2.2.1 q.2.2.2) := by
  refine MI.of (by decide) (Nat.le_of_ble_eq_true rfl) (fun 𝒥 C => ?_)
  have L126 : ∀ (n : Nat) (x : Int32 × Int32 × Int32 × Int32 × Int32 × Int32 × Int32 × Int32 × RS), lpN (BMo_inline_126) n x = some q → 𝒥 0 0 (wR g ar x.2.2.2.2.2.2.2.2.1 x.2.2.2.2.2.2.2.2.2.1 x.2.2.2.2.2.2.2.2.2.2) [(0, .ref (ar 0)), (1, .int x.1), (2, .int x.2.1), (3, .int x.2.2.1), (4, .int x.2.2.2.1), (5, .int x.2.2.2.2.1), (6, .int x.2.2.2.2.2.1), (7, .int x.2.2.2.2.2.2.1), (8, .int x.2.2.2.2.2.2.2.1)] [] 126 := by
    refine lp_ind (fun k126 k126_ih x hf => ?_)
    unfold BMo_inline_126 at hf
    refine j_iload (pc := 126) C d_Mo_inline_126 8 rfl ?_
    refine j_aload_n (pc := 128) C d_Mo_inline_128 rfl 0 rfl ?_
    refine j_get (pc := 129) C d_Mo_inline_129 0 7 wR_o0 rfl (v := .int (x.2.2.2.2.2.2.2.2.2.1 3)) rfl (by decide) tw949 ?_
    refine j_icmp_ge (pc := 132) C d_Mo_inline_132 (tgt := 191) rfl (fun h19 => ?_) (fun h19 => ?_)
    · rw [if_pos h19] at hf
      refine j_iload (pc := 191) C d_Mo_inline_191 6 rfl ?_
      refine j_sipush (pc := 193) C d_Mo_inline_193 cs_240 ?_
      refine j_icmp_le (pc := 196) C d_Mo_inline_196 (tgt := 205) rfl (fun h20 => ?_) (fun h20 => ?_)
      · rw [if_pos h20] at hf
        refine j_aload_n (pc := 205) C d_Mo_inline_205 rfl 0 rfl ?_
        obtain ⟨q21, eq21, hf⟩ := ob hf
        refine j_callVv (pc := 206) C (rest := []) d_Mo_inline_206 (c_Mo_keep (g := g) (ar := ar) eq21) cv_Mo_keep tw1290 0 rfl rfl cut_same rfl rfl (Nat.le_of_ble_eq_true rfl) (kc2 := 0) (ks2 := 0) (by decide) ?_
        refine j_aload_n (pc := 209) C d_Mo_inline_209 rfl 0 rfl ?_
        refine j_iload_n (pc := 210) C d_Mo_inline_210 rfl 2 rfl ?_
        refine j_iload_n (pc := 211) C d_Mo_inline_211 rfl 3 rfl ?_
        refine j_iload (pc := 212) C d_Mo_inline_212 4 rfl ?_
        obtain ⟨q22, eq22, hf⟩ := ob hf
        refine j_callVv (pc := 214) C (rest := []) d_Mo_inline_214 (c_Mo_unfold (g := g) (ar := ar) eq22) cv_Mo_unfold tw1314 0 rfl rfl cut_same rfl rfl (Nat.le_of_ble_eq_true rfl) (kc2 := 0) (ks2 := 0) (by decide) ?_
        refine j_aload_n (pc := 217) C d_Mo_inline_217 rfl 0 rfl ?_
        obtain ⟨q23, eq23, hf⟩ := ob hf
        refine j_callVv (pc := 218) C (rest := []) d_Mo_inline_218 (c_Mo_analyse (g := g) (ar := ar) eq23) cv_Mo_analyse tw1147 0 rfl rfl cut_same rfl rfl (Nat.le_of_ble_eq_true rfl) (kc2 := 0) (ks2 := 0) (by decide) ?_
        refine j_aload_n (pc := 221) C d_Mo_inline_221 rfl 0 rfl ?_
        refine j_get (pc := 222) C d_Mo_inline_222 0 24 wR_o0 rfl (v := .int (q23.2.1 5)) rfl (by decide) tw966 ?_
        refine j_if_ne (pc := 225) C d_Mo_inline_225 (tgt := 233) rfl (fun h24 => ?_) (fun h24 => ?_)
        · rw [if_neg h24] at hf
          refine j_aload_n (pc := 233) C d_Mo_inline_233 rfl 0 rfl ?_
          refine j_iconst (pc := 234) C d_Mo_inline_234 ck_3 ?_
          obtain ⟨q25, eq25, hf⟩ := ob hf
          refine j_callVi (pc := 235) C (rest := []) d_Mo_inline_235 (c_Mo_takeBack (g := g) (ar := ar) eq25) cv_Mo_takeBack tw1302 0 rfl rfl cut_same rfl rfl (Nat.le_of_ble_eq_true rfl) (kc2 := 0) (ks2 := 0) (by decide) ?_
          cases hf
          exact j_iret (pc := 238) C d_Mo_inline_238 ⟨rfl, rfl⟩ (Nat.le_of_ble_eq_true rfl) (Nat.le_of_ble_eq_true rfl)
        · rw [if_pos h24] at hf
          refine j_iload (pc := 228) C d_Mo_inline_228 5 rfl ?_
          refine j_goto (pc := 230) C d_Mo_inline_230 (tgt := 238) rfl ?_
          cases hf
          exact j_iret (pc := 238) C d_Mo_inline_238 ⟨rfl, rfl⟩ (Nat.le_of_ble_eq_true rfl) (Nat.le_of_ble_eq_true rfl)
      · rw [if_neg h20] at hf
        refine j_aload_n (pc := 199) C d_Mo_inline_199 rfl 0 rfl ?_
        refine j_iconst (pc := 200) C d_Mo_inline_200 ck_1 ?_
        obtain ⟨q26, eq26, hf⟩ := ob hf
        refine j_callVi (pc := 201) C (rest := []) d_Mo_inline_201 (c_Mo_fails (g := g) (ar := ar) eq26) cv_Mo_fails tw1262 0 rfl rfl cut_same rfl rfl (Nat.le_of_ble_eq_true rfl) (kc2 := 0) (ks2 := 0) (by decide) ?_
        cases hf
        exact j_iret (pc := 204) C d_Mo_inline_204 ⟨rfl, rfl⟩ (Nat.le_of_ble_eq_true rfl) (Nat.le_of_ble_eq_true rfl)
    · rw [if_neg h19] at hf
      refine j_aload_n (pc := 135) C d_Mo_inline_135 rfl 0 rfl ?_
      refine j_get (pc := 136) C d_Mo_inline_136 0 12 wR_o0 rfl (v := .ref (ar 9)) rfl (by decide) tw954 ?_
      refine j_iload (pc := 139) C d_Mo_inline_139 8 rfl ?_
      obtain ⟨b27, hf⟩ := og hf
      refine j_iald (pc := 141) C d_Mo_inline_141 9 (inb_in b27) (x := x.2.2.2.2.2.2.2.2.1 9 x.2.2.2.2.2.2.2.1.toNatClampNeg) wR_a9 rfl ?_
      refine j_topi C (fun v28 ev28 => ?_)
      replace hf := ov ev28 hf
      refine j_iconst (pc := 142) C d_Mo_inline_142 ck_5 ?_
      refine j_icmp_ne (pc := 143) C d_Mo_inline_143 (tgt := 185) rfl (fun h29 => ?_) (fun h29 => ?_)
      · rw [if_neg h29] at hf
        refine j_iinc (pc := 185) C d_Mo_inline_185 8 rfl (v := x.2.2.2.2.2.2.2.1 + 1) (iv ci_1) [1, 2, 3, 4, 5, 6, 7, 8, 0] (by decide) (lc' := [(0, .ref (ar 0)), (1, .int x.1), (2, .int x.2.1), (3, .int x.2.2.1), (4, .int x.2.2.2.1), (5, .int x.2.2.2.2.1), (6, .int x.2.2.2.2.2.1), (7, .int x.2.2.2.2.2.2.1), (8, .int (x.2.2.2.2.2.2.2.1 + 1))]) rfl ?_
        refine j_goto (pc := 188) C d_Mo_inline_188 (tgt := 126) rfl ?_
        exact k126_ih (x.1, x.2.1, x.2.2.1, x.2.2.2.1, x.2.2.2.2.1, x.2.2.2.2.2.1, x.2.2.2.2.2.2.1, x.2.2.2.2.2.2.2.1 + 1, x.2.2.2.2.2.2.2.2) hf
      · rw [if_pos h29] at hf
        refine j_aload_n (pc := 146) C d_Mo_inline_146 rfl 0 rfl ?_
        refine j_get (pc := 147) C d_Mo_inline_147 0 13 wR_o0 rfl (v := .ref (ar 10)) rfl (by decide) tw955 ?_
        refine j_iload (pc := 150) C d_Mo_inline_150 8 rfl ?_
        obtain ⟨b30, hf⟩ := og hf
        refine j_iald (pc := 152) C d_Mo_inline_152 10 (inb_in b30) (x := x.2.2.2.2.2.2.2.2.1 10 x.2.2.2.2.2.2.2.1.toNatClampNeg) wR_a10 rfl ?_
        refine j_topi C (fun v31 ev31 => ?_)
        replace hf := ov ev31 hf
        refine j_iload_n (pc := 153) C d_Mo_inline_153 rfl 2 rfl ?_
        refine j_icmp_ne (pc := 154) C d_Mo_inline_154 (tgt := 185) rfl (fun h32 => ?_) (fun h32 => ?_)
        · rw [if_neg h32] at hf
          refine j_iinc (pc := 185) C d_Mo_inline_185 8 rfl (v := x.2.2.2.2.2.2.2.1 + 1) (iv ci_1) [1, 2, 3, 4, 5, 6, 7, 8, 0] (by decide) (lc' := [(0, .ref (ar 0)), (1, .int x.1), (2, .int x.2.1), (3, .int x.2.2.1), (4, .int x.2.2.2.1), (5, .int x.2.2.2.2.1), (6, .int x.2.2.2.2.2.1), (7, .int x.2.2.2.2.2.2.1), (8, .int (x.2.2.2.2.2.2.2.1 + 1))]) rfl ?_
          refine j_goto (pc := 188) C d_Mo_inline_188 (tgt := 126) rfl ?_
          exact k126_ih (x.1, x.2.1, x.2.2.1, x.2.2.2.1, x.2.2.2.2.1, x.2.2.2.2.2.1, x.2.2.2.2.2.2.1, x.2.2.2.2.2.2.2.1 + 1, x.2.2.2.2.2.2.2.2) hf
        · rw [if_pos h32] at hf
          refine j_iinc (pc := 157) C d_Mo_inline_157 5 rfl (v := x.2.2.2.2.1 + 1) (iv ci_1) [1, 2, 3, 4, 5, 0, 6, 7, 8] (by decide) (lc' := [(0, .ref (ar 0)), (1, .int x.1), (2, .int x.2.1), (3, .int x.2.2.1), (4, .int x.2.2.2.1), (5, .int (x.2.2.2.2.1 + 1)), (6, .int x.2.2.2.2.2.1), (7, .int x.2.2.2.2.2.2.1), (8, .int x.2.2.2.2.2.2.2.1)]) rfl ?_
          refine j_iload (pc := 160) C d_Mo_inline_160 6 rfl ?_
          refine j_iload (pc := 162) C d_Mo_inline_162 7 rfl ?_
          refine j_iconst (pc := 164) C d_Mo_inline_164 ck_2 ?_
          refine j_iadd (pc := 165) C d_Mo_inline_165 ?_
          refine j_aload_n (pc := 166) C d_Mo_inline_166 rfl 0 rfl ?_
          refine j_get (pc := 167) C d_Mo_inline_167 0 10 wR_o0 rfl (v := .ref (ar 7)) rfl (by decide) tw952 ?_
          refine j_iload (pc := 170) C d_Mo_inline_170 8 rfl ?_
          obtain ⟨b33, hf⟩ := og hf
          refine j_iald (pc := 172) C d_Mo_inline_172 7 (inb_in b33) (x := x.2.2.2.2.2.2.2.2.1 7 x.2.2.2.2.2.2.2.1.toNatClampNeg) wR_a7 rfl ?_
          refine j_topi C (fun v34 ev34 => ?_)
          replace hf := ov ev34 hf
          refine j_aload_n (pc := 173) C d_Mo_inline_173 rfl 0 rfl ?_
          refine j_get (pc := 174) C d_Mo_inline_174 0 9 wR_o0 rfl (v := .ref (ar 6)) rfl (by decide) tw951 ?_
          refine j_iload (pc := 177) C d_Mo_inline_177 8 rfl ?_
          obtain ⟨b35, hf⟩ := og hf
          refine j_iald (pc := 179) C d_Mo_inline_179 6 (inb_in b35) (x := x.2.2.2.2.2.2.2.2.1 6 x.2.2.2.2.2.2.2.1.toNatClampNeg) wR_a6 rfl ?_
          refine j_topi C (fun v36 ev36 => ?_)
          replace hf := ov ev36 hf
          refine j_isub (pc := 180) C d_Mo_inline_180 ?_
          refine j_isub (pc := 181) C d_Mo_inline_181 ?_
          refine j_iadd (pc := 182) C d_Mo_inline_182 ?_
          refine j_topi C (fun v37 ev37 => ?_)
          replace hf := ov ev37 hf
          refine j_istore (pc := 183) C d_Mo_inline_183 [1, 2, 3, 4, 5, 6, 0, 7, 8] (by decide) (lc' := [(0, .ref (ar 0)), (1, .int x.1), (2, .int x.2.1), (3, .int x.2.2.1), (4, .int x.2.2.2.1), (5, .int (x.2.2.2.2.1 + 1)), (6, .int v37), (7, .int x.2.2.2.2.2.2.1), (8, .int x.2.2.2.2.2.2.2.1)]) rfl ?_
          refine j_iinc (pc := 185) C d_Mo_inline_185 8 rfl (v := x.2.2.2.2.2.2.2.1 + 1) (iv ci_1) [1, 2, 3, 4, 5, 6, 7, 8, 0] (by decide) (lc' := [(0, .ref (ar 0)), (1, .int x.1), (2, .int x.2.1), (3, .int x.2.2.1), (4, .int x.2.2.2.1), (5, .int (x.2.2.2.2.1 + 1)), (6, .int v37), (7, .int x.2.2.2.2.2.2.1), (8, .int (x.2.2.2.2.2.2.2.1 + 1))]) rfl ?_
          refine j_goto (pc := 188) C d_Mo_inline_188 (tgt := 126) rfl ?_
          exact k126_ih (x.1, x.2.1, x.2.2.1, x.2.2.2.1, x.2.2.2.2.1 + 1, v37, x.2.2.2.2.2.2.1, x.2.2.2.2.2.2.2.1 + 1, x.2.2.2.2.2.2.2.2) hf
  unfold f_Mo_inline at hf
  change 𝒥 0 0 (wR g ar r.1 r.2.1 r.2.2) [(0, .ref (ar 0)), (1, .int a1)] [] 0
  refine j_aload_n (pc := 0) C d_Mo_inline_0 rfl 0 rfl ?_
  refine j_iconst (pc := 1) C d_Mo_inline_1 ck_0 ?_
  refine j_put (pc := 2) C d_Mo_inline_2 0 1 wR_o0 rfl (by decide) tw943 pd_I rfl rfl rfl (Nat.le_of_ble_eq_true rfl) (ws' := wR g ar r.1 (va_up r.2.1 0 0) r.2.2) wR_p0_1 ?_
  refine j_aload_n (pc := 5) C d_Mo_inline_5 rfl 0 rfl ?_
  obtain ⟨q1, eq1, hf⟩ := ob hf
  refine j_callVv (pc := 6) C (rest := []) d_Mo_inline_6 (c_Mo_analyse (g := g) (ar := ar) eq1) cv_Mo_analyse tw1147 0 rfl rfl cut_same rfl rfl (Nat.le_of_ble_eq_true rfl) (kc2 := 0) (ks2 := 0) (by decide) ?_
  refine j_aload_n (pc := 9) C d_Mo_inline_9 rfl 0 rfl ?_
  refine j_get (pc := 10) C d_Mo_inline_10 0 24 wR_o0 rfl (v := .int (q1.2.1 5)) rfl (by decide) tw966 ?_
  refine j_if_le (pc := 13) C d_Mo_inline_13 (tgt := 22) rfl (fun h2 => ?_) (fun h2 => ?_)
  · rw [if_pos h2] at hf
    refine j_aload_n (pc := 22) C d_Mo_inline_22 rfl 0 rfl ?_
    refine j_iload_n (pc := 23) C d_Mo_inline_23 rfl 1 rfl ?_
    obtain ⟨q3, eq3, hf⟩ := ob hf
    refine j_callVi (pc := 24) C (rest := []) d_Mo_inline_24 (c_Mo_boundAt (g := g) (ar := ar) eq3) cv_Mo_boundAt tw1278 0 rfl rfl cut_same rfl rfl (Nat.le_of_ble_eq_true rfl) (kc2 := 0) (ks2 := 0) (by decide) ?_
    refine j_istore_n (pc := 27) C d_Mo_inline_27 rfl [1, 2, 0] (by decide) (lc' := [(0, .ref (ar 0)), (1, .int a1), (2, .int q3.1)]) rfl ?_
    refine j_iload_n (pc := 28) C d_Mo_inline_28 rfl 2 rfl ?_
    refine j_if_lt (pc := 29) C d_Mo_inline_29 (tgt := 42) rfl (fun h4 => ?_) (fun h4 => ?_)
    · rw [if_pos h4] at hf
      refine j_aload_n (pc := 42) C d_Mo_inline_42 rfl 0 rfl ?_
      refine j_iconst (pc := 43) C d_Mo_inline_43 ck_2 ?_
      obtain ⟨q5, eq5, hf⟩ := ob hf
      refine j_callVi (pc := 44) C (rest := []) d_Mo_inline_44 (c_Mo_fails (g := g) (ar := ar) eq5) cv_Mo_fails tw1262 0 rfl rfl cut_same rfl rfl (Nat.le_of_ble_eq_true rfl) (kc2 := 0) (ks2 := 0) (by decide) ?_
      cases hf
      exact j_iret (pc := 47) C d_Mo_inline_47 ⟨rfl, rfl⟩ (Nat.le_of_ble_eq_true rfl) (Nat.le_of_ble_eq_true rfl)
    · rw [if_neg h4] at hf
      refine j_aload_n (pc := 32) C d_Mo_inline_32 rfl 0 rfl ?_
      refine j_get (pc := 33) C d_Mo_inline_33 0 12 wR_o0 rfl (v := .ref (ar 9)) rfl (by decide) tw954 ?_
      refine j_iload_n (pc := 36) C d_Mo_inline_36 rfl 2 rfl ?_
      obtain ⟨b6, hf⟩ := og hf
      refine j_iald (pc := 37) C d_Mo_inline_37 9 (inb_in b6) (x := q3.2.1 9 q3.1.toNatClampNeg) wR_a9 rfl ?_
      refine j_iconst (pc := 38) C d_Mo_inline_38 ck_3 ?_
      refine j_icmp_eq (pc := 39) C d_Mo_inline_39 (tgt := 48) rfl (fun h7 => ?_) (fun h7 => ?_)
      · rw [if_pos h7] at hf
        refine j_iload_n (pc := 48) C d_Mo_inline_48 rfl 2 rfl ?_
        refine j_iconst (pc := 49) C d_Mo_inline_49 ck_2 ?_
        refine j_iadd (pc := 50) C d_Mo_inline_50 ?_
        refine j_istore_n (pc := 51) C d_Mo_inline_51 rfl [1, 2, 3, 0] (by decide) (lc' := [(0, .ref (ar 0)), (1, .int a1), (2, .int q3.1), (3, .int (q3.1 + 2))]) rfl ?_
        refine j_aload_n (pc := 52) C d_Mo_inline_52 rfl 0 rfl ?_
        refine j_get (pc := 53) C d_Mo_inline_53 0 17 wR_o0 rfl (v := .ref (ar 14)) rfl (by decide) tw959 ?_
        refine j_iload_n (pc := 56) C d_Mo_inline_56 rfl 2 rfl ?_
        obtain ⟨b8, hf⟩ := og hf
        refine j_iald (pc := 57) C d_Mo_inline_57 14 (inb_in b8) (x := q3.2.1 14 q3.1.toNatClampNeg) wR_a14 rfl ?_
        refine j_iconst (pc := 58) C d_Mo_inline_58 ck_1 ?_
        refine j_isub (pc := 59) C d_Mo_inline_59 ?_
        refine j_istore (pc := 60) C d_Mo_inline_60 [1, 2, 3, 4, 0] (by decide) (lc' := [(0, .ref (ar 0)), (1, .int a1), (2, .int q3.1), (3, .int (q3.1 + 2)), (4, .int ((q3.2.1 14 q3.1.toNatClampNeg) - 1))]) rfl ?_
        refine j_aload_n (pc := 62) C d_Mo_inline_62 rfl 0 rfl ?_
        refine j_iload_n (pc := 63) C d_Mo_inline_63 rfl 2 rfl ?_
        refine j_iload_n (pc := 64) C d_Mo_inline_64 rfl 3 rfl ?_
        refine j_iload (pc := 65) C d_Mo_inline_65 4 rfl ?_
        obtain ⟨q9, eq9, hf⟩ := ob hf
        refine j_callVi (pc := 67) C (rest := []) d_Mo_inline_67 (c_Mo_isHeld (g := g) (ar := ar) eq9) cv_Mo_isHeld tw1310 0 rfl rfl cut_same rfl rfl (Nat.le_of_ble_eq_true rfl) (kc2 := 0) (ks2 := 0) (by decide) ?_
        refine j_if_eq (pc := 70) C d_Mo_inline_70 (tgt := 79) rfl (fun h10 => ?_) (fun h10 => ?_)
        · rw [if_pos h10] at hf
          refine j_iconst (pc := 79) C d_Mo_inline_79 ck_0 ?_
          refine j_istore (pc := 80) C d_Mo_inline_80 [1, 2, 3, 4, 5, 0] (by decide) (lc' := [(0, .ref (ar 0)), (1, .int a1), (2, .int q3.1), (3, .int (q3.1 + 2)), (4, .int ((q3.2.1 14 q3.1.toNatClampNeg) - 1)), (5, .int 0)]) rfl ?_
          refine j_aload_n (pc := 82) C d_Mo_inline_82 rfl 0 rfl ?_
          refine j_get (pc := 83) C d_Mo_inline_83 0 3 wR_o0 rfl (v := .int (q9.2.2.1 1)) rfl (by decide) tw945 ?_
          refine j_aload_n (pc := 86) C d_Mo_inline_86 rfl 0 rfl ?_
          refine j_get (pc := 87) C d_Mo_inline_87 0 10 wR_o0 rfl (v := .ref (ar 7)) rfl (by decide) tw952 ?_
          refine j_iload (pc := 90) C d_Mo_inline_90 4 rfl ?_
          obtain ⟨b11, hf⟩ := og hf
          refine j_iald (pc := 92) C d_Mo_inline_92 7 (inb_in b11) (x := q9.2.1 7 ((q3.2.1 14 q3.1.toNatClampNeg) - 1).toNatClampNeg) wR_a7 rfl ?_
          refine j_topi C (fun v12 ev12 => ?_)
          replace hf := ov ev12 hf
          refine j_aload_n (pc := 93) C d_Mo_inline_93 rfl 0 rfl ?_
          refine j_get (pc := 94) C d_Mo_inline_94 0 9 wR_o0 rfl (v := .ref (ar 6)) rfl (by decide) tw951 ?_
          refine j_iload_n (pc := 97) C d_Mo_inline_97 rfl 2 rfl ?_
          refine j_iconst (pc := 98) C d_Mo_inline_98 ck_1 ?_
          refine j_isub (pc := 99) C d_Mo_inline_99 ?_
          obtain ⟨b13, hf⟩ := og hf
          refine j_iald (pc := 100) C d_Mo_inline_100 6 (inb_in b13) (x := q9.2.1 6 (q3.1 - 1).toNatClampNeg) wR_a6 rfl ?_
          refine j_isub (pc := 101) C d_Mo_inline_101 ?_
          refine j_topi C (fun v14 ev14 => ?_)
          replace hf := ov ev14 hf
          refine j_isub (pc := 102) C d_Mo_inline_102 ?_
          refine j_istore (pc := 103) C d_Mo_inline_103 [1, 2, 3, 4, 5, 6, 0] (by decide) (lc' := [(0, .ref (ar 0)), (1, .int a1), (2, .int q3.1), (3, .int (q3.1 + 2)), (4, .int ((q3.2.1 14 q3.1.toNatClampNeg) - 1)), (5, .int 0), (6, .int ((q9.2.2.1 1) - v14))]) rfl ?_
          refine j_aload_n (pc := 105) C d_Mo_inline_105 rfl 0 rfl ?_
          refine j_get (pc := 106) C d_Mo_inline_106 0 10 wR_o0 rfl (v := .ref (ar 7)) rfl (by decide) tw952 ?_
          refine j_iload (pc := 109) C d_Mo_inline_109 4 rfl ?_
          refine j_iconst (pc := 111) C d_Mo_inline_111 ck_1 ?_
          refine j_isub (pc := 112) C d_Mo_inline_112 ?_
          obtain ⟨b15, hf⟩ := og hf
          refine j_iald (pc := 113) C d_Mo_inline_113 7 (inb_in b15) (x := q9.2.1 7 (((q3.2.1 14 q3.1.toNatClampNeg) - 1) - 1).toNatClampNeg) wR_a7 rfl ?_
          refine j_topi C (fun v16 ev16 => ?_)
          replace hf := ov ev16 hf
          refine j_aload_n (pc := 114) C d_Mo_inline_114 rfl 0 rfl ?_
          refine j_get (pc := 115) C d_Mo_inline_115 0 9 wR_o0 rfl (v := .ref (ar 6)) rfl (by decide) tw951 ?_
          refine j_iload_n (pc := 118) C d_Mo_inline_118 rfl 3 rfl ?_
          obtain ⟨b17, hf⟩ := og hf
          refine j_iald (pc := 119) C d_Mo_inline_119 6 (inb_in b17) (x := q9.2.1 6 (q3.1 + 2).toNatClampNeg) wR_a6 rfl ?_
          refine j_isub (pc := 120) C d_Mo_inline_120 ?_
          refine j_topi C (fun v18 ev18 => ?_)
          replace hf := ov ev18 hf
          refine j_istore (pc := 121) C d_Mo_inline_121 [1, 2, 3, 4, 5, 6, 7, 0] (by decide) (lc' := [(0, .ref (ar 0)), (1, .int a1), (2, .int q3.1), (3, .int (q3.1 + 2)), (4, .int ((q3.2.1 14 q3.1.toNatClampNeg) - 1)), (5, .int 0), (6, .int ((q9.2.2.1 1) - v14)), (7, .int v18)]) rfl ?_
          refine j_iconst (pc := 123) C d_Mo_inline_123 ck_0 ?_
          refine j_istore (pc := 124) C d_Mo_inline_124 [1, 2, 3, 4, 5, 6, 7, 8, 0] (by decide) (lc' := [(0, .ref (ar 0)), (1, .int a1), (2, .int q3.1), (3, .int (q3.1 + 2)), (4, .int ((q3.2.1 14 q3.1.toNatClampNeg) - 1)), (5, .int 0), (6, .int ((q9.2.2.1 1) - v14)), (7, .int v18), (8, .int 0)]) rfl ?_
          exact L126 100000 (a1, q3.1, q3.1 + 2, (q3.2.1 14 q3.1.toNatClampNeg) - 1, 0, (q9.2.2.1 1) - v14, v18, 0, q9.2) hf
        · rw [if_neg h10] at hf
          refine j_aload_n (pc := 73) C d_Mo_inline_73 rfl 0 rfl ?_
          refine j_iconst (pc := 74) C d_Mo_inline_74 ck_3 ?_
          obtain ⟨q38, eq38, hf⟩ := ob hf
          refine j_callVi (pc := 75) C (rest := []) d_Mo_inline_75 (c_Mo_fails (g := g) (ar := ar) eq38) cv_Mo_fails tw1262 0 rfl rfl cut_same rfl rfl (Nat.le_of_ble_eq_true rfl) (kc2 := 0) (ks2 := 0) (by decide) ?_
          cases hf
          exact j_iret (pc := 78) C d_Mo_inline_78 ⟨rfl, rfl⟩ (Nat.le_of_ble_eq_true rfl) (Nat.le_of_ble_eq_true rfl)
      · rw [if_neg h7] at hf
        refine j_aload_n (pc := 42) C d_Mo_inline_42 rfl 0 rfl ?_
        refine j_iconst (pc := 43) C d_Mo_inline_43 ck_2 ?_
        obtain ⟨q39, eq39, hf⟩ := ob hf
        refine j_callVi (pc := 44) C (rest := []) d_Mo_inline_44 (c_Mo_fails (g := g) (ar := ar) eq39) cv_Mo_fails tw1262 0 rfl rfl cut_same rfl rfl (Nat.le_of_ble_eq_true rfl) (kc2 := 0) (ks2 := 0) (by decide) ?_
        cases hf
        exact j_iret (pc := 47) C d_Mo_inline_47 ⟨rfl, rfl⟩ (Nat.le_of_ble_eq_true rfl) (Nat.le_of_ble_eq_true rfl)
  · rw [if_neg h2] at hf
    refine j_aload_n (pc := 16) C d_Mo_inline_16 rfl 0 rfl ?_
    refine j_iconst (pc := 17) C d_Mo_inline_17 ck_1 ?_
    obtain ⟨q40, eq40, hf⟩ := ob hf
    refine j_callVi (pc := 18) C (rest := []) d_Mo_inline_18 (c_Mo_fails (g := g) (ar := ar) eq40) cv_Mo_fails tw1262 0 rfl rfl cut_same rfl rfl (Nat.le_of_ble_eq_true rfl) (kc2 := 0) (ks2 := 0) (by decide) ?_
    cases hf
    exact j_iret (pc := 21) C d_Mo_inline_21 ⟨rfl, rfl⟩ (Nat.le_of_ble_eq_true rfl) (Nat.le_of_ble_eq_true rfl)
abbrev rm_Mo_emit : Room := { frames := 0, cells := 0, slots := 0, locals := 0 }
theorem cv_Mo_emit : CV y_Mo_emit b_Mo_emit 3 none 2 := ⟨⟨tw1329, tw10, by decide +kernel⟩, tw1328, (sw_ (q := (y_Mo_emit, 54)) (by decide +kernel) (by decide +kernel))⟩
set_option maxHeartbeats 4000000 in
set_option maxRecDepth 100000 in
theorem c_Mo_emit {g : GT} {ar : Nat → Nat} {a1 : Int32} {a2 : Int32} {r : RS} {q : RS} (hf : f_Mo_emit a1 a2 r = some q) : MV g y_Mo_emit b_Mo_emit 3 none rm_Mo_emit [.ref (ar 0), .int a1, .int a2] (wR g ar r.1 r.2.1 r.2.2) (wR g ar q.1 q.2.1 q.2.2) := by
  refine MV.of (by decide) (Nat.le_of_ble_eq_true rfl) (fun 𝒥 C => ?_)
  unfold f_Mo_emit at hf
  change 𝒥 0 0 (wR g ar r.1 r.2.1 r.2.2) [(0, .ref (ar 0)), (1, .int a1), (2, .int a2)] [] 0
  refine j_aload_n (pc := 0) C d_Mo_emit_0 rfl 0 rfl ?_
  refine j_get (pc := 1) C d_Mo_emit_1 0 35 wR_o0 rfl (v := .ref (ar 24)) rfl (by decide) tw977 ?_
  refine j_aload_n (pc := 4) C d_Mo_emit_4 rfl 0 rfl ?_
  refine j_get (pc := 5) C d_Mo_emit_5 0 34 wR_o0 rfl (v := .int (r.2.1 11)) rfl (by decide) tw976 ?_
  refine j_iload_n (pc := 8) C d_Mo_emit_8 rfl 1 rfl ?_
  obtain ⟨b1, hf⟩ := og hf
  refine j_iast (pc := 9) C d_Mo_emit_9 24 (inb_in b1) wR_a24 (ws' := wR g ar (va_up r.1 24 (upd (r.1 24) (r.2.1 11).toNatClampNeg a1)) r.2.1 r.2.2) wR_s24 ?_
  refine j_aload_n (pc := 10) C d_Mo_emit_10 rfl 0 rfl ?_
  refine j_get (pc := 11) C d_Mo_emit_11 0 36 wR_o0 rfl (v := .ref (ar 25)) rfl (by decide) tw978 ?_
  refine j_aload_n (pc := 14) C d_Mo_emit_14 rfl 0 rfl ?_
  refine j_get (pc := 15) C d_Mo_emit_15 0 34 wR_o0 rfl (v := .int (r.2.1 11)) rfl (by decide) tw976 ?_
  refine j_iload_n (pc := 18) C d_Mo_emit_18 rfl 2 rfl ?_
  obtain ⟨b2, hf⟩ := og hf
  refine j_iast (pc := 19) C d_Mo_emit_19 25 (inb_in b2) wR_a25 (ws' := wR g ar (va_up (va_up r.1 24 (upd (r.1 24) (r.2.1 11).toNatClampNeg a1)) 25 (upd (r.1 25) (r.2.1 11).toNatClampNeg a2)) r.2.1 r.2.2) wR_s25 ?_
  refine j_aload_n (pc := 20) C d_Mo_emit_20 rfl 0 rfl ?_
  refine j_dup (pc := 21) C d_Mo_emit_21 rfl ?_
  refine j_get (pc := 22) C d_Mo_emit_22 0 34 wR_o0 rfl (v := .int (r.2.1 11)) rfl (by decide) tw976 ?_
  refine j_iconst (pc := 25) C d_Mo_emit_25 ck_1 ?_
  refine j_iadd (pc := 26) C d_Mo_emit_26 ?_
  refine j_put (pc := 27) C d_Mo_emit_27 0 34 wR_o0 rfl (by decide) tw976 pd_I rfl rfl rfl (Nat.le_of_ble_eq_true rfl) (ws' := wR g ar (va_up (va_up r.1 24 (upd (r.1 24) (r.2.1 11).toNatClampNeg a1)) 25 (upd (r.1 25) (r.2.1 11).toNatClampNeg a2)) (va_up r.2.1 11 ((r.2.1 11) + 1)) r.2.2) wR_p0_34 ?_
  cases hf
  exact j_vret (pc := 30) C d_Mo_emit_30 ⟨rfl, rfl⟩ (Nat.le_of_ble_eq_true rfl) (Nat.le_of_ble_eq_true rfl)
abbrev rm_Mo_rank : Room := { frames := 0, cells := 0, slots := 0, locals := 0 }
theorem cv_Mo_rank : CS y_Mo_rank b_Mo_rank 1 (some .int) 1 := ⟨⟨tw1344, tw10, by decide +kernel⟩, tw1343⟩
set_option maxHeartbeats 4000000 in
set_option maxRecDepth 100000 in
theorem c_Mo_rank {g : GT} {a0 : Int32} {q : Int32} (hf : f_Mo_rank a0 = some q) : MI g y_Mo_rank b_Mo_rank 1 (some .int) rm_Mo_rank [.int a0] ([]) q ([]) := by
  refine MI.of (by decide) (Nat.le_of_ble_eq_true rfl) (fun 𝒥 C => ?_)
  unfold f_Mo_rank at hf
  change 𝒥 0 0 ([]) [(0, .int a0)] [] 0
  refine j_iload_n (pc := 0) C d_Mo_rank_0 rfl 0 rfl ?_
  refine j_bipush (pc := 1) C d_Mo_rank_1 cb_42 ?_
  refine j_icmp_ne (pc := 3) C d_Mo_rank_3 (tgt := 10) rfl (fun h1 => ?_) (fun h1 => ?_)
  · rw [if_neg h1] at hf
    refine j_iload_n (pc := 10) C d_Mo_rank_10 rfl 0 rfl ?_
    refine j_bipush (pc := 11) C d_Mo_rank_11 cb_43 ?_
    refine j_icmp_eq (pc := 13) C d_Mo_rank_13 (tgt := 22) rfl (fun h2 => ?_) (fun h2 => ?_)
    · rw [if_pos h2] at hf
      refine j_iconst (pc := 22) C d_Mo_rank_22 ck_2 ?_
      refine j_goto (pc := 23) C d_Mo_rank_23 (tgt := 37) rfl ?_
      cases hf
      exact j_iret (pc := 37) C d_Mo_rank_37 ⟨rfl, rfl⟩ (Nat.le_of_ble_eq_true rfl) (Nat.le_of_ble_eq_true rfl)
    · rw [if_neg h2] at hf
      refine j_iload_n (pc := 16) C d_Mo_rank_16 rfl 0 rfl ?_
      refine j_bipush (pc := 17) C d_Mo_rank_17 cb_45 ?_
      refine j_icmp_ne (pc := 19) C d_Mo_rank_19 (tgt := 26) rfl (fun h3 => ?_) (fun h3 => ?_)
      · rw [if_neg h3] at hf
        refine j_iload_n (pc := 26) C d_Mo_rank_26 rfl 0 rfl ?_
        refine j_bipush (pc := 27) C d_Mo_rank_27 cb_60 ?_
        refine j_icmp_ne (pc := 29) C d_Mo_rank_29 (tgt := 36) rfl (fun h4 => ?_) (fun h4 => ?_)
        · rw [if_neg h4] at hf
          refine j_iconst (pc := 36) C d_Mo_rank_36 ck_0 ?_
          cases hf
          exact j_iret (pc := 37) C d_Mo_rank_37 ⟨rfl, rfl⟩ (Nat.le_of_ble_eq_true rfl) (Nat.le_of_ble_eq_true rfl)
        · rw [if_pos h4] at hf
          refine j_iconst (pc := 32) C d_Mo_rank_32 ck_1 ?_
          refine j_goto (pc := 33) C d_Mo_rank_33 (tgt := 37) rfl ?_
          cases hf
          exact j_iret (pc := 37) C d_Mo_rank_37 ⟨rfl, rfl⟩ (Nat.le_of_ble_eq_true rfl) (Nat.le_of_ble_eq_true rfl)
      · rw [if_pos h3] at hf
        refine j_iconst (pc := 22) C d_Mo_rank_22 ck_2 ?_
        refine j_goto (pc := 23) C d_Mo_rank_23 (tgt := 37) rfl ?_
        cases hf
        exact j_iret (pc := 37) C d_Mo_rank_37 ⟨rfl, rfl⟩ (Nat.le_of_ble_eq_true rfl) (Nat.le_of_ble_eq_true rfl)
  · rw [if_pos h1] at hf
    refine j_iconst (pc := 6) C d_Mo_rank_6 ck_3 ?_
    refine j_goto (pc := 7) C d_Mo_rank_7 (tgt := 37) rfl ?_
    cases hf
    exact j_iret (pc := 37) C d_Mo_rank_37 ⟨rfl, rfl⟩ (Nat.le_of_ble_eq_true rfl) (Nat.le_of_ble_eq_true rfl)
abbrev rm_Mo_settle : Room := { frames := 1, cells := 0, slots := 0, locals := 22 }
theorem cv_Mo_settle : CV y_Mo_settle b_Mo_settle 2 none 1 := ⟨⟨tw1341, tw10, by decide +kernel⟩, tw1340, (sw_ (q := (y_Mo_settle, 54)) (by decide +kernel) (by decide +kernel))⟩
set_option maxHeartbeats 4000000 in
set_option maxRecDepth 100000 in
theorem c_Mo_settle {g : GT} {ar : Nat → Nat} {a1 : Int32} {r : RS} {q : RS} (hf : f_Mo_settle a1 r = some q) : MV g y_Mo_settle b_Mo_settle 2 none rm_Mo_settle [.ref (ar 0), .int a1] (wR g ar r.1 r.2.1 r.2.2) (wR g ar q.1 q.2.1 q.2.2) := by
  refine MV.of (by decide) (Nat.le_of_ble_eq_true rfl) (fun 𝒥 C => ?_)
  have L0 : ∀ (n : Nat) (x : Int32 × RS), lpN (BMo_settle_0) n x = some q → 𝒥 0 0 (wR g ar x.2.1 x.2.2.1 x.2.2.2) [(0, .ref (ar 0)), (1, .int x.1)] [] 0 := by
    refine lp_ind (fun k0 k0_ih x hf => ?_)
    unfold BMo_settle_0 at hf
    refine j_aload_n (pc := 0) C d_Mo_settle_0 rfl 0 rfl ?_
    refine j_get (pc := 1) C d_Mo_settle_1 0 39 wR_o0 rfl (v := .int (x.2.2.1 12)) rfl (by decide) tw981 ?_
    refine j_if_le (pc := 4) C d_Mo_settle_4 (tgt := 55) rfl (fun h1 => ?_) (fun h1 => ?_)
    · rw [if_pos h1] at hf
      cases hf
      exact j_vret (pc := 55) C d_Mo_settle_55 ⟨rfl, rfl⟩ (Nat.le_of_ble_eq_true rfl) (Nat.le_of_ble_eq_true rfl)
    · rw [if_neg h1] at hf
      refine j_aload_n (pc := 7) C d_Mo_settle_7 rfl 0 rfl ?_
      refine j_get (pc := 8) C d_Mo_settle_8 0 40 wR_o0 rfl (v := .ref (ar 28)) rfl (by decide) tw982 ?_
      refine j_aload_n (pc := 11) C d_Mo_settle_11 rfl 0 rfl ?_
      refine j_get (pc := 12) C d_Mo_settle_12 0 39 wR_o0 rfl (v := .int (x.2.2.1 12)) rfl (by decide) tw981 ?_
      refine j_iconst (pc := 15) C d_Mo_settle_15 ck_1 ?_
      refine j_isub (pc := 16) C d_Mo_settle_16 ?_
      obtain ⟨b2, hf⟩ := og hf
      refine j_iald (pc := 17) C d_Mo_settle_17 28 (inb_in b2) (x := x.2.1 28 ((x.2.2.1 12) - 1).toNatClampNeg) wR_a28 rfl ?_
      refine j_topi C (fun v3 ev3 => ?_)
      replace hf := ov ev3 hf
      obtain ⟨q4, eq4, hf⟩ := ob hf
      refine j_callSi (pc := 18) C (rest := []) d_Mo_settle_18 (c_Mo_rank (g := g)  eq4) cv_Mo_rank tw1342 cut_none rfl rfl (Nat.le_of_ble_eq_true rfl) (kc2 := 0) (ks2 := 0) (by decide) ?_
      refine j_iload_n (pc := 21) C d_Mo_settle_21 rfl 1 rfl ?_
      refine j_icmp_lt (pc := 22) C d_Mo_settle_22 (tgt := 55) rfl (fun h5 => ?_) (fun h5 => ?_)
      · rw [if_pos h5] at hf
        cases hf
        exact j_vret (pc := 55) C d_Mo_settle_55 ⟨rfl, rfl⟩ (Nat.le_of_ble_eq_true rfl) (Nat.le_of_ble_eq_true rfl)
      · rw [if_neg h5] at hf
        refine j_aload_n (pc := 25) C d_Mo_settle_25 rfl 0 rfl ?_
        refine j_dup (pc := 26) C d_Mo_settle_26 rfl ?_
        refine j_get (pc := 27) C d_Mo_settle_27 0 39 wR_o0 rfl (v := .int (x.2.2.1 12)) rfl (by decide) tw981 ?_
        refine j_iconst (pc := 30) C d_Mo_settle_30 ck_1 ?_
        refine j_isub (pc := 31) C d_Mo_settle_31 ?_
        refine j_put (pc := 32) C d_Mo_settle_32 0 39 wR_o0 rfl (by decide) tw981 pd_I rfl rfl rfl (Nat.le_of_ble_eq_true rfl) (ws' := wR g ar x.2.1 (va_up x.2.2.1 12 ((x.2.2.1 12) - 1)) x.2.2.2) wR_p0_39 ?_
        refine j_aload_n (pc := 35) C d_Mo_settle_35 rfl 0 rfl ?_
        refine j_bipush (pc := 36) C d_Mo_settle_36 cb_100 ?_
        refine j_aload_n (pc := 38) C d_Mo_settle_38 rfl 0 rfl ?_
        refine j_get (pc := 39) C d_Mo_settle_39 0 40 wR_o0 rfl (v := .ref (ar 28)) rfl (by decide) tw982 ?_
        refine j_aload_n (pc := 42) C d_Mo_settle_42 rfl 0 rfl ?_
        refine j_get (pc := 43) C d_Mo_settle_43 0 39 wR_o0 rfl (v := .int ((x.2.2.1 12) - 1)) rfl (by decide) tw981 ?_
        obtain ⟨b6, hf⟩ := og hf
        refine j_iald (pc := 46) C d_Mo_settle_46 28 (inb_in b6) (x := x.2.1 28 ((x.2.2.1 12) - 1).toNatClampNeg) wR_a28 rfl ?_
        refine j_topi C (fun v7 ev7 => ?_)
        replace hf := ov ev7 hf
        refine j_iadd (pc := 47) C d_Mo_settle_47 ?_
        refine j_iconst (pc := 48) C d_Mo_settle_48 ck_0 ?_
        obtain ⟨q8, eq8, hf⟩ := ob hf
        refine j_callVv (pc := 49) C (rest := []) d_Mo_settle_49 (c_Mo_emit (g := g) (ar := ar) eq8) cv_Mo_emit tw1326 0 rfl rfl cut_same rfl rfl (Nat.le_of_ble_eq_true rfl) (kc2 := 0) (ks2 := 0) (by decide) ?_
        refine j_goto (pc := 52) C d_Mo_settle_52 (tgt := 0) rfl ?_
        exact k0_ih (x.1, q8) hf
  unfold f_Mo_settle at hf
  change 𝒥 0 0 (wR g ar r.1 r.2.1 r.2.2) [(0, .ref (ar 0)), (1, .int a1)] [] 0
  exact L0 100000 (a1, r) hf
abbrev rm_Mo_queue : Room := { frames := 0, cells := 0, slots := 0, locals := 0 }
theorem cv_Mo_queue : CV y_Mo_queue b_Mo_queue 3 none 2 := ⟨⟨tw1337, tw10, by decide +kernel⟩, tw1336, (sw_ (q := (y_Mo_queue, 54)) (by decide +kernel) (by decide +kernel))⟩
set_option maxHeartbeats 4000000 in
set_option maxRecDepth 100000 in
theorem c_Mo_queue {g : GT} {ar : Nat → Nat} {a1 : Int32} {a2 : Int32} {r : RS} {q : RS} (hf : f_Mo_queue a1 a2 r = some q) : MV g y_Mo_queue b_Mo_queue 3 none rm_Mo_queue [.ref (ar 0), .int a1, .int a2] (wR g ar r.1 r.2.1 r.2.2) (wR g ar q.1 q.2.1 q.2.2) := by
  refine MV.of (by decide) (Nat.le_of_ble_eq_true rfl) (fun 𝒥 C => ?_)
  unfold f_Mo_queue at hf
  change 𝒥 0 0 (wR g ar r.1 r.2.1 r.2.2) [(0, .ref (ar 0)), (1, .int a1), (2, .int a2)] [] 0
  refine j_aload_n (pc := 0) C d_Mo_queue_0 rfl 0 rfl ?_
  refine j_get (pc := 1) C d_Mo_queue_1 0 40 wR_o0 rfl (v := .ref (ar 28)) rfl (by decide) tw982 ?_
  refine j_aload_n (pc := 4) C d_Mo_queue_4 rfl 0 rfl ?_
  refine j_get (pc := 5) C d_Mo_queue_5 0 39 wR_o0 rfl (v := .int (r.2.1 12)) rfl (by decide) tw981 ?_
  refine j_iload_n (pc := 8) C d_Mo_queue_8 rfl 1 rfl ?_
  obtain ⟨b1, hf⟩ := og hf
  refine j_iast (pc := 9) C d_Mo_queue_9 28 (inb_in b1) wR_a28 (ws' := wR g ar (va_up r.1 28 (upd (r.1 28) (r.2.1 12).toNatClampNeg a1)) r.2.1 r.2.2) wR_s28 ?_
  refine j_aload_n (pc := 10) C d_Mo_queue_10 rfl 0 rfl ?_
  refine j_get (pc := 11) C d_Mo_queue_11 0 41 wR_o0 rfl (v := .ref (ar 29)) rfl (by decide) tw983 ?_
  refine j_aload_n (pc := 14) C d_Mo_queue_14 rfl 0 rfl ?_
  refine j_get (pc := 15) C d_Mo_queue_15 0 39 wR_o0 rfl (v := .int (r.2.1 12)) rfl (by decide) tw981 ?_
  refine j_iload_n (pc := 18) C d_Mo_queue_18 rfl 2 rfl ?_
  obtain ⟨b2, hf⟩ := og hf
  refine j_iast (pc := 19) C d_Mo_queue_19 29 (inb_in b2) wR_a29 (ws' := wR g ar (va_up (va_up r.1 28 (upd (r.1 28) (r.2.1 12).toNatClampNeg a1)) 29 (upd (r.1 29) (r.2.1 12).toNatClampNeg a2)) r.2.1 r.2.2) wR_s29 ?_
  refine j_aload_n (pc := 20) C d_Mo_queue_20 rfl 0 rfl ?_
  refine j_dup (pc := 21) C d_Mo_queue_21 rfl ?_
  refine j_get (pc := 22) C d_Mo_queue_22 0 39 wR_o0 rfl (v := .int (r.2.1 12)) rfl (by decide) tw981 ?_
  refine j_iconst (pc := 25) C d_Mo_queue_25 ck_1 ?_
  refine j_iadd (pc := 26) C d_Mo_queue_26 ?_
  refine j_put (pc := 27) C d_Mo_queue_27 0 39 wR_o0 rfl (by decide) tw981 pd_I rfl rfl rfl (Nat.le_of_ble_eq_true rfl) (ws' := wR g ar (va_up (va_up r.1 28 (upd (r.1 28) (r.2.1 12).toNatClampNeg a1)) 29 (upd (r.1 29) (r.2.1 12).toNatClampNeg a2)) (va_up r.2.1 12 ((r.2.1 12) + 1)) r.2.2) wR_p0_39 ?_
  cases hf
  exact j_vret (pc := 30) C d_Mo_queue_30 ⟨rfl, rfl⟩ (Nat.le_of_ble_eq_true rfl) (Nat.le_of_ble_eq_true rfl)
abbrev rm_Mo_compile : Room := { frames := 2, cells := 0, slots := 0, locals := 43 }
theorem cv_Mo_compile : CV y_Mo_compile b_Mo_compile 5 (some .int) 1 := ⟨⟨tw1333, tw10, by decide +kernel⟩, tw1332, (sw_ (q := (y_Mo_compile, 54)) (by decide +kernel) (by decide +kernel))⟩
set_option maxHeartbeats 4000000 in
set_option maxRecDepth 100000 in
theorem c_Mo_compile {g : GT} {ar : Nat → Nat} {a1 : Int32} {r : RS} {q : Int32 × RS} (hf : f_Mo_compile a1 r = some q) : MI g y_Mo_compile b_Mo_compile 5 (some .int) rm_Mo_compile [.ref (ar 0), .int a1] (wR g ar r.1 r.2.1 r.2.2) q.1 (wR g ar q.2.1 q.2.2.1 q.2.2.2) := by
  refine MI.of (by decide) (Nat.le_of_ble_eq_true rfl) (fun 𝒥 C => ?_)
  have L9 : ∀ (n : Nat) (x : Int32 × Int32 × Int32 × RS), lpN (BMo_compile_9) n x = some q → 𝒥 0 0 (wR g ar x.2.2.2.1 x.2.2.2.2.1 x.2.2.2.2.2) [(0, .ref (ar 0)), (1, .int x.1), (2, .int x.2.1), (3, .int x.2.2.1)] [] 9 := by
    refine lp_ind (fun k9 k9_ih x hf => ?_)
    unfold BMo_compile_9 at hf
    refine j_iload_n (pc := 9) C d_Mo_compile_9 rfl 3 rfl ?_
    refine j_if_eq (pc := 10) C d_Mo_compile_10 (tgt := 246) rfl (fun h1 => ?_) (fun h1 => ?_)
    · rw [if_pos h1] at hf
      refine j_iload_n (pc := 246) C d_Mo_compile_246 rfl 2 rfl ?_
      cases hf
      exact j_iret (pc := 247) C d_Mo_compile_247 ⟨rfl, rfl⟩ (Nat.le_of_ble_eq_true rfl) (Nat.le_of_ble_eq_true rfl)
    · rw [if_neg h1] at hf
      refine j_aload_n (pc := 13) C d_Mo_compile_13 rfl 0 rfl ?_
      refine j_get (pc := 14) C d_Mo_compile_14 0 2 wR_o0 rfl (v := .ref (ar 2)) rfl (by decide) tw944 ?_
      refine j_aload_n (pc := 17) C d_Mo_compile_17 rfl 0 rfl ?_
      refine j_get (pc := 18) C d_Mo_compile_18 0 9 wR_o0 rfl (v := .ref (ar 6)) rfl (by decide) tw951 ?_
      refine j_iload_n (pc := 21) C d_Mo_compile_21 rfl 2 rfl ?_
      obtain ⟨b2, hf⟩ := og hf
      refine j_iald (pc := 22) C d_Mo_compile_22 6 (inb_in b2) (x := x.2.2.2.1 6 x.2.1.toNatClampNeg) wR_a6 rfl ?_
      obtain ⟨b3, hf⟩ := og hf
      refine j_iald (pc := 23) C d_Mo_compile_23 2 (inb_in b3) (x := x.2.2.2.1 2 (x.2.2.2.1 6 x.2.1.toNatClampNeg).toNatClampNeg) wR_a2 rfl ?_
      refine j_topi C (fun v4 ev4 => ?_)
      replace hf := ov ev4 hf
      refine j_istore (pc := 24) C d_Mo_compile_24 [1, 2, 3, 4, 0] (by decide) (lc' := [(0, .ref (ar 0)), (1, .int x.1), (2, .int x.2.1), (3, .int x.2.2.1), (4, .int v4)]) rfl ?_
      refine j_aload_n (pc := 26) C d_Mo_compile_26 rfl 0 rfl ?_
      refine j_get (pc := 27) C d_Mo_compile_27 0 8 wR_o0 rfl (v := .ref (ar 5)) rfl (by decide) tw950 ?_
      refine j_iload_n (pc := 30) C d_Mo_compile_30 rfl 2 rfl ?_
      obtain ⟨b5, hf⟩ := og hf
      refine j_iald (pc := 31) C d_Mo_compile_31 5 (inb_in b5) (x := x.2.2.2.1 5 x.2.1.toNatClampNeg) wR_a5 rfl ?_
      refine j_iconst (pc := 32) C d_Mo_compile_32 ck_3 ?_
      refine j_icmp_ne (pc := 33) C d_Mo_compile_33 (tgt := 51) rfl (fun h6 => ?_) (fun h6 => ?_)
      · rw [if_neg h6] at hf
        refine j_aload_n (pc := 51) C d_Mo_compile_51 rfl 0 rfl ?_
        refine j_get (pc := 52) C d_Mo_compile_52 0 12 wR_o0 rfl (v := .ref (ar 9)) rfl (by decide) tw954 ?_
        refine j_iload_n (pc := 55) C d_Mo_compile_55 rfl 2 rfl ?_
        obtain ⟨b7, hf⟩ := og hf
        refine j_iald (pc := 56) C d_Mo_compile_56 9 (inb_in b7) (x := x.2.2.2.1 9 x.2.1.toNatClampNeg) wR_a9 rfl ?_
        refine j_iconst (pc := 57) C d_Mo_compile_57 ck_5 ?_
        refine j_icmp_ne (pc := 58) C d_Mo_compile_58 (tgt := 80) rfl (fun h8 => ?_) (fun h8 => ?_)
        · rw [if_neg h8] at hf
          refine j_aload_n (pc := 80) C d_Mo_compile_80 rfl 0 rfl ?_
          refine j_get (pc := 81) C d_Mo_compile_81 0 12 wR_o0 rfl (v := .ref (ar 9)) rfl (by decide) tw954 ?_
          refine j_iload_n (pc := 84) C d_Mo_compile_84 rfl 2 rfl ?_
          obtain ⟨b9, hf⟩ := og hf
          refine j_iald (pc := 85) C d_Mo_compile_85 9 (inb_in b9) (x := x.2.2.2.1 9 x.2.1.toNatClampNeg) wR_a9 rfl ?_
          refine j_bipush (pc := 86) C d_Mo_compile_86 cb_6 ?_
          refine j_icmp_ne (pc := 88) C d_Mo_compile_88 (tgt := 113) rfl (fun h10 => ?_) (fun h10 => ?_)
          · rw [if_neg h10] at hf
            refine j_iload (pc := 113) C d_Mo_compile_113 4 rfl ?_
            refine j_bipush (pc := 115) C d_Mo_compile_115 cb_40 ?_
            refine j_icmp_ne (pc := 117) C d_Mo_compile_117 (tgt := 130) rfl (fun h11 => ?_) (fun h11 => ?_)
            · rw [if_neg h11] at hf
              refine j_iload (pc := 130) C d_Mo_compile_130 4 rfl ?_
              refine j_bipush (pc := 132) C d_Mo_compile_132 cb_44 ?_
              refine j_icmp_ne (pc := 134) C d_Mo_compile_134 (tgt := 145) rfl (fun h12 => ?_) (fun h12 => ?_)
              · rw [if_neg h12] at hf
                refine j_iload (pc := 145) C d_Mo_compile_145 4 rfl ?_
                refine j_bipush (pc := 147) C d_Mo_compile_147 cb_41 ?_
                refine j_icmp_ne (pc := 149) C d_Mo_compile_149 (tgt := 197) rfl (fun h13 => ?_) (fun h13 => ?_)
                · rw [if_neg h13] at hf
                  refine j_iload (pc := 197) C d_Mo_compile_197 4 rfl ?_
                  obtain ⟨q14, eq14, hf⟩ := ob hf
                  refine j_callSi (pc := 199) C (rest := []) d_Mo_compile_199 (c_Mo_rank (g := g)  eq14) cv_Mo_rank tw1342 cut_none rfl rfl (Nat.le_of_ble_eq_true rfl) (kc2 := 0) (ks2 := 0) (by decide) ?_
                  refine j_if_le (pc := 202) C d_Mo_compile_202 (tgt := 224) rfl (fun h15 => ?_) (fun h15 => ?_)
                  · rw [if_pos h15] at hf
                    refine j_aload_n (pc := 224) C d_Mo_compile_224 rfl 0 rfl ?_
                    refine j_iconst (pc := 225) C d_Mo_compile_225 ck_1 ?_
                    obtain ⟨q16, eq16, hf⟩ := ob hf
                    refine j_callVv (pc := 226) C (rest := []) d_Mo_compile_226 (c_Mo_settle (g := g) (ar := ar) eq16) cv_Mo_settle tw1338 0 rfl rfl cut_same rfl rfl (Nat.le_of_ble_eq_true rfl) (kc2 := 0) (ks2 := 0) (by decide) ?_
                    refine j_iconst (pc := 229) C d_Mo_compile_229 ck_0 ?_
                    refine j_istore_n (pc := 230) C d_Mo_compile_230 rfl [1, 2, 3, 0, 4] (by decide) (lc' := [(0, .ref (ar 0)), (1, .int x.1), (2, .int x.2.1), (3, .int 0), (4, .int v4)]) rfl ?_
                    refine j_iload_n (pc := 231) C d_Mo_compile_231 rfl 3 rfl ?_
                    refine j_if_eq (pc := 232) C d_Mo_compile_232 (tgt := 241) rfl (fun _ => ?_) (fun h => absurd h (by decide))
                    refine j_iload_n (pc := 241) C d_Mo_compile_241 rfl 2 rfl ?_
                    refine j_istore_n (pc := 242) C d_Mo_compile_242 rfl [1, 2, 0, 3, 4] (by decide) (lc' := [(0, .ref (ar 0)), (1, .int x.1), (2, .int x.2.1), (3, .int 0), (4, .int v4)]) rfl ?_
                    refine j_goto (pc := 243) C d_Mo_compile_243 (tgt := 9) rfl ?_
                    refine j_lc C (lc' := [(0, .ref (ar 0)), (1, .int x.1), (2, .int x.2.1), (3, .int 0)]) [0, 1, 2, 3] rfl ?_
                    exact k9_ih (x.1, x.2.1, 0, q16) hf
                  · rw [if_neg h15] at hf
                    refine j_aload_n (pc := 205) C d_Mo_compile_205 rfl 0 rfl ?_
                    refine j_iload (pc := 206) C d_Mo_compile_206 4 rfl ?_
                    obtain ⟨q17, eq17, hf⟩ := ob hf
                    refine j_callSi (pc := 208) C (rest := [.ref (ar 0)]) d_Mo_compile_208 (c_Mo_rank (g := g)  eq17) cv_Mo_rank tw1342 cut_none rfl rfl (Nat.le_of_ble_eq_true rfl) (kc2 := 0) (ks2 := 0) (by decide) ?_
                    obtain ⟨q18, eq18, hf⟩ := ob hf
                    refine j_callVv (pc := 211) C (rest := []) d_Mo_compile_211 (c_Mo_settle (g := g) (ar := ar) eq18) cv_Mo_settle tw1338 0 rfl rfl cut_same rfl rfl (Nat.le_of_ble_eq_true rfl) (kc2 := 0) (ks2 := 0) (by decide) ?_
                    refine j_aload_n (pc := 214) C d_Mo_compile_214 rfl 0 rfl ?_
                    refine j_iload (pc := 215) C d_Mo_compile_215 4 rfl ?_
                    refine j_iconst (pc := 217) C d_Mo_compile_217 ck_m1 ?_
                    obtain ⟨q19, eq19, hf⟩ := ob hf
                    refine j_callVv (pc := 218) C (rest := []) d_Mo_compile_218 (c_Mo_queue (g := g) (ar := ar) eq19) cv_Mo_queue tw1334 0 rfl rfl cut_same rfl rfl (Nat.le_of_ble_eq_true rfl) (kc2 := 0) (ks2 := 0) (by decide) ?_
                    refine j_goto (pc := 221) C d_Mo_compile_221 (tgt := 231) rfl ?_
                    refine j_iload_n (pc := 231) C d_Mo_compile_231 rfl 3 rfl ?_
                    refine j_if_eq (pc := 232) C d_Mo_compile_232 (tgt := 241) rfl (fun h20 => ?_) (fun h20 => ?_)
                    · rw [if_pos h20] at hf
                      refine j_iload_n (pc := 241) C d_Mo_compile_241 rfl 2 rfl ?_
                      refine j_istore_n (pc := 242) C d_Mo_compile_242 rfl [1, 2, 0, 3, 4] (by decide) (lc' := [(0, .ref (ar 0)), (1, .int x.1), (2, .int x.2.1), (3, .int x.2.2.1), (4, .int v4)]) rfl ?_
                      refine j_goto (pc := 243) C d_Mo_compile_243 (tgt := 9) rfl ?_
                      refine j_lc C (lc' := [(0, .ref (ar 0)), (1, .int x.1), (2, .int x.2.1), (3, .int x.2.2.1)]) [0, 1, 2, 3] rfl ?_
                      exact k9_ih (x.1, x.2.1, x.2.2.1, q19) hf
                    · rw [if_neg h20] at hf
                      refine j_iload_n (pc := 235) C d_Mo_compile_235 rfl 2 rfl ?_
                      refine j_iconst (pc := 236) C d_Mo_compile_236 ck_1 ?_
                      refine j_iadd (pc := 237) C d_Mo_compile_237 ?_
                      refine j_goto (pc := 238) C d_Mo_compile_238 (tgt := 242) rfl ?_
                      refine j_istore_n (pc := 242) C d_Mo_compile_242 rfl [1, 2, 0, 3, 4] (by decide) (lc' := [(0, .ref (ar 0)), (1, .int x.1), (2, .int (x.2.1 + 1)), (3, .int x.2.2.1), (4, .int v4)]) rfl ?_
                      refine j_goto (pc := 243) C d_Mo_compile_243 (tgt := 9) rfl ?_
                      refine j_lc C (lc' := [(0, .ref (ar 0)), (1, .int x.1), (2, .int (x.2.1 + 1)), (3, .int x.2.2.1)]) [0, 1, 2, 3] rfl ?_
                      exact k9_ih (x.1, x.2.1 + 1, x.2.2.1, q19) hf
                · rw [if_pos h13] at hf
                  refine j_aload_n (pc := 152) C d_Mo_compile_152 rfl 0 rfl ?_
                  refine j_iconst (pc := 153) C d_Mo_compile_153 ck_1 ?_
                  obtain ⟨q21, eq21, hf⟩ := ob hf
                  refine j_callVv (pc := 154) C (rest := []) d_Mo_compile_154 (c_Mo_settle (g := g) (ar := ar) eq21) cv_Mo_settle tw1338 0 rfl rfl cut_same rfl rfl (Nat.le_of_ble_eq_true rfl) (kc2 := 0) (ks2 := 0) (by decide) ?_
                  refine j_aload_n (pc := 157) C d_Mo_compile_157 rfl 0 rfl ?_
                  refine j_dup (pc := 158) C d_Mo_compile_158 rfl ?_
                  refine j_get (pc := 159) C d_Mo_compile_159 0 39 wR_o0 rfl (v := .int (q21.2.1 12)) rfl (by decide) tw981 ?_
                  refine j_iconst (pc := 162) C d_Mo_compile_162 ck_1 ?_
                  refine j_isub (pc := 163) C d_Mo_compile_163 ?_
                  refine j_put (pc := 164) C d_Mo_compile_164 0 39 wR_o0 rfl (by decide) tw981 pd_I rfl rfl rfl (Nat.le_of_ble_eq_true rfl) (ws' := wR g ar q21.1 (va_up q21.2.1 12 ((q21.2.1 12) - 1)) q21.2.2) wR_p0_39 ?_
                  refine j_aload_n (pc := 167) C d_Mo_compile_167 rfl 0 rfl ?_
                  refine j_get (pc := 168) C d_Mo_compile_168 0 41 wR_o0 rfl (v := .ref (ar 29)) rfl (by decide) tw983 ?_
                  refine j_aload_n (pc := 171) C d_Mo_compile_171 rfl 0 rfl ?_
                  refine j_get (pc := 172) C d_Mo_compile_172 0 39 wR_o0 rfl (v := .int ((q21.2.1 12) - 1)) rfl (by decide) tw981 ?_
                  obtain ⟨b22, hf⟩ := og hf
                  refine j_iald (pc := 175) C d_Mo_compile_175 29 (inb_in b22) (x := q21.1 29 ((q21.2.1 12) - 1).toNatClampNeg) wR_a29 rfl ?_
                  refine j_topi C (fun v23 ev23 => ?_)
                  replace hf := ov ev23 hf
                  refine j_if_lt (pc := 176) C d_Mo_compile_176 (tgt := 231) rfl (fun h24 => ?_) (fun h24 => ?_)
                  · rw [if_pos h24] at hf
                    refine j_iload_n (pc := 231) C d_Mo_compile_231 rfl 3 rfl ?_
                    refine j_if_eq (pc := 232) C d_Mo_compile_232 (tgt := 241) rfl (fun h25 => ?_) (fun h25 => ?_)
                    · rw [if_pos h25] at hf
                      refine j_iload_n (pc := 241) C d_Mo_compile_241 rfl 2 rfl ?_
                      refine j_istore_n (pc := 242) C d_Mo_compile_242 rfl [1, 2, 0, 3, 4] (by decide) (lc' := [(0, .ref (ar 0)), (1, .int x.1), (2, .int x.2.1), (3, .int x.2.2.1), (4, .int v4)]) rfl ?_
                      refine j_goto (pc := 243) C d_Mo_compile_243 (tgt := 9) rfl ?_
                      refine j_lc C (lc' := [(0, .ref (ar 0)), (1, .int x.1), (2, .int x.2.1), (3, .int x.2.2.1)]) [0, 1, 2, 3] rfl ?_
                      exact k9_ih (x.1, x.2.1, x.2.2.1, (q21.1, (va_up q21.2.1 12 ((q21.2.1 12) - 1)), q21.2.2)) hf
                    · rw [if_neg h25] at hf
                      refine j_iload_n (pc := 235) C d_Mo_compile_235 rfl 2 rfl ?_
                      refine j_iconst (pc := 236) C d_Mo_compile_236 ck_1 ?_
                      refine j_iadd (pc := 237) C d_Mo_compile_237 ?_
                      refine j_goto (pc := 238) C d_Mo_compile_238 (tgt := 242) rfl ?_
                      refine j_istore_n (pc := 242) C d_Mo_compile_242 rfl [1, 2, 0, 3, 4] (by decide) (lc' := [(0, .ref (ar 0)), (1, .int x.1), (2, .int (x.2.1 + 1)), (3, .int x.2.2.1), (4, .int v4)]) rfl ?_
                      refine j_goto (pc := 243) C d_Mo_compile_243 (tgt := 9) rfl ?_
                      refine j_lc C (lc' := [(0, .ref (ar 0)), (1, .int x.1), (2, .int (x.2.1 + 1)), (3, .int x.2.2.1)]) [0, 1, 2, 3] rfl ?_
                      exact k9_ih (x.1, x.2.1 + 1, x.2.2.1, (q21.1, (va_up q21.2.1 12 ((q21.2.1 12) - 1)), q21.2.2)) hf
                  · rw [if_neg h24] at hf
                    refine j_aload_n (pc := 179) C d_Mo_compile_179 rfl 0 rfl ?_
                    refine j_bipush (pc := 180) C d_Mo_compile_180 cb_7 ?_
                    refine j_aload_n (pc := 182) C d_Mo_compile_182 rfl 0 rfl ?_
                    refine j_get (pc := 183) C d_Mo_compile_183 0 41 wR_o0 rfl (v := .ref (ar 29)) rfl (by decide) tw983 ?_
                    refine j_aload_n (pc := 186) C d_Mo_compile_186 rfl 0 rfl ?_
                    refine j_get (pc := 187) C d_Mo_compile_187 0 39 wR_o0 rfl (v := .int ((q21.2.1 12) - 1)) rfl (by decide) tw981 ?_
                    obtain ⟨b26, hf⟩ := og hf
                    refine j_iald (pc := 190) C d_Mo_compile_190 29 (inb_in b26) (x := q21.1 29 ((q21.2.1 12) - 1).toNatClampNeg) wR_a29 rfl ?_
                    refine j_topi C (fun v27 ev27 => ?_)
                    replace hf := ov ev27 hf
                    obtain ⟨q28, eq28, hf⟩ := ob hf
                    refine j_callVv (pc := 191) C (rest := []) d_Mo_compile_191 (c_Mo_emit (g := g) (ar := ar) eq28) cv_Mo_emit tw1326 0 rfl rfl cut_same rfl rfl (Nat.le_of_ble_eq_true rfl) (kc2 := 0) (ks2 := 0) (by decide) ?_
                    refine j_goto (pc := 194) C d_Mo_compile_194 (tgt := 231) rfl ?_
                    refine j_iload_n (pc := 231) C d_Mo_compile_231 rfl 3 rfl ?_
                    refine j_if_eq (pc := 232) C d_Mo_compile_232 (tgt := 241) rfl (fun h29 => ?_) (fun h29 => ?_)
                    · rw [if_pos h29] at hf
                      refine j_iload_n (pc := 241) C d_Mo_compile_241 rfl 2 rfl ?_
                      refine j_istore_n (pc := 242) C d_Mo_compile_242 rfl [1, 2, 0, 3, 4] (by decide) (lc' := [(0, .ref (ar 0)), (1, .int x.1), (2, .int x.2.1), (3, .int x.2.2.1), (4, .int v4)]) rfl ?_
                      refine j_goto (pc := 243) C d_Mo_compile_243 (tgt := 9) rfl ?_
                      refine j_lc C (lc' := [(0, .ref (ar 0)), (1, .int x.1), (2, .int x.2.1), (3, .int x.2.2.1)]) [0, 1, 2, 3] rfl ?_
                      exact k9_ih (x.1, x.2.1, x.2.2.1, q28) hf
                    · rw [if_neg h29] at hf
                      refine j_iload_n (pc := 235) C d_Mo_compile_235 rfl 2 rfl ?_
                      refine j_iconst (pc := 236) C d_Mo_compile_236 ck_1 ?_
                      refine j_iadd (pc := 237) C d_Mo_compile_237 ?_
                      refine j_goto (pc := 238) C d_Mo_compile_238 (tgt := 242) rfl ?_
                      refine j_istore_n (pc := 242) C d_Mo_compile_242 rfl [1, 2, 0, 3, 4] (by decide) (lc' := [(0, .ref (ar 0)), (1, .int x.1), (2, .int (x.2.1 + 1)), (3, .int x.2.2.1), (4, .int v4)]) rfl ?_
                      refine j_goto (pc := 243) C d_Mo_compile_243 (tgt := 9) rfl ?_
                      refine j_lc C (lc' := [(0, .ref (ar 0)), (1, .int x.1), (2, .int (x.2.1 + 1)), (3, .int x.2.2.1)]) [0, 1, 2, 3] rfl ?_
                      exact k9_ih (x.1, x.2.1 + 1, x.2.2.1, q28) hf
              · rw [if_pos h12] at hf
                refine j_aload_n (pc := 137) C d_Mo_compile_137 rfl 0 rfl ?_
                refine j_iconst (pc := 138) C d_Mo_compile_138 ck_1 ?_
                obtain ⟨q30, eq30, hf⟩ := ob hf
                refine j_callVv (pc := 139) C (rest := []) d_Mo_compile_139 (c_Mo_settle (g := g) (ar := ar) eq30) cv_Mo_settle tw1338 0 rfl rfl cut_same rfl rfl (Nat.le_of_ble_eq_true rfl) (kc2 := 0) (ks2 := 0) (by decide) ?_
                refine j_goto (pc := 142) C d_Mo_compile_142 (tgt := 231) rfl ?_
                refine j_iload_n (pc := 231) C d_Mo_compile_231 rfl 3 rfl ?_
                refine j_if_eq (pc := 232) C d_Mo_compile_232 (tgt := 241) rfl (fun h31 => ?_) (fun h31 => ?_)
                · rw [if_pos h31] at hf
                  refine j_iload_n (pc := 241) C d_Mo_compile_241 rfl 2 rfl ?_
                  refine j_istore_n (pc := 242) C d_Mo_compile_242 rfl [1, 2, 0, 3, 4] (by decide) (lc' := [(0, .ref (ar 0)), (1, .int x.1), (2, .int x.2.1), (3, .int x.2.2.1), (4, .int v4)]) rfl ?_
                  refine j_goto (pc := 243) C d_Mo_compile_243 (tgt := 9) rfl ?_
                  refine j_lc C (lc' := [(0, .ref (ar 0)), (1, .int x.1), (2, .int x.2.1), (3, .int x.2.2.1)]) [0, 1, 2, 3] rfl ?_
                  exact k9_ih (x.1, x.2.1, x.2.2.1, q30) hf
                · rw [if_neg h31] at hf
                  refine j_iload_n (pc := 235) C d_Mo_compile_235 rfl 2 rfl ?_
                  refine j_iconst (pc := 236) C d_Mo_compile_236 ck_1 ?_
                  refine j_iadd (pc := 237) C d_Mo_compile_237 ?_
                  refine j_goto (pc := 238) C d_Mo_compile_238 (tgt := 242) rfl ?_
                  refine j_istore_n (pc := 242) C d_Mo_compile_242 rfl [1, 2, 0, 3, 4] (by decide) (lc' := [(0, .ref (ar 0)), (1, .int x.1), (2, .int (x.2.1 + 1)), (3, .int x.2.2.1), (4, .int v4)]) rfl ?_
                  refine j_goto (pc := 243) C d_Mo_compile_243 (tgt := 9) rfl ?_
                  refine j_lc C (lc' := [(0, .ref (ar 0)), (1, .int x.1), (2, .int (x.2.1 + 1)), (3, .int x.2.2.1)]) [0, 1, 2, 3] rfl ?_
                  exact k9_ih (x.1, x.2.1 + 1, x.2.2.1, q30) hf
            · rw [if_pos h11] at hf
              refine j_aload_n (pc := 120) C d_Mo_compile_120 rfl 0 rfl ?_
              refine j_bipush (pc := 121) C d_Mo_compile_121 cb_40 ?_
              refine j_iconst (pc := 123) C d_Mo_compile_123 ck_m1 ?_
              obtain ⟨q32, eq32, hf⟩ := ob hf
              refine j_callVv (pc := 124) C (rest := []) d_Mo_compile_124 (c_Mo_queue (g := g) (ar := ar) eq32) cv_Mo_queue tw1334 0 rfl rfl cut_same rfl rfl (Nat.le_of_ble_eq_true rfl) (kc2 := 0) (ks2 := 0) (by decide) ?_
              refine j_goto (pc := 127) C d_Mo_compile_127 (tgt := 231) rfl ?_
              refine j_iload_n (pc := 231) C d_Mo_compile_231 rfl 3 rfl ?_
              refine j_if_eq (pc := 232) C d_Mo_compile_232 (tgt := 241) rfl (fun h33 => ?_) (fun h33 => ?_)
              · rw [if_pos h33] at hf
                refine j_iload_n (pc := 241) C d_Mo_compile_241 rfl 2 rfl ?_
                refine j_istore_n (pc := 242) C d_Mo_compile_242 rfl [1, 2, 0, 3, 4] (by decide) (lc' := [(0, .ref (ar 0)), (1, .int x.1), (2, .int x.2.1), (3, .int x.2.2.1), (4, .int v4)]) rfl ?_
                refine j_goto (pc := 243) C d_Mo_compile_243 (tgt := 9) rfl ?_
                refine j_lc C (lc' := [(0, .ref (ar 0)), (1, .int x.1), (2, .int x.2.1), (3, .int x.2.2.1)]) [0, 1, 2, 3] rfl ?_
                exact k9_ih (x.1, x.2.1, x.2.2.1, q32) hf
              · rw [if_neg h33] at hf
                refine j_iload_n (pc := 235) C d_Mo_compile_235 rfl 2 rfl ?_
                refine j_iconst (pc := 236) C d_Mo_compile_236 ck_1 ?_
                refine j_iadd (pc := 237) C d_Mo_compile_237 ?_
                refine j_goto (pc := 238) C d_Mo_compile_238 (tgt := 242) rfl ?_
                refine j_istore_n (pc := 242) C d_Mo_compile_242 rfl [1, 2, 0, 3, 4] (by decide) (lc' := [(0, .ref (ar 0)), (1, .int x.1), (2, .int (x.2.1 + 1)), (3, .int x.2.2.1), (4, .int v4)]) rfl ?_
                refine j_goto (pc := 243) C d_Mo_compile_243 (tgt := 9) rfl ?_
                refine j_lc C (lc' := [(0, .ref (ar 0)), (1, .int x.1), (2, .int (x.2.1 + 1)), (3, .int x.2.2.1)]) [0, 1, 2, 3] rfl ?_
                exact k9_ih (x.1, x.2.1 + 1, x.2.2.1, q32) hf
          · rw [if_pos h10] at hf
            refine j_aload_n (pc := 91) C d_Mo_compile_91 rfl 0 rfl ?_
            refine j_bipush (pc := 92) C d_Mo_compile_92 cb_40 ?_
            refine j_aload_n (pc := 94) C d_Mo_compile_94 rfl 0 rfl ?_
            refine j_aload_n (pc := 95) C d_Mo_compile_95 rfl 0 rfl ?_
            refine j_get (pc := 96) C d_Mo_compile_96 0 13 wR_o0 rfl (v := .ref (ar 10)) rfl (by decide) tw955 ?_
            refine j_iload_n (pc := 99) C d_Mo_compile_99 rfl 2 rfl ?_
            obtain ⟨b34, hf⟩ := og hf
            refine j_iald (pc := 100) C d_Mo_compile_100 10 (inb_in b34) (x := x.2.2.2.1 10 x.2.1.toNatClampNeg) wR_a10 rfl ?_
            obtain ⟨q35, eq35, hf⟩ := ob hf
            refine j_callVi (pc := 101) C (rest := [.int 40, .ref (ar 0)]) d_Mo_compile_101 (c_Mo_partOf (g := g) (ar := ar) eq35) cv_Mo_partOf tw1254 0 rfl rfl cut_same rfl rfl (Nat.le_of_ble_eq_true rfl) (kc2 := 0) (ks2 := 0) (by decide) ?_
            obtain ⟨q36, eq36, hf⟩ := ob hf
            refine j_callVv (pc := 104) C (rest := []) d_Mo_compile_104 (c_Mo_queue (g := g) (ar := ar) eq36) cv_Mo_queue tw1334 0 rfl rfl cut_same rfl rfl (Nat.le_of_ble_eq_true rfl) (kc2 := 0) (ks2 := 0) (by decide) ?_
            refine j_iinc (pc := 107) C d_Mo_compile_107 2 rfl (v := x.2.1 + 1) (iv ci_1) [1, 2, 0, 3, 4] (by decide) (lc' := [(0, .ref (ar 0)), (1, .int x.1), (2, .int (x.2.1 + 1)), (3, .int x.2.2.1), (4, .int v4)]) rfl ?_
            refine j_goto (pc := 110) C d_Mo_compile_110 (tgt := 231) rfl ?_
            refine j_iload_n (pc := 231) C d_Mo_compile_231 rfl 3 rfl ?_
            refine j_if_eq (pc := 232) C d_Mo_compile_232 (tgt := 241) rfl (fun h37 => ?_) (fun h37 => ?_)
            · rw [if_pos h37] at hf
              refine j_iload_n (pc := 241) C d_Mo_compile_241 rfl 2 rfl ?_
              refine j_istore_n (pc := 242) C d_Mo_compile_242 rfl [1, 2, 0, 3, 4] (by decide) (lc' := [(0, .ref (ar 0)), (1, .int x.1), (2, .int (x.2.1 + 1)), (3, .int x.2.2.1), (4, .int v4)]) rfl ?_
              refine j_goto (pc := 243) C d_Mo_compile_243 (tgt := 9) rfl ?_
              refine j_lc C (lc' := [(0, .ref (ar 0)), (1, .int x.1), (2, .int (x.2.1 + 1)), (3, .int x.2.2.1)]) [0, 1, 2, 3] rfl ?_
              exact k9_ih (x.1, x.2.1 + 1, x.2.2.1, q36) hf
            · rw [if_neg h37] at hf
              refine j_iload_n (pc := 235) C d_Mo_compile_235 rfl 2 rfl ?_
              refine j_iconst (pc := 236) C d_Mo_compile_236 ck_1 ?_
              refine j_iadd (pc := 237) C d_Mo_compile_237 ?_
              refine j_goto (pc := 238) C d_Mo_compile_238 (tgt := 242) rfl ?_
              refine j_istore_n (pc := 242) C d_Mo_compile_242 rfl [1, 2, 0, 3, 4] (by decide) (lc' := [(0, .ref (ar 0)), (1, .int x.1), (2, .int ((x.2.1 + 1) + 1)), (3, .int x.2.2.1), (4, .int v4)]) rfl ?_
              refine j_goto (pc := 243) C d_Mo_compile_243 (tgt := 9) rfl ?_
              refine j_lc C (lc' := [(0, .ref (ar 0)), (1, .int x.1), (2, .int ((x.2.1 + 1) + 1)), (3, .int x.2.2.1)]) [0, 1, 2, 3] rfl ?_
              exact k9_ih (x.1, (x.2.1 + 1) + 1, x.2.2.1, q36) hf
        · rw [if_pos h8] at hf
          refine j_aload_n (pc := 61) C d_Mo_compile_61 rfl 0 rfl ?_
          refine j_iconst (pc := 62) C d_Mo_compile_62 ck_1 ?_
          refine j_aload_n (pc := 63) C d_Mo_compile_63 rfl 0 rfl ?_
          refine j_get (pc := 64) C d_Mo_compile_64 0 38 wR_o0 rfl (v := .ref (ar 27)) rfl (by decide) tw980 ?_
          refine j_aload_n (pc := 67) C d_Mo_compile_67 rfl 0 rfl ?_
          refine j_get (pc := 68) C d_Mo_compile_68 0 13 wR_o0 rfl (v := .ref (ar 10)) rfl (by decide) tw955 ?_
          refine j_iload_n (pc := 71) C d_Mo_compile_71 rfl 2 rfl ?_
          obtain ⟨b38, hf⟩ := og hf
          refine j_iald (pc := 72) C d_Mo_compile_72 10 (inb_in b38) (x := x.2.2.2.1 10 x.2.1.toNatClampNeg) wR_a10 rfl ?_
          obtain ⟨b39, hf⟩ := og hf
          refine j_iald (pc := 73) C d_Mo_compile_73 27 (inb_in b39) (x := x.2.2.2.1 27 (x.2.2.2.1 10 x.2.1.toNatClampNeg).toNatClampNeg) wR_a27 rfl ?_
          refine j_topi C (fun v40 ev40 => ?_)
          replace hf := ov ev40 hf
          obtain ⟨q41, eq41, hf⟩ := ob hf
          refine j_callVv (pc := 74) C (rest := []) d_Mo_compile_74 (c_Mo_emit (g := g) (ar := ar) eq41) cv_Mo_emit tw1326 0 rfl rfl cut_same rfl rfl (Nat.le_of_ble_eq_true rfl) (kc2 := 0) (ks2 := 0) (by decide) ?_
          refine j_goto (pc := 77) C d_Mo_compile_77 (tgt := 231) rfl ?_
          refine j_iload_n (pc := 231) C d_Mo_compile_231 rfl 3 rfl ?_
          refine j_if_eq (pc := 232) C d_Mo_compile_232 (tgt := 241) rfl (fun h42 => ?_) (fun h42 => ?_)
          · rw [if_pos h42] at hf
            refine j_iload_n (pc := 241) C d_Mo_compile_241 rfl 2 rfl ?_
            refine j_istore_n (pc := 242) C d_Mo_compile_242 rfl [1, 2, 0, 3, 4] (by decide) (lc' := [(0, .ref (ar 0)), (1, .int x.1), (2, .int x.2.1), (3, .int x.2.2.1), (4, .int v4)]) rfl ?_
            refine j_goto (pc := 243) C d_Mo_compile_243 (tgt := 9) rfl ?_
            refine j_lc C (lc' := [(0, .ref (ar 0)), (1, .int x.1), (2, .int x.2.1), (3, .int x.2.2.1)]) [0, 1, 2, 3] rfl ?_
            exact k9_ih (x.1, x.2.1, x.2.2.1, q41) hf
          · rw [if_neg h42] at hf
            refine j_iload_n (pc := 235) C d_Mo_compile_235 rfl 2 rfl ?_
            refine j_iconst (pc := 236) C d_Mo_compile_236 ck_1 ?_
            refine j_iadd (pc := 237) C d_Mo_compile_237 ?_
            refine j_goto (pc := 238) C d_Mo_compile_238 (tgt := 242) rfl ?_
            refine j_istore_n (pc := 242) C d_Mo_compile_242 rfl [1, 2, 0, 3, 4] (by decide) (lc' := [(0, .ref (ar 0)), (1, .int x.1), (2, .int (x.2.1 + 1)), (3, .int x.2.2.1), (4, .int v4)]) rfl ?_
            refine j_goto (pc := 243) C d_Mo_compile_243 (tgt := 9) rfl ?_
            refine j_lc C (lc' := [(0, .ref (ar 0)), (1, .int x.1), (2, .int (x.2.1 + 1)), (3, .int x.2.2.1)]) [0, 1, 2, 3] rfl ?_
            exact k9_ih (x.1, x.2.1 + 1, x.2.2.1, q41) hf
      · rw [if_pos h6] at hf
        refine j_aload_n (pc := 36) C d_Mo_compile_36 rfl 0 rfl ?_
        refine j_iconst (pc := 37) C d_Mo_compile_37 ck_0 ?_
        refine j_aload_n (pc := 38) C d_Mo_compile_38 rfl 0 rfl ?_
        refine j_get (pc := 39) C d_Mo_compile_39 0 11 wR_o0 rfl (v := .ref (ar 8)) rfl (by decide) tw953 ?_
        refine j_iload_n (pc := 42) C d_Mo_compile_42 rfl 2 rfl ?_
        obtain ⟨b43, hf⟩ := og hf
        refine j_lald (pc := 43) C d_Mo_compile_43 8 (inb_in b43) (x := x.2.2.2.2.2 8 x.2.1.toNatClampNeg) wR_a8 rfl ?_
        refine j_l2i (pc := 44) C d_Mo_compile_44 rfl ?_
        refine j_topi C (fun v44 ev44 => ?_)
        replace hf := ov ev44 hf
        obtain ⟨q45, eq45, hf⟩ := ob hf
        refine j_callVv (pc := 45) C (rest := []) d_Mo_compile_45 (c_Mo_emit (g := g) (ar := ar) eq45) cv_Mo_emit tw1326 0 rfl rfl cut_same rfl rfl (Nat.le_of_ble_eq_true rfl) (kc2 := 0) (ks2 := 0) (by decide) ?_
        refine j_goto (pc := 48) C d_Mo_compile_48 (tgt := 231) rfl ?_
        refine j_iload_n (pc := 231) C d_Mo_compile_231 rfl 3 rfl ?_
        refine j_if_eq (pc := 232) C d_Mo_compile_232 (tgt := 241) rfl (fun h46 => ?_) (fun h46 => ?_)
        · rw [if_pos h46] at hf
          refine j_iload_n (pc := 241) C d_Mo_compile_241 rfl 2 rfl ?_
          refine j_istore_n (pc := 242) C d_Mo_compile_242 rfl [1, 2, 0, 3, 4] (by decide) (lc' := [(0, .ref (ar 0)), (1, .int x.1), (2, .int x.2.1), (3, .int x.2.2.1), (4, .int v4)]) rfl ?_
          refine j_goto (pc := 243) C d_Mo_compile_243 (tgt := 9) rfl ?_
          refine j_lc C (lc' := [(0, .ref (ar 0)), (1, .int x.1), (2, .int x.2.1), (3, .int x.2.2.1)]) [0, 1, 2, 3] rfl ?_
          exact k9_ih (x.1, x.2.1, x.2.2.1, q45) hf
        · rw [if_neg h46] at hf
          refine j_iload_n (pc := 235) C d_Mo_compile_235 rfl 2 rfl ?_
          refine j_iconst (pc := 236) C d_Mo_compile_236 ck_1 ?_
          refine j_iadd (pc := 237) C d_Mo_compile_237 ?_
          refine j_goto (pc := 238) C d_Mo_compile_238 (tgt := 242) rfl ?_
          refine j_istore_n (pc := 242) C d_Mo_compile_242 rfl [1, 2, 0, 3, 4] (by decide) (lc' := [(0, .ref (ar 0)), (1, .int x.1), (2, .int (x.2.1 + 1)), (3, .int x.2.2.1), (4, .int v4)]) rfl ?_
          refine j_goto (pc := 243) C d_Mo_compile_243 (tgt := 9) rfl ?_
          refine j_lc C (lc' := [(0, .ref (ar 0)), (1, .int x.1), (2, .int (x.2.1 + 1)), (3, .int x.2.2.1)]) [0, 1, 2, 3] rfl ?_
          exact k9_ih (x.1, x.2.1 + 1, x.2.2.1, q45) hf
  unfold f_Mo_compile at hf
  change 𝒥 0 0 (wR g ar r.1 r.2.1 r.2.2) [(0, .ref (ar 0)), (1, .int a1)] [] 0
  refine j_aload_n (pc := 0) C d_Mo_compile_0 rfl 0 rfl ?_
  refine j_iconst (pc := 1) C d_Mo_compile_1 ck_0 ?_
  refine j_put (pc := 2) C d_Mo_compile_2 0 39 wR_o0 rfl (by decide) tw981 pd_I rfl rfl rfl (Nat.le_of_ble_eq_true rfl) (ws' := wR g ar r.1 (va_up r.2.1 12 0) r.2.2) wR_p0_39 ?_
  refine j_iload_n (pc := 5) C d_Mo_compile_5 rfl 1 rfl ?_
  refine j_istore_n (pc := 6) C d_Mo_compile_6 rfl [1, 2, 0] (by decide) (lc' := [(0, .ref (ar 0)), (1, .int a1), (2, .int a1)]) rfl ?_
  refine j_iconst (pc := 7) C d_Mo_compile_7 ck_1 ?_
  refine j_istore_n (pc := 8) C d_Mo_compile_8 rfl [1, 2, 3, 0] (by decide) (lc' := [(0, .ref (ar 0)), (1, .int a1), (2, .int a1), (3, .int 1)]) rfl ?_
  exact L9 100000 (a1, a1, 1, (r.1, (va_up r.2.1 12 0), r.2.2)) hf
abbrev rm_Mo_function : Room := { frames := 3, cells := 0, slots := 0, locals := 67 }
theorem cv_Mo_function : CV y_Mo_function b_Mo_function 7 none 1 := ⟨⟨tw1325, tw10, by decide +kernel⟩, tw1324, (sw_ (q := (y_Mo_function, 54)) (by decide +kernel) (by decide +kernel))⟩
set_option maxHeartbeats 4000000 in
set_option maxRecDepth 100000 in
theorem c_Mo_function {g : GT} {ar : Nat → Nat} {a1 : Int32} {r : RS} {q : RS} (hf : f_Mo_function a1 r = some q) : MV g y_Mo_function b_Mo_function 7 none rm_Mo_function [.ref (ar 0), .int a1] (wR g ar r.1 r.2.1 r.2.2) (wR g ar q.1 q.2.1 q.2.2) := by
  refine MV.of (by decide) (Nat.le_of_ble_eq_true rfl) (fun 𝒥 C => ?_)
  have L91 : ∀ (n : Nat) (x : Int32 × Int32 × Int32 × Int32 × RS), lpN (BMo_function_91) n x = some q → 𝒥 0 0 (wR g ar x.2.2.2.2.1 x.2.2.2.2.2.1 x.2.2.2.2.2.2) [(0, .ref (ar 0)), (1, .int x.1), (2, .int x.2.1), (3, .int x.2.2.1), (4, .int x.2.2.2.1)] [] 91 := by
    refine lp_ind (fun k91 k91_ih x hf => ?_)
    unfold BMo_function_91 at hf
    refine j_iload_n (pc := 91) C d_Mo_function_91 rfl 3 rfl ?_
    refine j_aload_n (pc := 92) C d_Mo_function_92 rfl 0 rfl ?_
    refine j_get (pc := 93) C d_Mo_function_93 0 21 wR_o0 rfl (v := .ref (ar 17)) rfl (by decide) tw963 ?_
    refine j_iload_n (pc := 96) C d_Mo_function_96 rfl 1 rfl ?_
    obtain ⟨b8, hf⟩ := og hf
    refine j_iald (pc := 97) C d_Mo_function_97 17 (inb_in b8) (x := x.2.2.2.2.1 17 x.1.toNatClampNeg) wR_a17 rfl ?_
    refine j_icmp_ge (pc := 98) C d_Mo_function_98 (tgt := 379) rfl (fun h9 => ?_) (fun h9 => ?_)
    · rw [if_pos h9] at hf
      refine j_aload_n (pc := 379) C d_Mo_function_379 rfl 0 rfl ?_
      refine j_iconst (pc := 380) C d_Mo_function_380 ck_0 ?_
      refine j_iconst (pc := 381) C d_Mo_function_381 ck_0 ?_
      obtain ⟨q10, eq10, hf⟩ := ob hf
      refine j_callVv (pc := 382) C (rest := []) d_Mo_function_382 (c_Mo_emit (g := g) (ar := ar) eq10) cv_Mo_emit tw1326 0 rfl rfl cut_same rfl rfl (Nat.le_of_ble_eq_true rfl) (kc2 := 0) (ks2 := 0) (by decide) ?_
      refine j_aload_n (pc := 385) C d_Mo_function_385 rfl 0 rfl ?_
      refine j_iconst (pc := 386) C d_Mo_function_386 ck_4 ?_
      refine j_iconst (pc := 387) C d_Mo_function_387 ck_0 ?_
      obtain ⟨q11, eq11, hf⟩ := ob hf
      refine j_callVv (pc := 388) C (rest := []) d_Mo_function_388 (c_Mo_emit (g := g) (ar := ar) eq11) cv_Mo_emit tw1326 0 rfl rfl cut_same rfl rfl (Nat.le_of_ble_eq_true rfl) (kc2 := 0) (ks2 := 0) (by decide) ?_
      cases hf
      exact j_vret (pc := 391) C d_Mo_function_391 ⟨rfl, rfl⟩ (Nat.le_of_ble_eq_true rfl) (Nat.le_of_ble_eq_true rfl)
    · rw [if_neg h9] at hf
      refine j_aload_n (pc := 101) C d_Mo_function_101 rfl 0 rfl ?_
      refine j_get (pc := 102) C d_Mo_function_102 0 8 wR_o0 rfl (v := .ref (ar 5)) rfl (by decide) tw950 ?_
      refine j_iload_n (pc := 105) C d_Mo_function_105 rfl 3 rfl ?_
      obtain ⟨b12, hf⟩ := og hf
      refine j_iald (pc := 106) C d_Mo_function_106 5 (inb_in b12) (x := x.2.2.2.2.1 5 x.2.2.1.toNatClampNeg) wR_a5 rfl ?_
      refine j_iconst (pc := 107) C d_Mo_function_107 ck_1 ?_
      refine j_icmp_ne (pc := 108) C d_Mo_function_108 (tgt := 124) rfl (fun h13 => ?_) (fun h13 => ?_)
      · rw [if_neg h13] at hf
        refine j_iconst (pc := 124) C d_Mo_function_124 ck_0 ?_
        refine j_istore (pc := 125) C d_Mo_function_125 [1, 2, 3, 4, 5, 0] (by decide) (lc' := [(0, .ref (ar 0)), (1, .int x.1), (2, .int x.2.1), (3, .int x.2.2.1), (4, .int x.2.2.2.1), (5, .int 0)]) rfl ?_
        refine j_aload_n (pc := 127) C d_Mo_function_127 rfl 0 rfl ?_
        refine j_iload_n (pc := 128) C d_Mo_function_128 rfl 3 rfl ?_
        refine j_bipush (pc := 129) C d_Mo_function_129 cb_123 ?_
        obtain ⟨q14, eq14, hf⟩ := ob hf
        refine j_callVi (pc := 131) C (rest := []) d_Mo_function_131 (c_Mo_is (g := g) (ar := ar) eq14) cv_Mo_is tw1198 0 rfl rfl cut_same rfl rfl (Nat.le_of_ble_eq_true rfl) (kc2 := 0) (ks2 := 0) (by decide) ?_
        refine j_if_eq (pc := 134) C d_Mo_function_134 (tgt := 151) rfl (fun h15 => ?_) (fun h15 => ?_)
        · rw [if_pos h15] at hf
          refine j_aload_n (pc := 151) C d_Mo_function_151 rfl 0 rfl ?_
          refine j_iload_n (pc := 152) C d_Mo_function_152 rfl 3 rfl ?_
          refine j_bipush (pc := 153) C d_Mo_function_153 cb_125 ?_
          obtain ⟨q16, eq16, hf⟩ := ob hf
          refine j_callVi (pc := 155) C (rest := []) d_Mo_function_155 (c_Mo_is (g := g) (ar := ar) eq16) cv_Mo_is tw1198 0 rfl rfl cut_same rfl rfl (Nat.le_of_ble_eq_true rfl) (kc2 := 0) (ks2 := 0) (by decide) ?_
          refine j_if_eq (pc := 158) C d_Mo_function_158 (tgt := 217) rfl (fun h17 => ?_) (fun h17 => ?_)
          · rw [if_pos h17] at hf
            refine j_iload (pc := 217) C d_Mo_function_217 5 rfl ?_
            refine j_iconst (pc := 219) C d_Mo_function_219 ck_2 ?_
            refine j_icmp_eq (pc := 220) C d_Mo_function_220 (tgt := 229) rfl (fun h => absurd h (by decide)) (fun _ => ?_)
            refine j_iload (pc := 223) C d_Mo_function_223 5 rfl ?_
            refine j_iconst (pc := 225) C d_Mo_function_225 ck_3 ?_
            refine j_icmp_ne (pc := 226) C d_Mo_function_226 (tgt := 293) rfl (fun _ => ?_) (fun h => absurd h (by decide))
            refine j_iload (pc := 293) C d_Mo_function_293 5 rfl ?_
            refine j_iconst (pc := 295) C d_Mo_function_295 ck_4 ?_
            refine j_icmp_eq (pc := 296) C d_Mo_function_296 (tgt := 305) rfl (fun h => absurd h (by decide)) (fun _ => ?_)
            refine j_iload (pc := 299) C d_Mo_function_299 5 rfl ?_
            refine j_iconst (pc := 301) C d_Mo_function_301 ck_5 ?_
            refine j_icmp_ne (pc := 302) C d_Mo_function_302 (tgt := 332) rfl (fun _ => ?_) (fun h => absurd h (by decide))
            refine j_iload (pc := 332) C d_Mo_function_332 5 rfl ?_
            refine j_iconst (pc := 334) C d_Mo_function_334 ck_1 ?_
            refine j_icmp_ne (pc := 335) C d_Mo_function_335 (tgt := 344) rfl (fun _ => ?_) (fun h => absurd h (by decide))
            refine j_iload_n (pc := 344) C d_Mo_function_344 rfl 3 rfl ?_
            refine j_istore (pc := 345) C d_Mo_function_345 [1, 2, 3, 4, 5, 6, 0] (by decide) (lc' := [(0, .ref (ar 0)), (1, .int x.1), (2, .int x.2.1), (3, .int x.2.2.1), (4, .int x.2.2.2.1), (5, .int 0), (6, .int x.2.2.1)]) rfl ?_
            refine j_aload_n (pc := 347) C d_Mo_function_347 rfl 0 rfl ?_
            refine j_iload (pc := 348) C d_Mo_function_348 6 rfl ?_
            refine j_iconst (pc := 350) C d_Mo_function_350 ck_2 ?_
            refine j_iadd (pc := 351) C d_Mo_function_351 ?_
            obtain ⟨q18, eq18, hf⟩ := ob hf
            refine j_callVi (pc := 352) C (rest := []) d_Mo_function_352 (c_Mo_compile (g := g) (ar := ar) eq18) cv_Mo_compile tw1330 0 rfl rfl cut_same rfl rfl (Nat.le_of_ble_eq_true rfl) (kc2 := 0) (ks2 := 0) (by decide) ?_
            refine j_istore_n (pc := 355) C d_Mo_function_355 rfl [1, 2, 3, 0, 4, 5, 6] (by decide) (lc' := [(0, .ref (ar 0)), (1, .int x.1), (2, .int x.2.1), (3, .int q18.1), (4, .int x.2.2.2.1), (5, .int 0), (6, .int x.2.2.1)]) rfl ?_
            refine j_aload_n (pc := 356) C d_Mo_function_356 rfl 0 rfl ?_
            refine j_iconst (pc := 357) C d_Mo_function_357 ck_2 ?_
            refine j_aload_n (pc := 358) C d_Mo_function_358 rfl 0 rfl ?_
            refine j_get (pc := 359) C d_Mo_function_359 0 38 wR_o0 rfl (v := .ref (ar 27)) rfl (by decide) tw980 ?_
            refine j_aload_n (pc := 362) C d_Mo_function_362 rfl 0 rfl ?_
            refine j_get (pc := 363) C d_Mo_function_363 0 13 wR_o0 rfl (v := .ref (ar 10)) rfl (by decide) tw955 ?_
            refine j_iload (pc := 366) C d_Mo_function_366 6 rfl ?_
            obtain ⟨b19, hf⟩ := og hf
            refine j_iald (pc := 368) C d_Mo_function_368 10 (inb_in b19) (x := q18.2.1 10 x.2.2.1.toNatClampNeg) wR_a10 rfl ?_
            obtain ⟨b20, hf⟩ := og hf
            refine j_iald (pc := 369) C d_Mo_function_369 27 (inb_in b20) (x := q18.2.1 27 (q18.2.1 10 x.2.2.1.toNatClampNeg).toNatClampNeg) wR_a27 rfl ?_
            refine j_topi C (fun v21 ev21 => ?_)
            replace hf := ov ev21 hf
            obtain ⟨q22, eq22, hf⟩ := ob hf
            refine j_callVv (pc := 370) C (rest := []) d_Mo_function_370 (c_Mo_emit (g := g) (ar := ar) eq22) cv_Mo_emit tw1326 0 rfl rfl cut_same rfl rfl (Nat.le_of_ble_eq_true rfl) (kc2 := 0) (ks2 := 0) (by decide) ?_
            refine j_iinc (pc := 373) C d_Mo_function_373 3 rfl (v := q18.1 + 1) (iv ci_1) [1, 2, 3, 0, 4, 5, 6] (by decide) (lc' := [(0, .ref (ar 0)), (1, .int x.1), (2, .int x.2.1), (3, .int (q18.1 + 1)), (4, .int x.2.2.2.1), (5, .int 0), (6, .int x.2.2.1)]) rfl ?_
            refine j_goto (pc := 376) C d_Mo_function_376 (tgt := 91) rfl ?_
            refine j_lc C (lc' := [(0, .ref (ar 0)), (1, .int x.1), (2, .int x.2.1), (3, .int (q18.1 + 1)), (4, .int x.2.2.2.1)]) [0, 1, 2, 3, 4] rfl ?_
            exact k91_ih (x.1, x.2.1, q18.1 + 1, x.2.2.2.1, q22) hf
          · rw [if_neg h17] at hf
            refine j_iinc (pc := 161) C d_Mo_function_161 4 rfl (v := x.2.2.2.1 - 1) id_m1 [1, 2, 3, 4, 0, 5] (by decide) (lc' := [(0, .ref (ar 0)), (1, .int x.1), (2, .int x.2.1), (3, .int x.2.2.1), (4, .int (x.2.2.2.1 - 1)), (5, .int 0)]) rfl ?_
            refine j_aload_n (pc := 164) C d_Mo_function_164 rfl 0 rfl ?_
            refine j_get (pc := 165) C d_Mo_function_165 0 42 wR_o0 rfl (v := .ref (ar 30)) rfl (by decide) tw984 ?_
            refine j_iload (pc := 168) C d_Mo_function_168 4 rfl ?_
            obtain ⟨b23, hf⟩ := og hf
            refine j_iald (pc := 170) C d_Mo_function_170 30 (inb_in b23) (x := q16.2.1 30 (x.2.2.2.1 - 1).toNatClampNeg) wR_a30 rfl ?_
            refine j_iconst (pc := 171) C d_Mo_function_171 ck_3 ?_
            refine j_icmp_ne (pc := 172) C d_Mo_function_172 (tgt := 188) rfl (fun h24 => ?_) (fun h24 => ?_)
            · rw [if_neg h24] at hf
              refine j_aload_n (pc := 188) C d_Mo_function_188 rfl 0 rfl ?_
              refine j_get (pc := 189) C d_Mo_function_189 0 42 wR_o0 rfl (v := .ref (ar 30)) rfl (by decide) tw984 ?_
              refine j_iload (pc := 192) C d_Mo_function_192 4 rfl ?_
              obtain ⟨b25, hf⟩ := og hf
              refine j_iald (pc := 194) C d_Mo_function_194 30 (inb_in b25) (x := q16.2.1 30 (x.2.2.2.1 - 1).toNatClampNeg) wR_a30 rfl ?_
              refine j_if_eq (pc := 195) C d_Mo_function_195 (tgt := 373) rfl (fun h26 => ?_) (fun h26 => ?_)
              · rw [if_pos h26] at hf
                refine j_iinc (pc := 373) C d_Mo_function_373 3 rfl (v := x.2.2.1 + 1) (iv ci_1) [1, 2, 3, 0, 4, 5] (by decide) (lc' := [(0, .ref (ar 0)), (1, .int x.1), (2, .int x.2.1), (3, .int (x.2.2.1 + 1)), (4, .int (x.2.2.2.1 - 1)), (5, .int 0)]) rfl ?_
                refine j_goto (pc := 376) C d_Mo_function_376 (tgt := 91) rfl ?_
                refine j_lc C (lc' := [(0, .ref (ar 0)), (1, .int x.1), (2, .int x.2.1), (3, .int (x.2.2.1 + 1)), (4, .int (x.2.2.2.1 - 1))]) [0, 1, 2, 3, 4] rfl ?_
                exact k91_ih (x.1, x.2.1, x.2.2.1 + 1, x.2.2.2.1 - 1, q16.2) hf
              · rw [if_neg h26] at hf
                refine j_aload_n (pc := 198) C d_Mo_function_198 rfl 0 rfl ?_
                refine j_get (pc := 199) C d_Mo_function_199 0 36 wR_o0 rfl (v := .ref (ar 25)) rfl (by decide) tw978 ?_
                refine j_aload_n (pc := 202) C d_Mo_function_202 rfl 0 rfl ?_
                refine j_get (pc := 203) C d_Mo_function_203 0 43 wR_o0 rfl (v := .ref (ar 31)) rfl (by decide) tw985 ?_
                refine j_iload (pc := 206) C d_Mo_function_206 4 rfl ?_
                obtain ⟨b27, hf⟩ := og hf
                refine j_iald (pc := 208) C d_Mo_function_208 31 (inb_in b27) (x := q16.2.1 31 (x.2.2.2.1 - 1).toNatClampNeg) wR_a31 rfl ?_
                refine j_aload_n (pc := 209) C d_Mo_function_209 rfl 0 rfl ?_
                refine j_get (pc := 210) C d_Mo_function_210 0 34 wR_o0 rfl (v := .int (q16.2.2.1 11)) rfl (by decide) tw976 ?_
                obtain ⟨b28, hf⟩ := og hf
                refine j_iast (pc := 213) C d_Mo_function_213 25 (inb_in b28) wR_a25 (ws' := wR g ar (va_up q16.2.1 25 (upd (q16.2.1 25) (q16.2.1 31 (x.2.2.2.1 - 1).toNatClampNeg).toNatClampNeg (q16.2.2.1 11))) q16.2.2.1 q16.2.2.2) wR_s25 ?_
                refine j_goto (pc := 214) C d_Mo_function_214 (tgt := 373) rfl ?_
                refine j_iinc (pc := 373) C d_Mo_function_373 3 rfl (v := x.2.2.1 + 1) (iv ci_1) [1, 2, 3, 0, 4, 5] (by decide) (lc' := [(0, .ref (ar 0)), (1, .int x.1), (2, .int x.2.1), (3, .int (x.2.2.1 + 1)), (4, .int (x.2.2.2.1 - 1)), (5, .int 0)]) rfl ?_
                refine j_goto (pc := 376) C d_Mo_function_376 (tgt := 91) rfl ?_
                refine j_lc C (lc' := [(0, .ref (ar 0)), (1, .int x.1), (2, .int x.2.1), (3, .int (x.2.2.1 + 1)), (4, .int (x.2.2.2.1 - 1))]) [0, 1, 2, 3, 4] rfl ?_
                exact k91_ih (x.1, x.2.1, x.2.2.1 + 1, x.2.2.2.1 - 1, ((va_up q16.2.1 25 (upd (q16.2.1 25) (q16.2.1 31 (x.2.2.2.1 - 1).toNatClampNeg).toNatClampNeg (q16.2.2.1 11))), q16.2.2.1, q16.2.2.2)) hf
            · rw [if_pos h24] at hf
              refine j_aload_n (pc := 175) C d_Mo_function_175 rfl 0 rfl ?_
              refine j_bipush (pc := 176) C d_Mo_function_176 cb_6 ?_
              refine j_aload_n (pc := 178) C d_Mo_function_178 rfl 0 rfl ?_
              refine j_get (pc := 179) C d_Mo_function_179 0 44 wR_o0 rfl (v := .ref (ar 32)) rfl (by decide) tw986 ?_
              refine j_iload (pc := 182) C d_Mo_function_182 4 rfl ?_
              obtain ⟨b29, hf⟩ := og hf
              refine j_iald (pc := 184) C d_Mo_function_184 32 (inb_in b29) (x := q16.2.1 32 (x.2.2.2.1 - 1).toNatClampNeg) wR_a32 rfl ?_
              obtain ⟨q30, eq30, hf⟩ := ob hf
              refine j_callVv (pc := 185) C (rest := []) d_Mo_function_185 (c_Mo_emit (g := g) (ar := ar) eq30) cv_Mo_emit tw1326 0 rfl rfl cut_same rfl rfl (Nat.le_of_ble_eq_true rfl) (kc2 := 0) (ks2 := 0) (by decide) ?_
              refine j_aload_n (pc := 188) C d_Mo_function_188 rfl 0 rfl ?_
              refine j_get (pc := 189) C d_Mo_function_189 0 42 wR_o0 rfl (v := .ref (ar 30)) rfl (by decide) tw984 ?_
              refine j_iload (pc := 192) C d_Mo_function_192 4 rfl ?_
              obtain ⟨b31, hf⟩ := og hf
              refine j_iald (pc := 194) C d_Mo_function_194 30 (inb_in b31) (x := q30.1 30 (x.2.2.2.1 - 1).toNatClampNeg) wR_a30 rfl ?_
              refine j_if_eq (pc := 195) C d_Mo_function_195 (tgt := 373) rfl (fun h32 => ?_) (fun h32 => ?_)
              · rw [if_pos h32] at hf
                refine j_iinc (pc := 373) C d_Mo_function_373 3 rfl (v := x.2.2.1 + 1) (iv ci_1) [1, 2, 3, 0, 4, 5] (by decide) (lc' := [(0, .ref (ar 0)), (1, .int x.1), (2, .int x.2.1), (3, .int (x.2.2.1 + 1)), (4, .int (x.2.2.2.1 - 1)), (5, .int 0)]) rfl ?_
                refine j_goto (pc := 376) C d_Mo_function_376 (tgt := 91) rfl ?_
                refine j_lc C (lc' := [(0, .ref (ar 0)), (1, .int x.1), (2, .int x.2.1), (3, .int (x.2.2.1 + 1)), (4, .int (x.2.2.2.1 - 1))]) [0, 1, 2, 3, 4] rfl ?_
                exact k91_ih (x.1, x.2.1, x.2.2.1 + 1, x.2.2.2.1 - 1, q30) hf
              · rw [if_neg h32] at hf
                refine j_aload_n (pc := 198) C d_Mo_function_198 rfl 0 rfl ?_
                refine j_get (pc := 199) C d_Mo_function_199 0 36 wR_o0 rfl (v := .ref (ar 25)) rfl (by decide) tw978 ?_
                refine j_aload_n (pc := 202) C d_Mo_function_202 rfl 0 rfl ?_
                refine j_get (pc := 203) C d_Mo_function_203 0 43 wR_o0 rfl (v := .ref (ar 31)) rfl (by decide) tw985 ?_
                refine j_iload (pc := 206) C d_Mo_function_206 4 rfl ?_
                obtain ⟨b33, hf⟩ := og hf
                refine j_iald (pc := 208) C d_Mo_function_208 31 (inb_in b33) (x := q30.1 31 (x.2.2.2.1 - 1).toNatClampNeg) wR_a31 rfl ?_
                refine j_aload_n (pc := 209) C d_Mo_function_209 rfl 0 rfl ?_
                refine j_get (pc := 210) C d_Mo_function_210 0 34 wR_o0 rfl (v := .int (q30.2.1 11)) rfl (by decide) tw976 ?_
                obtain ⟨b34, hf⟩ := og hf
                refine j_iast (pc := 213) C d_Mo_function_213 25 (inb_in b34) wR_a25 (ws' := wR g ar (va_up q30.1 25 (upd (q30.1 25) (q30.1 31 (x.2.2.2.1 - 1).toNatClampNeg).toNatClampNeg (q30.2.1 11))) q30.2.1 q30.2.2) wR_s25 ?_
                refine j_goto (pc := 214) C d_Mo_function_214 (tgt := 373) rfl ?_
                refine j_iinc (pc := 373) C d_Mo_function_373 3 rfl (v := x.2.2.1 + 1) (iv ci_1) [1, 2, 3, 0, 4, 5] (by decide) (lc' := [(0, .ref (ar 0)), (1, .int x.1), (2, .int x.2.1), (3, .int (x.2.2.1 + 1)), (4, .int (x.2.2.2.1 - 1)), (5, .int 0)]) rfl ?_
                refine j_goto (pc := 376) C d_Mo_function_376 (tgt := 91) rfl ?_
                refine j_lc C (lc' := [(0, .ref (ar 0)), (1, .int x.1), (2, .int x.2.1), (3, .int (x.2.2.1 + 1)), (4, .int (x.2.2.2.1 - 1))]) [0, 1, 2, 3, 4] rfl ?_
                exact k91_ih (x.1, x.2.1, x.2.2.1 + 1, x.2.2.2.1 - 1, ((va_up q30.1 25 (upd (q30.1 25) (q30.1 31 (x.2.2.2.1 - 1).toNatClampNeg).toNatClampNeg (q30.2.1 11))), q30.2.1, q30.2.2)) hf
        · rw [if_neg h15] at hf
          refine j_aload_n (pc := 137) C d_Mo_function_137 rfl 0 rfl ?_
          refine j_get (pc := 138) C d_Mo_function_138 0 42 wR_o0 rfl (v := .ref (ar 30)) rfl (by decide) tw984 ?_
          refine j_iload (pc := 141) C d_Mo_function_141 4 rfl ?_
          refine j_iconst (pc := 143) C d_Mo_function_143 ck_0 ?_
          obtain ⟨b35, hf⟩ := og hf
          refine j_iast (pc := 144) C d_Mo_function_144 30 (inb_in b35) wR_a30 (ws' := wR g ar (va_up q14.2.1 30 (upd (q14.2.1 30) x.2.2.2.1.toNatClampNeg 0)) q14.2.2.1 q14.2.2.2) wR_s30 ?_
          refine j_iinc (pc := 145) C d_Mo_function_145 4 rfl (v := x.2.2.2.1 + 1) (iv ci_1) [1, 2, 3, 4, 0, 5] (by decide) (lc' := [(0, .ref (ar 0)), (1, .int x.1), (2, .int x.2.1), (3, .int x.2.2.1), (4, .int (x.2.2.2.1 + 1)), (5, .int 0)]) rfl ?_
          refine j_goto (pc := 148) C d_Mo_function_148 (tgt := 373) rfl ?_
          refine j_iinc (pc := 373) C d_Mo_function_373 3 rfl (v := x.2.2.1 + 1) (iv ci_1) [1, 2, 3, 0, 4, 5] (by decide) (lc' := [(0, .ref (ar 0)), (1, .int x.1), (2, .int x.2.1), (3, .int (x.2.2.1 + 1)), (4, .int (x.2.2.2.1 + 1)), (5, .int 0)]) rfl ?_
          refine j_goto (pc := 376) C d_Mo_function_376 (tgt := 91) rfl ?_
          refine j_lc C (lc' := [(0, .ref (ar 0)), (1, .int x.1), (2, .int x.2.1), (3, .int (x.2.2.1 + 1)), (4, .int (x.2.2.2.1 + 1))]) [0, 1, 2, 3, 4] rfl ?_
          exact k91_ih (x.1, x.2.1, x.2.2.1 + 1, x.2.2.2.1 + 1, ((va_up q14.2.1 30 (upd (q14.2.1 30) x.2.2.2.1.toNatClampNeg 0)), q14.2.2.1, q14.2.2.2)) hf
      · rw [if_pos h13] at hf
        refine j_aload_n (pc := 111) C d_Mo_function_111 rfl 0 rfl ?_
        refine j_aload_n (pc := 112) C d_Mo_function_112 rfl 0 rfl ?_
        refine j_get (pc := 113) C d_Mo_function_113 0 11 wR_o0 rfl (v := .ref (ar 8)) rfl (by decide) tw953 ?_
        refine j_iload_n (pc := 116) C d_Mo_function_116 rfl 3 rfl ?_
        obtain ⟨b36, hf⟩ := og hf
        refine j_lald (pc := 117) C d_Mo_function_117 8 (inb_in b36) (x := x.2.2.2.2.2.2 8 x.2.2.1.toNatClampNeg) wR_a8 rfl ?_
        obtain ⟨q37, eq37, hf⟩ := ob hf
        refine j_callVi (pc := 118) C (rest := []) d_Mo_function_118 (c_Mo_keyword (g := g) (ar := ar) eq37) cv_Mo_keyword tw1169 0 rfl rfl cut_same rfl rfl (Nat.le_of_ble_eq_true rfl) (kc2 := 0) (ks2 := 0) (by decide) ?_
        refine j_goto (pc := 121) C d_Mo_function_121 (tgt := 125) rfl ?_
        refine j_istore (pc := 125) C d_Mo_function_125 [1, 2, 3, 4, 5, 0] (by decide) (lc' := [(0, .ref (ar 0)), (1, .int x.1), (2, .int x.2.1), (3, .int x.2.2.1), (4, .int x.2.2.2.1), (5, .int q37.1)]) rfl ?_
        refine j_aload_n (pc := 127) C d_Mo_function_127 rfl 0 rfl ?_
        refine j_iload_n (pc := 128) C d_Mo_function_128 rfl 3 rfl ?_
        refine j_bipush (pc := 129) C d_Mo_function_129 cb_123 ?_
        obtain ⟨q38, eq38, hf⟩ := ob hf
        refine j_callVi (pc := 131) C (rest := []) d_Mo_function_131 (c_Mo_is (g := g) (ar := ar) eq38) cv_Mo_is tw1198 0 rfl rfl cut_same rfl rfl (Nat.le_of_ble_eq_true rfl) (kc2 := 0) (ks2 := 0) (by decide) ?_
        refine j_if_eq (pc := 134) C d_Mo_function_134 (tgt := 151) rfl (fun h39 => ?_) (fun h39 => ?_)
        · rw [if_pos h39] at hf
          refine j_aload_n (pc := 151) C d_Mo_function_151 rfl 0 rfl ?_
          refine j_iload_n (pc := 152) C d_Mo_function_152 rfl 3 rfl ?_
          refine j_bipush (pc := 153) C d_Mo_function_153 cb_125 ?_
          obtain ⟨q40, eq40, hf⟩ := ob hf
          refine j_callVi (pc := 155) C (rest := []) d_Mo_function_155 (c_Mo_is (g := g) (ar := ar) eq40) cv_Mo_is tw1198 0 rfl rfl cut_same rfl rfl (Nat.le_of_ble_eq_true rfl) (kc2 := 0) (ks2 := 0) (by decide) ?_
          refine j_if_eq (pc := 158) C d_Mo_function_158 (tgt := 217) rfl (fun h41 => ?_) (fun h41 => ?_)
          · rw [if_pos h41] at hf
            refine j_iload (pc := 217) C d_Mo_function_217 5 rfl ?_
            refine j_iconst (pc := 219) C d_Mo_function_219 ck_2 ?_
            refine j_icmp_eq (pc := 220) C d_Mo_function_220 (tgt := 229) rfl (fun h42 => ?_) (fun h42 => ?_)
            · rw [if_pos h42] at hf
              refine j_aload_n (pc := 229) C d_Mo_function_229 rfl 0 rfl ?_
              refine j_get (pc := 230) C d_Mo_function_230 0 44 wR_o0 rfl (v := .ref (ar 32)) rfl (by decide) tw986 ?_
              refine j_iload (pc := 233) C d_Mo_function_233 4 rfl ?_
              refine j_aload_n (pc := 235) C d_Mo_function_235 rfl 0 rfl ?_
              refine j_get (pc := 236) C d_Mo_function_236 0 34 wR_o0 rfl (v := .int (q40.2.2.1 11)) rfl (by decide) tw976 ?_
              obtain ⟨b43, hf⟩ := og hf
              refine j_iast (pc := 239) C d_Mo_function_239 32 (inb_in b43) wR_a32 (ws' := wR g ar (va_up q40.2.1 32 (upd (q40.2.1 32) x.2.2.2.1.toNatClampNeg (q40.2.2.1 11))) q40.2.2.1 q40.2.2.2) wR_s32 ?_
              refine j_aload_n (pc := 240) C d_Mo_function_240 rfl 0 rfl ?_
              refine j_iload_n (pc := 241) C d_Mo_function_241 rfl 3 rfl ?_
              refine j_iconst (pc := 242) C d_Mo_function_242 ck_1 ?_
              refine j_iadd (pc := 243) C d_Mo_function_243 ?_
              obtain ⟨q44, eq44, hf⟩ := ob hf
              refine j_callVi (pc := 244) C (rest := []) d_Mo_function_244 (c_Mo_compile (g := g) (ar := ar) eq44) cv_Mo_compile tw1330 0 rfl rfl cut_same rfl rfl (Nat.le_of_ble_eq_true rfl) (kc2 := 0) (ks2 := 0) (by decide) ?_
              refine j_istore_n (pc := 247) C d_Mo_function_247 rfl [1, 2, 3, 0, 4, 5] (by decide) (lc' := [(0, .ref (ar 0)), (1, .int x.1), (2, .int x.2.1), (3, .int q44.1), (4, .int x.2.2.2.1), (5, .int q37.1)]) rfl ?_
              refine j_aload_n (pc := 248) C d_Mo_function_248 rfl 0 rfl ?_
              refine j_get (pc := 249) C d_Mo_function_249 0 43 wR_o0 rfl (v := .ref (ar 31)) rfl (by decide) tw985 ?_
              refine j_iload (pc := 252) C d_Mo_function_252 4 rfl ?_
              refine j_aload_n (pc := 254) C d_Mo_function_254 rfl 0 rfl ?_
              refine j_get (pc := 255) C d_Mo_function_255 0 34 wR_o0 rfl (v := .int (q44.2.2.1 11)) rfl (by decide) tw976 ?_
              obtain ⟨b45, hf⟩ := og hf
              refine j_iast (pc := 258) C d_Mo_function_258 31 (inb_in b45) wR_a31 (ws' := wR g ar (va_up q44.2.1 31 (upd (q44.2.1 31) x.2.2.2.1.toNatClampNeg (q44.2.2.1 11))) q44.2.2.1 q44.2.2.2) wR_s31 ?_
              refine j_aload_n (pc := 259) C d_Mo_function_259 rfl 0 rfl ?_
              refine j_iconst (pc := 260) C d_Mo_function_260 ck_5 ?_
              refine j_iconst (pc := 261) C d_Mo_function_261 ck_0 ?_
              obtain ⟨q46, eq46, hf⟩ := ob hf
              refine j_callVv (pc := 262) C (rest := []) d_Mo_function_262 (c_Mo_emit (g := g) (ar := ar) eq46) cv_Mo_emit tw1326 0 rfl rfl cut_same rfl rfl (Nat.le_of_ble_eq_true rfl) (kc2 := 0) (ks2 := 0) (by decide) ?_
              refine j_iload (pc := 265) C d_Mo_function_265 5 rfl ?_
              refine j_iconst (pc := 267) C d_Mo_function_267 ck_3 ?_
              refine j_icmp_ne (pc := 268) C d_Mo_function_268 (tgt := 278) rfl (fun h47 => ?_) (fun h47 => ?_)
              · rw [if_neg h47] at hf
                refine j_aload_n (pc := 278) C d_Mo_function_278 rfl 0 rfl ?_
                refine j_get (pc := 279) C d_Mo_function_279 0 42 wR_o0 rfl (v := .ref (ar 30)) rfl (by decide) tw984 ?_
                refine j_iload (pc := 282) C d_Mo_function_282 4 rfl ?_
                refine j_iload (pc := 284) C d_Mo_function_284 5 rfl ?_
                obtain ⟨b48, hf⟩ := og hf
                refine j_iast (pc := 286) C d_Mo_function_286 30 (inb_in b48) wR_a30 (ws' := wR g ar (va_up q46.1 30 (upd (q46.1 30) x.2.2.2.1.toNatClampNeg q37.1)) q46.2.1 q46.2.2) wR_s30 ?_
                refine j_iinc (pc := 287) C d_Mo_function_287 4 rfl (v := x.2.2.2.1 + 1) (iv ci_1) [1, 2, 3, 4, 0, 5] (by decide) (lc' := [(0, .ref (ar 0)), (1, .int x.1), (2, .int x.2.1), (3, .int q44.1), (4, .int (x.2.2.2.1 + 1)), (5, .int q37.1)]) rfl ?_
                refine j_goto (pc := 290) C d_Mo_function_290 (tgt := 373) rfl ?_
                refine j_iinc (pc := 373) C d_Mo_function_373 3 rfl (v := q44.1 + 1) (iv ci_1) [1, 2, 3, 0, 4, 5] (by decide) (lc' := [(0, .ref (ar 0)), (1, .int x.1), (2, .int x.2.1), (3, .int (q44.1 + 1)), (4, .int (x.2.2.2.1 + 1)), (5, .int q37.1)]) rfl ?_
                refine j_goto (pc := 376) C d_Mo_function_376 (tgt := 91) rfl ?_
                refine j_lc C (lc' := [(0, .ref (ar 0)), (1, .int x.1), (2, .int x.2.1), (3, .int (q44.1 + 1)), (4, .int (x.2.2.2.1 + 1))]) [0, 1, 2, 3, 4] rfl ?_
                exact k91_ih (x.1, x.2.1, q44.1 + 1, x.2.2.2.1 + 1, ((va_up q46.1 30 (upd (q46.1 30) x.2.2.2.1.toNatClampNeg q37.1)), q46.2.1, q46.2.2)) hf
              · rw [if_pos h47] at hf
                refine j_aload_n (pc := 271) C d_Mo_function_271 rfl 0 rfl ?_
                refine j_bipush (pc := 272) C d_Mo_function_272 cb_8 ?_
                refine j_iconst (pc := 274) C d_Mo_function_274 ck_0 ?_
                obtain ⟨q49, eq49, hf⟩ := ob hf
                refine j_callVv (pc := 275) C (rest := []) d_Mo_function_275 (c_Mo_emit (g := g) (ar := ar) eq49) cv_Mo_emit tw1326 0 rfl rfl cut_same rfl rfl (Nat.le_of_ble_eq_true rfl) (kc2 := 0) (ks2 := 0) (by decide) ?_
                refine j_aload_n (pc := 278) C d_Mo_function_278 rfl 0 rfl ?_
                refine j_get (pc := 279) C d_Mo_function_279 0 42 wR_o0 rfl (v := .ref (ar 30)) rfl (by decide) tw984 ?_
                refine j_iload (pc := 282) C d_Mo_function_282 4 rfl ?_
                refine j_iload (pc := 284) C d_Mo_function_284 5 rfl ?_
                obtain ⟨b50, hf⟩ := og hf
                refine j_iast (pc := 286) C d_Mo_function_286 30 (inb_in b50) wR_a30 (ws' := wR g ar (va_up q49.1 30 (upd (q49.1 30) x.2.2.2.1.toNatClampNeg q37.1)) q49.2.1 q49.2.2) wR_s30 ?_
                refine j_iinc (pc := 287) C d_Mo_function_287 4 rfl (v := x.2.2.2.1 + 1) (iv ci_1) [1, 2, 3, 4, 0, 5] (by decide) (lc' := [(0, .ref (ar 0)), (1, .int x.1), (2, .int x.2.1), (3, .int q44.1), (4, .int (x.2.2.2.1 + 1)), (5, .int q37.1)]) rfl ?_
                refine j_goto (pc := 290) C d_Mo_function_290 (tgt := 373) rfl ?_
                refine j_iinc (pc := 373) C d_Mo_function_373 3 rfl (v := q44.1 + 1) (iv ci_1) [1, 2, 3, 0, 4, 5] (by decide) (lc' := [(0, .ref (ar 0)), (1, .int x.1), (2, .int x.2.1), (3, .int (q44.1 + 1)), (4, .int (x.2.2.2.1 + 1)), (5, .int q37.1)]) rfl ?_
                refine j_goto (pc := 376) C d_Mo_function_376 (tgt := 91) rfl ?_
                refine j_lc C (lc' := [(0, .ref (ar 0)), (1, .int x.1), (2, .int x.2.1), (3, .int (q44.1 + 1)), (4, .int (x.2.2.2.1 + 1))]) [0, 1, 2, 3, 4] rfl ?_
                exact k91_ih (x.1, x.2.1, q44.1 + 1, x.2.2.2.1 + 1, ((va_up q49.1 30 (upd (q49.1 30) x.2.2.2.1.toNatClampNeg q37.1)), q49.2.1, q49.2.2)) hf
            · rw [if_neg h42] at hf
              refine j_iload (pc := 223) C d_Mo_function_223 5 rfl ?_
              refine j_iconst (pc := 225) C d_Mo_function_225 ck_3 ?_
              refine j_icmp_ne (pc := 226) C d_Mo_function_226 (tgt := 293) rfl (fun h51 => ?_) (fun h51 => ?_)
              · rw [if_neg h51] at hf
                refine j_iload (pc := 293) C d_Mo_function_293 5 rfl ?_
                refine j_iconst (pc := 295) C d_Mo_function_295 ck_4 ?_
                refine j_icmp_eq (pc := 296) C d_Mo_function_296 (tgt := 305) rfl (fun h52 => ?_) (fun h52 => ?_)
                · rw [if_pos h52] at hf
                  refine j_aload_n (pc := 305) C d_Mo_function_305 rfl 0 rfl ?_
                  refine j_iload_n (pc := 306) C d_Mo_function_306 rfl 3 rfl ?_
                  refine j_iconst (pc := 307) C d_Mo_function_307 ck_1 ?_
                  refine j_iadd (pc := 308) C d_Mo_function_308 ?_
                  obtain ⟨q53, eq53, hf⟩ := ob hf
                  refine j_callVi (pc := 309) C (rest := []) d_Mo_function_309 (c_Mo_compile (g := g) (ar := ar) eq53) cv_Mo_compile tw1330 0 rfl rfl cut_same rfl rfl (Nat.le_of_ble_eq_true rfl) (kc2 := 0) (ks2 := 0) (by decide) ?_
                  refine j_istore_n (pc := 312) C d_Mo_function_312 rfl [1, 2, 3, 0, 4, 5] (by decide) (lc' := [(0, .ref (ar 0)), (1, .int x.1), (2, .int x.2.1), (3, .int q53.1), (4, .int x.2.2.2.1), (5, .int q37.1)]) rfl ?_
                  refine j_aload_n (pc := 313) C d_Mo_function_313 rfl 0 rfl ?_
                  refine j_iload (pc := 314) C d_Mo_function_314 5 rfl ?_
                  refine j_iconst (pc := 316) C d_Mo_function_316 ck_4 ?_
                  refine j_icmp_ne (pc := 317) C d_Mo_function_317 (tgt := 324) rfl (fun h54 => ?_) (fun h54 => ?_)
                  · rw [if_neg h54] at hf
                    refine j_iconst (pc := 324) C d_Mo_function_324 ck_4 ?_
                    refine j_iconst (pc := 325) C d_Mo_function_325 ck_0 ?_
                    obtain ⟨q55, eq55, hf⟩ := ob hf
                    refine j_callVv (pc := 326) C (rest := []) d_Mo_function_326 (c_Mo_emit (g := g) (ar := ar) eq55) cv_Mo_emit tw1326 0 rfl rfl cut_same rfl rfl (Nat.le_of_ble_eq_true rfl) (kc2 := 0) (ks2 := 0) (by decide) ?_
                    refine j_goto (pc := 329) C d_Mo_function_329 (tgt := 373) rfl ?_
                    refine j_iinc (pc := 373) C d_Mo_function_373 3 rfl (v := q53.1 + 1) (iv ci_1) [1, 2, 3, 0, 4, 5] (by decide) (lc' := [(0, .ref (ar 0)), (1, .int x.1), (2, .int x.2.1), (3, .int (q53.1 + 1)), (4, .int x.2.2.2.1), (5, .int q37.1)]) rfl ?_
                    refine j_goto (pc := 376) C d_Mo_function_376 (tgt := 91) rfl ?_
                    refine j_lc C (lc' := [(0, .ref (ar 0)), (1, .int x.1), (2, .int x.2.1), (3, .int (q53.1 + 1)), (4, .int x.2.2.2.1)]) [0, 1, 2, 3, 4] rfl ?_
                    exact k91_ih (x.1, x.2.1, q53.1 + 1, x.2.2.2.1, q55) hf
                  · rw [if_pos h54] at hf
                    refine j_iconst (pc := 320) C d_Mo_function_320 ck_3 ?_
                    refine j_goto (pc := 321) C d_Mo_function_321 (tgt := 325) rfl ?_
                    refine j_iconst (pc := 325) C d_Mo_function_325 ck_0 ?_
                    obtain ⟨q56, eq56, hf⟩ := ob hf
                    refine j_callVv (pc := 326) C (rest := []) d_Mo_function_326 (c_Mo_emit (g := g) (ar := ar) eq56) cv_Mo_emit tw1326 0 rfl rfl cut_same rfl rfl (Nat.le_of_ble_eq_true rfl) (kc2 := 0) (ks2 := 0) (by decide) ?_
                    refine j_goto (pc := 329) C d_Mo_function_329 (tgt := 373) rfl ?_
                    refine j_iinc (pc := 373) C d_Mo_function_373 3 rfl (v := q53.1 + 1) (iv ci_1) [1, 2, 3, 0, 4, 5] (by decide) (lc' := [(0, .ref (ar 0)), (1, .int x.1), (2, .int x.2.1), (3, .int (q53.1 + 1)), (4, .int x.2.2.2.1), (5, .int q37.1)]) rfl ?_
                    refine j_goto (pc := 376) C d_Mo_function_376 (tgt := 91) rfl ?_
                    refine j_lc C (lc' := [(0, .ref (ar 0)), (1, .int x.1), (2, .int x.2.1), (3, .int (q53.1 + 1)), (4, .int x.2.2.2.1)]) [0, 1, 2, 3, 4] rfl ?_
                    exact k91_ih (x.1, x.2.1, q53.1 + 1, x.2.2.2.1, q56) hf
                · rw [if_neg h52] at hf
                  refine j_iload (pc := 299) C d_Mo_function_299 5 rfl ?_
                  refine j_iconst (pc := 301) C d_Mo_function_301 ck_5 ?_
                  refine j_icmp_ne (pc := 302) C d_Mo_function_302 (tgt := 332) rfl (fun h57 => ?_) (fun h57 => ?_)
                  · rw [if_neg h57] at hf
                    refine j_iload (pc := 332) C d_Mo_function_332 5 rfl ?_
                    refine j_iconst (pc := 334) C d_Mo_function_334 ck_1 ?_
                    refine j_icmp_ne (pc := 335) C d_Mo_function_335 (tgt := 344) rfl (fun h58 => ?_) (fun h58 => ?_)
                    · rw [if_neg h58] at hf
                      refine j_iload_n (pc := 344) C d_Mo_function_344 rfl 3 rfl ?_
                      refine j_istore (pc := 345) C d_Mo_function_345 [1, 2, 3, 4, 5, 6, 0] (by decide) (lc' := [(0, .ref (ar 0)), (1, .int x.1), (2, .int x.2.1), (3, .int x.2.2.1), (4, .int x.2.2.2.1), (5, .int q37.1), (6, .int x.2.2.1)]) rfl ?_
                      refine j_aload_n (pc := 347) C d_Mo_function_347 rfl 0 rfl ?_
                      refine j_iload (pc := 348) C d_Mo_function_348 6 rfl ?_
                      refine j_iconst (pc := 350) C d_Mo_function_350 ck_2 ?_
                      refine j_iadd (pc := 351) C d_Mo_function_351 ?_
                      obtain ⟨q59, eq59, hf⟩ := ob hf
                      refine j_callVi (pc := 352) C (rest := []) d_Mo_function_352 (c_Mo_compile (g := g) (ar := ar) eq59) cv_Mo_compile tw1330 0 rfl rfl cut_same rfl rfl (Nat.le_of_ble_eq_true rfl) (kc2 := 0) (ks2 := 0) (by decide) ?_
                      refine j_istore_n (pc := 355) C d_Mo_function_355 rfl [1, 2, 3, 0, 4, 5, 6] (by decide) (lc' := [(0, .ref (ar 0)), (1, .int x.1), (2, .int x.2.1), (3, .int q59.1), (4, .int x.2.2.2.1), (5, .int q37.1), (6, .int x.2.2.1)]) rfl ?_
                      refine j_aload_n (pc := 356) C d_Mo_function_356 rfl 0 rfl ?_
                      refine j_iconst (pc := 357) C d_Mo_function_357 ck_2 ?_
                      refine j_aload_n (pc := 358) C d_Mo_function_358 rfl 0 rfl ?_
                      refine j_get (pc := 359) C d_Mo_function_359 0 38 wR_o0 rfl (v := .ref (ar 27)) rfl (by decide) tw980 ?_
                      refine j_aload_n (pc := 362) C d_Mo_function_362 rfl 0 rfl ?_
                      refine j_get (pc := 363) C d_Mo_function_363 0 13 wR_o0 rfl (v := .ref (ar 10)) rfl (by decide) tw955 ?_
                      refine j_iload (pc := 366) C d_Mo_function_366 6 rfl ?_
                      obtain ⟨b60, hf⟩ := og hf
                      refine j_iald (pc := 368) C d_Mo_function_368 10 (inb_in b60) (x := q59.2.1 10 x.2.2.1.toNatClampNeg) wR_a10 rfl ?_
                      obtain ⟨b61, hf⟩ := og hf
                      refine j_iald (pc := 369) C d_Mo_function_369 27 (inb_in b61) (x := q59.2.1 27 (q59.2.1 10 x.2.2.1.toNatClampNeg).toNatClampNeg) wR_a27 rfl ?_
                      refine j_topi C (fun v62 ev62 => ?_)
                      replace hf := ov ev62 hf
                      obtain ⟨q63, eq63, hf⟩ := ob hf
                      refine j_callVv (pc := 370) C (rest := []) d_Mo_function_370 (c_Mo_emit (g := g) (ar := ar) eq63) cv_Mo_emit tw1326 0 rfl rfl cut_same rfl rfl (Nat.le_of_ble_eq_true rfl) (kc2 := 0) (ks2 := 0) (by decide) ?_
                      refine j_iinc (pc := 373) C d_Mo_function_373 3 rfl (v := q59.1 + 1) (iv ci_1) [1, 2, 3, 0, 4, 5, 6] (by decide) (lc' := [(0, .ref (ar 0)), (1, .int x.1), (2, .int x.2.1), (3, .int (q59.1 + 1)), (4, .int x.2.2.2.1), (5, .int q37.1), (6, .int x.2.2.1)]) rfl ?_
                      refine j_goto (pc := 376) C d_Mo_function_376 (tgt := 91) rfl ?_
                      refine j_lc C (lc' := [(0, .ref (ar 0)), (1, .int x.1), (2, .int x.2.1), (3, .int (q59.1 + 1)), (4, .int x.2.2.2.1)]) [0, 1, 2, 3, 4] rfl ?_
                      exact k91_ih (x.1, x.2.1, q59.1 + 1, x.2.2.2.1, q63) hf
                    · rw [if_pos h58] at hf
                      refine j_iload_n (pc := 338) C d_Mo_function_338 rfl 3 rfl ?_
                      refine j_iconst (pc := 339) C d_Mo_function_339 ck_1 ?_
                      refine j_iadd (pc := 340) C d_Mo_function_340 ?_
                      refine j_goto (pc := 341) C d_Mo_function_341 (tgt := 345) rfl ?_
                      refine j_istore (pc := 345) C d_Mo_function_345 [1, 2, 3, 4, 5, 6, 0] (by decide) (lc' := [(0, .ref (ar 0)), (1, .int x.1), (2, .int x.2.1), (3, .int x.2.2.1), (4, .int x.2.2.2.1), (5, .int q37.1), (6, .int (x.2.2.1 + 1))]) rfl ?_
                      refine j_aload_n (pc := 347) C d_Mo_function_347 rfl 0 rfl ?_
                      refine j_iload (pc := 348) C d_Mo_function_348 6 rfl ?_
                      refine j_iconst (pc := 350) C d_Mo_function_350 ck_2 ?_
                      refine j_iadd (pc := 351) C d_Mo_function_351 ?_
                      obtain ⟨q64, eq64, hf⟩ := ob hf
                      refine j_callVi (pc := 352) C (rest := []) d_Mo_function_352 (c_Mo_compile (g := g) (ar := ar) eq64) cv_Mo_compile tw1330 0 rfl rfl cut_same rfl rfl (Nat.le_of_ble_eq_true rfl) (kc2 := 0) (ks2 := 0) (by decide) ?_
                      refine j_istore_n (pc := 355) C d_Mo_function_355 rfl [1, 2, 3, 0, 4, 5, 6] (by decide) (lc' := [(0, .ref (ar 0)), (1, .int x.1), (2, .int x.2.1), (3, .int q64.1), (4, .int x.2.2.2.1), (5, .int q37.1), (6, .int (x.2.2.1 + 1))]) rfl ?_
                      refine j_aload_n (pc := 356) C d_Mo_function_356 rfl 0 rfl ?_
                      refine j_iconst (pc := 357) C d_Mo_function_357 ck_2 ?_
                      refine j_aload_n (pc := 358) C d_Mo_function_358 rfl 0 rfl ?_
                      refine j_get (pc := 359) C d_Mo_function_359 0 38 wR_o0 rfl (v := .ref (ar 27)) rfl (by decide) tw980 ?_
                      refine j_aload_n (pc := 362) C d_Mo_function_362 rfl 0 rfl ?_
                      refine j_get (pc := 363) C d_Mo_function_363 0 13 wR_o0 rfl (v := .ref (ar 10)) rfl (by decide) tw955 ?_
                      refine j_iload (pc := 366) C d_Mo_function_366 6 rfl ?_
                      obtain ⟨b65, hf⟩ := og hf
                      refine j_iald (pc := 368) C d_Mo_function_368 10 (inb_in b65) (x := q64.2.1 10 (x.2.2.1 + 1).toNatClampNeg) wR_a10 rfl ?_
                      obtain ⟨b66, hf⟩ := og hf
                      refine j_iald (pc := 369) C d_Mo_function_369 27 (inb_in b66) (x := q64.2.1 27 (q64.2.1 10 (x.2.2.1 + 1).toNatClampNeg).toNatClampNeg) wR_a27 rfl ?_
                      refine j_topi C (fun v67 ev67 => ?_)
                      replace hf := ov ev67 hf
                      obtain ⟨q68, eq68, hf⟩ := ob hf
                      refine j_callVv (pc := 370) C (rest := []) d_Mo_function_370 (c_Mo_emit (g := g) (ar := ar) eq68) cv_Mo_emit tw1326 0 rfl rfl cut_same rfl rfl (Nat.le_of_ble_eq_true rfl) (kc2 := 0) (ks2 := 0) (by decide) ?_
                      refine j_iinc (pc := 373) C d_Mo_function_373 3 rfl (v := q64.1 + 1) (iv ci_1) [1, 2, 3, 0, 4, 5, 6] (by decide) (lc' := [(0, .ref (ar 0)), (1, .int x.1), (2, .int x.2.1), (3, .int (q64.1 + 1)), (4, .int x.2.2.2.1), (5, .int q37.1), (6, .int (x.2.2.1 + 1))]) rfl ?_
                      refine j_goto (pc := 376) C d_Mo_function_376 (tgt := 91) rfl ?_
                      refine j_lc C (lc' := [(0, .ref (ar 0)), (1, .int x.1), (2, .int x.2.1), (3, .int (q64.1 + 1)), (4, .int x.2.2.2.1)]) [0, 1, 2, 3, 4] rfl ?_
                      exact k91_ih (x.1, x.2.1, q64.1 + 1, x.2.2.2.1, q68) hf
                  · rw [if_pos h57] at hf
                    refine j_aload_n (pc := 305) C d_Mo_function_305 rfl 0 rfl ?_
                    refine j_iload_n (pc := 306) C d_Mo_function_306 rfl 3 rfl ?_
                    refine j_iconst (pc := 307) C d_Mo_function_307 ck_1 ?_
                    refine j_iadd (pc := 308) C d_Mo_function_308 ?_
                    obtain ⟨q69, eq69, hf⟩ := ob hf
                    refine j_callVi (pc := 309) C (rest := []) d_Mo_function_309 (c_Mo_compile (g := g) (ar := ar) eq69) cv_Mo_compile tw1330 0 rfl rfl cut_same rfl rfl (Nat.le_of_ble_eq_true rfl) (kc2 := 0) (ks2 := 0) (by decide) ?_
                    refine j_istore_n (pc := 312) C d_Mo_function_312 rfl [1, 2, 3, 0, 4, 5] (by decide) (lc' := [(0, .ref (ar 0)), (1, .int x.1), (2, .int x.2.1), (3, .int q69.1), (4, .int x.2.2.2.1), (5, .int q37.1)]) rfl ?_
                    refine j_aload_n (pc := 313) C d_Mo_function_313 rfl 0 rfl ?_
                    refine j_iload (pc := 314) C d_Mo_function_314 5 rfl ?_
                    refine j_iconst (pc := 316) C d_Mo_function_316 ck_4 ?_
                    refine j_icmp_ne (pc := 317) C d_Mo_function_317 (tgt := 324) rfl (fun h70 => ?_) (fun h70 => ?_)
                    · rw [if_neg h70] at hf
                      refine j_iconst (pc := 324) C d_Mo_function_324 ck_4 ?_
                      refine j_iconst (pc := 325) C d_Mo_function_325 ck_0 ?_
                      obtain ⟨q71, eq71, hf⟩ := ob hf
                      refine j_callVv (pc := 326) C (rest := []) d_Mo_function_326 (c_Mo_emit (g := g) (ar := ar) eq71) cv_Mo_emit tw1326 0 rfl rfl cut_same rfl rfl (Nat.le_of_ble_eq_true rfl) (kc2 := 0) (ks2 := 0) (by decide) ?_
                      refine j_goto (pc := 329) C d_Mo_function_329 (tgt := 373) rfl ?_
                      refine j_iinc (pc := 373) C d_Mo_function_373 3 rfl (v := q69.1 + 1) (iv ci_1) [1, 2, 3, 0, 4, 5] (by decide) (lc' := [(0, .ref (ar 0)), (1, .int x.1), (2, .int x.2.1), (3, .int (q69.1 + 1)), (4, .int x.2.2.2.1), (5, .int q37.1)]) rfl ?_
                      refine j_goto (pc := 376) C d_Mo_function_376 (tgt := 91) rfl ?_
                      refine j_lc C (lc' := [(0, .ref (ar 0)), (1, .int x.1), (2, .int x.2.1), (3, .int (q69.1 + 1)), (4, .int x.2.2.2.1)]) [0, 1, 2, 3, 4] rfl ?_
                      exact k91_ih (x.1, x.2.1, q69.1 + 1, x.2.2.2.1, q71) hf
                    · rw [if_pos h70] at hf
                      refine j_iconst (pc := 320) C d_Mo_function_320 ck_3 ?_
                      refine j_goto (pc := 321) C d_Mo_function_321 (tgt := 325) rfl ?_
                      refine j_iconst (pc := 325) C d_Mo_function_325 ck_0 ?_
                      obtain ⟨q72, eq72, hf⟩ := ob hf
                      refine j_callVv (pc := 326) C (rest := []) d_Mo_function_326 (c_Mo_emit (g := g) (ar := ar) eq72) cv_Mo_emit tw1326 0 rfl rfl cut_same rfl rfl (Nat.le_of_ble_eq_true rfl) (kc2 := 0) (ks2 := 0) (by decide) ?_
                      refine j_goto (pc := 329) C d_Mo_function_329 (tgt := 373) rfl ?_
                      refine j_iinc (pc := 373) C d_Mo_function_373 3 rfl (v := q69.1 + 1) (iv ci_1) [1, 2, 3, 0, 4, 5] (by decide) (lc' := [(0, .ref (ar 0)), (1, .int x.1), (2, .int x.2.1), (3, .int (q69.1 + 1)), (4, .int x.2.2.2.1), (5, .int q37.1)]) rfl ?_
                      refine j_goto (pc := 376) C d_Mo_function_376 (tgt := 91) rfl ?_
                      refine j_lc C (lc' := [(0, .ref (ar 0)), (1, .int x.1), (2, .int x.2.1), (3, .int (q69.1 + 1)), (4, .int x.2.2.2.1)]) [0, 1, 2, 3, 4] rfl ?_
                      exact k91_ih (x.1, x.2.1, q69.1 + 1, x.2.2.2.1, q72) hf
              · rw [if_pos h51] at hf
                refine j_aload_n (pc := 229) C d_Mo_function_229 rfl 0 rfl ?_
                refine j_get (pc := 230) C d_Mo_function_230 0 44 wR_o0 rfl (v := .ref (ar 32)) rfl (by decide) tw986 ?_
                refine j_iload (pc := 233) C d_Mo_function_233 4 rfl ?_
                refine j_aload_n (pc := 235) C d_Mo_function_235 rfl 0 rfl ?_
                refine j_get (pc := 236) C d_Mo_function_236 0 34 wR_o0 rfl (v := .int (q40.2.2.1 11)) rfl (by decide) tw976 ?_
                obtain ⟨b73, hf⟩ := og hf
                refine j_iast (pc := 239) C d_Mo_function_239 32 (inb_in b73) wR_a32 (ws' := wR g ar (va_up q40.2.1 32 (upd (q40.2.1 32) x.2.2.2.1.toNatClampNeg (q40.2.2.1 11))) q40.2.2.1 q40.2.2.2) wR_s32 ?_
                refine j_aload_n (pc := 240) C d_Mo_function_240 rfl 0 rfl ?_
                refine j_iload_n (pc := 241) C d_Mo_function_241 rfl 3 rfl ?_
                refine j_iconst (pc := 242) C d_Mo_function_242 ck_1 ?_
                refine j_iadd (pc := 243) C d_Mo_function_243 ?_
                obtain ⟨q74, eq74, hf⟩ := ob hf
                refine j_callVi (pc := 244) C (rest := []) d_Mo_function_244 (c_Mo_compile (g := g) (ar := ar) eq74) cv_Mo_compile tw1330 0 rfl rfl cut_same rfl rfl (Nat.le_of_ble_eq_true rfl) (kc2 := 0) (ks2 := 0) (by decide) ?_
                refine j_istore_n (pc := 247) C d_Mo_function_247 rfl [1, 2, 3, 0, 4, 5] (by decide) (lc' := [(0, .ref (ar 0)), (1, .int x.1), (2, .int x.2.1), (3, .int q74.1), (4, .int x.2.2.2.1), (5, .int q37.1)]) rfl ?_
                refine j_aload_n (pc := 248) C d_Mo_function_248 rfl 0 rfl ?_
                refine j_get (pc := 249) C d_Mo_function_249 0 43 wR_o0 rfl (v := .ref (ar 31)) rfl (by decide) tw985 ?_
                refine j_iload (pc := 252) C d_Mo_function_252 4 rfl ?_
                refine j_aload_n (pc := 254) C d_Mo_function_254 rfl 0 rfl ?_
                refine j_get (pc := 255) C d_Mo_function_255 0 34 wR_o0 rfl (v := .int (q74.2.2.1 11)) rfl (by decide) tw976 ?_
                obtain ⟨b75, hf⟩ := og hf
                refine j_iast (pc := 258) C d_Mo_function_258 31 (inb_in b75) wR_a31 (ws' := wR g ar (va_up q74.2.1 31 (upd (q74.2.1 31) x.2.2.2.1.toNatClampNeg (q74.2.2.1 11))) q74.2.2.1 q74.2.2.2) wR_s31 ?_
                refine j_aload_n (pc := 259) C d_Mo_function_259 rfl 0 rfl ?_
                refine j_iconst (pc := 260) C d_Mo_function_260 ck_5 ?_
                refine j_iconst (pc := 261) C d_Mo_function_261 ck_0 ?_
                obtain ⟨q76, eq76, hf⟩ := ob hf
                refine j_callVv (pc := 262) C (rest := []) d_Mo_function_262 (c_Mo_emit (g := g) (ar := ar) eq76) cv_Mo_emit tw1326 0 rfl rfl cut_same rfl rfl (Nat.le_of_ble_eq_true rfl) (kc2 := 0) (ks2 := 0) (by decide) ?_
                refine j_iload (pc := 265) C d_Mo_function_265 5 rfl ?_
                refine j_iconst (pc := 267) C d_Mo_function_267 ck_3 ?_
                refine j_icmp_ne (pc := 268) C d_Mo_function_268 (tgt := 278) rfl (fun h77 => ?_) (fun h77 => ?_)
                · rw [if_neg h77] at hf
                  refine j_aload_n (pc := 278) C d_Mo_function_278 rfl 0 rfl ?_
                  refine j_get (pc := 279) C d_Mo_function_279 0 42 wR_o0 rfl (v := .ref (ar 30)) rfl (by decide) tw984 ?_
                  refine j_iload (pc := 282) C d_Mo_function_282 4 rfl ?_
                  refine j_iload (pc := 284) C d_Mo_function_284 5 rfl ?_
                  obtain ⟨b78, hf⟩ := og hf
                  refine j_iast (pc := 286) C d_Mo_function_286 30 (inb_in b78) wR_a30 (ws' := wR g ar (va_up q76.1 30 (upd (q76.1 30) x.2.2.2.1.toNatClampNeg q37.1)) q76.2.1 q76.2.2) wR_s30 ?_
                  refine j_iinc (pc := 287) C d_Mo_function_287 4 rfl (v := x.2.2.2.1 + 1) (iv ci_1) [1, 2, 3, 4, 0, 5] (by decide) (lc' := [(0, .ref (ar 0)), (1, .int x.1), (2, .int x.2.1), (3, .int q74.1), (4, .int (x.2.2.2.1 + 1)), (5, .int q37.1)]) rfl ?_
                  refine j_goto (pc := 290) C d_Mo_function_290 (tgt := 373) rfl ?_
                  refine j_iinc (pc := 373) C d_Mo_function_373 3 rfl (v := q74.1 + 1) (iv ci_1) [1, 2, 3, 0, 4, 5] (by decide) (lc' := [(0, .ref (ar 0)), (1, .int x.1), (2, .int x.2.1), (3, .int (q74.1 + 1)), (4, .int (x.2.2.2.1 + 1)), (5, .int q37.1)]) rfl ?_
                  refine j_goto (pc := 376) C d_Mo_function_376 (tgt := 91) rfl ?_
                  refine j_lc C (lc' := [(0, .ref (ar 0)), (1, .int x.1), (2, .int x.2.1), (3, .int (q74.1 + 1)), (4, .int (x.2.2.2.1 + 1))]) [0, 1, 2, 3, 4] rfl ?_
                  exact k91_ih (x.1, x.2.1, q74.1 + 1, x.2.2.2.1 + 1, ((va_up q76.1 30 (upd (q76.1 30) x.2.2.2.1.toNatClampNeg q37.1)), q76.2.1, q76.2.2)) hf
                · rw [if_pos h77] at hf
                  refine j_aload_n (pc := 271) C d_Mo_function_271 rfl 0 rfl ?_
                  refine j_bipush (pc := 272) C d_Mo_function_272 cb_8 ?_
                  refine j_iconst (pc := 274) C d_Mo_function_274 ck_0 ?_
                  obtain ⟨q79, eq79, hf⟩ := ob hf
                  refine j_callVv (pc := 275) C (rest := []) d_Mo_function_275 (c_Mo_emit (g := g) (ar := ar) eq79) cv_Mo_emit tw1326 0 rfl rfl cut_same rfl rfl (Nat.le_of_ble_eq_true rfl) (kc2 := 0) (ks2 := 0) (by decide) ?_
                  refine j_aload_n (pc := 278) C d_Mo_function_278 rfl 0 rfl ?_
                  refine j_get (pc := 279) C d_Mo_function_279 0 42 wR_o0 rfl (v := .ref (ar 30)) rfl (by decide) tw984 ?_
                  refine j_iload (pc := 282) C d_Mo_function_282 4 rfl ?_
                  refine j_iload (pc := 284) C d_Mo_function_284 5 rfl ?_
                  obtain ⟨b80, hf⟩ := og hf
                  refine j_iast (pc := 286) C d_Mo_function_286 30 (inb_in b80) wR_a30 (ws' := wR g ar (va_up q79.1 30 (upd (q79.1 30) x.2.2.2.1.toNatClampNeg q37.1)) q79.2.1 q79.2.2) wR_s30 ?_
                  refine j_iinc (pc := 287) C d_Mo_function_287 4 rfl (v := x.2.2.2.1 + 1) (iv ci_1) [1, 2, 3, 4, 0, 5] (by decide) (lc' := [(0, .ref (ar 0)), (1, .int x.1), (2, .int x.2.1), (3, .int q74.1), (4, .int (x.2.2.2.1 + 1)), (5, .int q37.1)]) rfl ?_
                  refine j_goto (pc := 290) C d_Mo_function_290 (tgt := 373) rfl ?_
                  refine j_iinc (pc := 373) C d_Mo_function_373 3 rfl (v := q74.1 + 1) (iv ci_1) [1, 2, 3, 0, 4, 5] (by decide) (lc' := [(0, .ref (ar 0)), (1, .int x.1), (2, .int x.2.1), (3, .int (q74.1 + 1)), (4, .int (x.2.2.2.1 + 1)), (5, .int q37.1)]) rfl ?_
                  refine j_goto (pc := 376) C d_Mo_function_376 (tgt := 91) rfl ?_
                  refine j_lc C (lc' := [(0, .ref (ar 0)), (1, .int x.1), (2, .int x.2.1), (3, .int (q74.1 + 1)), (4, .int (x.2.2.2.1 + 1))]) [0, 1, 2, 3, 4] rfl ?_
                  exact k91_ih (x.1, x.2.1, q74.1 + 1, x.2.2.2.1 + 1, ((va_up q79.1 30 (upd (q79.1 30) x.2.2.2.1.toNatClampNeg q37.1)), q79.2.1, q79.2.2)) hf
          · rw [if_neg h41] at hf
            refine j_iinc (pc := 161) C d_Mo_function_161 4 rfl (v := x.2.2.2.1 - 1) id_m1 [1, 2, 3, 4, 0, 5] (by decide) (lc' := [(0, .ref (ar 0)), (1, .int x.1), (2, .int x.2.1), (3, .int x.2.2.1), (4, .int (x.2.2.2.1 - 1)), (5, .int q37.1)]) rfl ?_
            refine j_aload_n (pc := 164) C d_Mo_function_164 rfl 0 rfl ?_
            refine j_get (pc := 165) C d_Mo_function_165 0 42 wR_o0 rfl (v := .ref (ar 30)) rfl (by decide) tw984 ?_
            refine j_iload (pc := 168) C d_Mo_function_168 4 rfl ?_
            obtain ⟨b81, hf⟩ := og hf
            refine j_iald (pc := 170) C d_Mo_function_170 30 (inb_in b81) (x := q40.2.1 30 (x.2.2.2.1 - 1).toNatClampNeg) wR_a30 rfl ?_
            refine j_iconst (pc := 171) C d_Mo_function_171 ck_3 ?_
            refine j_icmp_ne (pc := 172) C d_Mo_function_172 (tgt := 188) rfl (fun h82 => ?_) (fun h82 => ?_)
            · rw [if_neg h82] at hf
              refine j_aload_n (pc := 188) C d_Mo_function_188 rfl 0 rfl ?_
              refine j_get (pc := 189) C d_Mo_function_189 0 42 wR_o0 rfl (v := .ref (ar 30)) rfl (by decide) tw984 ?_
              refine j_iload (pc := 192) C d_Mo_function_192 4 rfl ?_
              obtain ⟨b83, hf⟩ := og hf
              refine j_iald (pc := 194) C d_Mo_function_194 30 (inb_in b83) (x := q40.2.1 30 (x.2.2.2.1 - 1).toNatClampNeg) wR_a30 rfl ?_
              refine j_if_eq (pc := 195) C d_Mo_function_195 (tgt := 373) rfl (fun h84 => ?_) (fun h84 => ?_)
              · rw [if_pos h84] at hf
                refine j_iinc (pc := 373) C d_Mo_function_373 3 rfl (v := x.2.2.1 + 1) (iv ci_1) [1, 2, 3, 0, 4, 5] (by decide) (lc' := [(0, .ref (ar 0)), (1, .int x.1), (2, .int x.2.1), (3, .int (x.2.2.1 + 1)), (4, .int (x.2.2.2.1 - 1)), (5, .int q37.1)]) rfl ?_
                refine j_goto (pc := 376) C d_Mo_function_376 (tgt := 91) rfl ?_
                refine j_lc C (lc' := [(0, .ref (ar 0)), (1, .int x.1), (2, .int x.2.1), (3, .int (x.2.2.1 + 1)), (4, .int (x.2.2.2.1 - 1))]) [0, 1, 2, 3, 4] rfl ?_
                exact k91_ih (x.1, x.2.1, x.2.2.1 + 1, x.2.2.2.1 - 1, q40.2) hf
              · rw [if_neg h84] at hf
                refine j_aload_n (pc := 198) C d_Mo_function_198 rfl 0 rfl ?_
                refine j_get (pc := 199) C d_Mo_function_199 0 36 wR_o0 rfl (v := .ref (ar 25)) rfl (by decide) tw978 ?_
                refine j_aload_n (pc := 202) C d_Mo_function_202 rfl 0 rfl ?_
                refine j_get (pc := 203) C d_Mo_function_203 0 43 wR_o0 rfl (v := .ref (ar 31)) rfl (by decide) tw985 ?_
                refine j_iload (pc := 206) C d_Mo_function_206 4 rfl ?_
                obtain ⟨b85, hf⟩ := og hf
                refine j_iald (pc := 208) C d_Mo_function_208 31 (inb_in b85) (x := q40.2.1 31 (x.2.2.2.1 - 1).toNatClampNeg) wR_a31 rfl ?_
                refine j_aload_n (pc := 209) C d_Mo_function_209 rfl 0 rfl ?_
                refine j_get (pc := 210) C d_Mo_function_210 0 34 wR_o0 rfl (v := .int (q40.2.2.1 11)) rfl (by decide) tw976 ?_
                obtain ⟨b86, hf⟩ := og hf
                refine j_iast (pc := 213) C d_Mo_function_213 25 (inb_in b86) wR_a25 (ws' := wR g ar (va_up q40.2.1 25 (upd (q40.2.1 25) (q40.2.1 31 (x.2.2.2.1 - 1).toNatClampNeg).toNatClampNeg (q40.2.2.1 11))) q40.2.2.1 q40.2.2.2) wR_s25 ?_
                refine j_goto (pc := 214) C d_Mo_function_214 (tgt := 373) rfl ?_
                refine j_iinc (pc := 373) C d_Mo_function_373 3 rfl (v := x.2.2.1 + 1) (iv ci_1) [1, 2, 3, 0, 4, 5] (by decide) (lc' := [(0, .ref (ar 0)), (1, .int x.1), (2, .int x.2.1), (3, .int (x.2.2.1 + 1)), (4, .int (x.2.2.2.1 - 1)), (5, .int q37.1)]) rfl ?_
                refine j_goto (pc := 376) C d_Mo_function_376 (tgt := 91) rfl ?_
                refine j_lc C (lc' := [(0, .ref (ar 0)), (1, .int x.1), (2, .int x.2.1), (3, .int (x.2.2.1 + 1)), (4, .int (x.2.2.2.1 - 1))]) [0, 1, 2, 3, 4] rfl ?_
                exact k91_ih (x.1, x.2.1, x.2.2.1 + 1, x.2.2.2.1 - 1, ((va_up q40.2.1 25 (upd (q40.2.1 25) (q40.2.1 31 (x.2.2.2.1 - 1).toNatClampNeg).toNatClampNeg (q40.2.2.1 11))), q40.2.2.1, q40.2.2.2)) hf
            · rw [if_pos h82] at hf
              refine j_aload_n (pc := 175) C d_Mo_function_175 rfl 0 rfl ?_
              refine j_bipush (pc := 176) C d_Mo_function_176 cb_6 ?_
              refine j_aload_n (pc := 178) C d_Mo_function_178 rfl 0 rfl ?_
              refine j_get (pc := 179) C d_Mo_function_179 0 44 wR_o0 rfl (v := .ref (ar 32)) rfl (by decide) tw986 ?_
              refine j_iload (pc := 182) C d_Mo_function_182 4 rfl ?_
              obtain ⟨b87, hf⟩ := og hf
              refine j_iald (pc := 184) C d_Mo_function_184 32 (inb_in b87) (x := q40.2.1 32 (x.2.2.2.1 - 1).toNatClampNeg) wR_a32 rfl ?_
              obtain ⟨q88, eq88, hf⟩ := ob hf
              refine j_callVv (pc := 185) C (rest := []) d_Mo_function_185 (c_Mo_emit (g := g) (ar := ar) eq88) cv_Mo_emit tw1326 0 rfl rfl cut_same rfl rfl (Nat.le_of_ble_eq_true rfl) (kc2 := 0) (ks2 := 0) (by decide) ?_
              refine j_aload_n (pc := 188) C d_Mo_function_188 rfl 0 rfl ?_
              refine j_get (pc := 189) C d_Mo_function_189 0 42 wR_o0 rfl (v := .ref (ar 30)) rfl (by decide) tw984 ?_
              refine j_iload (pc := 192) C d_Mo_function_192 4 rfl ?_
              obtain ⟨b89, hf⟩ := og hf
              refine j_iald (pc := 194) C d_Mo_function_194 30 (inb_in b89) (x := q88.1 30 (x.2.2.2.1 - 1).toNatClampNeg) wR_a30 rfl ?_
              refine j_if_eq (pc := 195) C d_Mo_function_195 (tgt := 373) rfl (fun h90 => ?_) (fun h90 => ?_)
              · rw [if_pos h90] at hf
                refine j_iinc (pc := 373) C d_Mo_function_373 3 rfl (v := x.2.2.1 + 1) (iv ci_1) [1, 2, 3, 0, 4, 5] (by decide) (lc' := [(0, .ref (ar 0)), (1, .int x.1), (2, .int x.2.1), (3, .int (x.2.2.1 + 1)), (4, .int (x.2.2.2.1 - 1)), (5, .int q37.1)]) rfl ?_
                refine j_goto (pc := 376) C d_Mo_function_376 (tgt := 91) rfl ?_
                refine j_lc C (lc' := [(0, .ref (ar 0)), (1, .int x.1), (2, .int x.2.1), (3, .int (x.2.2.1 + 1)), (4, .int (x.2.2.2.1 - 1))]) [0, 1, 2, 3, 4] rfl ?_
                exact k91_ih (x.1, x.2.1, x.2.2.1 + 1, x.2.2.2.1 - 1, q88) hf
              · rw [if_neg h90] at hf
                refine j_aload_n (pc := 198) C d_Mo_function_198 rfl 0 rfl ?_
                refine j_get (pc := 199) C d_Mo_function_199 0 36 wR_o0 rfl (v := .ref (ar 25)) rfl (by decide) tw978 ?_
                refine j_aload_n (pc := 202) C d_Mo_function_202 rfl 0 rfl ?_
                refine j_get (pc := 203) C d_Mo_function_203 0 43 wR_o0 rfl (v := .ref (ar 31)) rfl (by decide) tw985 ?_
                refine j_iload (pc := 206) C d_Mo_function_206 4 rfl ?_
                obtain ⟨b91, hf⟩ := og hf
                refine j_iald (pc := 208) C d_Mo_function_208 31 (inb_in b91) (x := q88.1 31 (x.2.2.2.1 - 1).toNatClampNeg) wR_a31 rfl ?_
                refine j_aload_n (pc := 209) C d_Mo_function_209 rfl 0 rfl ?_
                refine j_get (pc := 210) C d_Mo_function_210 0 34 wR_o0 rfl (v := .int (q88.2.1 11)) rfl (by decide) tw976 ?_
                obtain ⟨b92, hf⟩ := og hf
                refine j_iast (pc := 213) C d_Mo_function_213 25 (inb_in b92) wR_a25 (ws' := wR g ar (va_up q88.1 25 (upd (q88.1 25) (q88.1 31 (x.2.2.2.1 - 1).toNatClampNeg).toNatClampNeg (q88.2.1 11))) q88.2.1 q88.2.2) wR_s25 ?_
                refine j_goto (pc := 214) C d_Mo_function_214 (tgt := 373) rfl ?_
                refine j_iinc (pc := 373) C d_Mo_function_373 3 rfl (v := x.2.2.1 + 1) (iv ci_1) [1, 2, 3, 0, 4, 5] (by decide) (lc' := [(0, .ref (ar 0)), (1, .int x.1), (2, .int x.2.1), (3, .int (x.2.2.1 + 1)), (4, .int (x.2.2.2.1 - 1)), (5, .int q37.1)]) rfl ?_
                refine j_goto (pc := 376) C d_Mo_function_376 (tgt := 91) rfl ?_
                refine j_lc C (lc' := [(0, .ref (ar 0)), (1, .int x.1), (2, .int x.2.1), (3, .int (x.2.2.1 + 1)), (4, .int (x.2.2.2.1 - 1))]) [0, 1, 2, 3, 4] rfl ?_
                exact k91_ih (x.1, x.2.1, x.2.2.1 + 1, x.2.2.2.1 - 1, ((va_up q88.1 25 (upd (q88.1 25) (q88.1 31 (x.2.2.2.1 - 1).toNatClampNeg).toNatClampNeg (q88.2.1 11))), q88.2.1, q88.2.2)) hf
        · rw [if_neg h39] at hf
          refine j_aload_n (pc := 137) C d_Mo_function_137 rfl 0 rfl ?_
          refine j_get (pc := 138) C d_Mo_function_138 0 42 wR_o0 rfl (v := .ref (ar 30)) rfl (by decide) tw984 ?_
          refine j_iload (pc := 141) C d_Mo_function_141 4 rfl ?_
          refine j_iconst (pc := 143) C d_Mo_function_143 ck_0 ?_
          obtain ⟨b93, hf⟩ := og hf
          refine j_iast (pc := 144) C d_Mo_function_144 30 (inb_in b93) wR_a30 (ws' := wR g ar (va_up q38.2.1 30 (upd (q38.2.1 30) x.2.2.2.1.toNatClampNeg 0)) q38.2.2.1 q38.2.2.2) wR_s30 ?_
          refine j_iinc (pc := 145) C d_Mo_function_145 4 rfl (v := x.2.2.2.1 + 1) (iv ci_1) [1, 2, 3, 4, 0, 5] (by decide) (lc' := [(0, .ref (ar 0)), (1, .int x.1), (2, .int x.2.1), (3, .int x.2.2.1), (4, .int (x.2.2.2.1 + 1)), (5, .int q37.1)]) rfl ?_
          refine j_goto (pc := 148) C d_Mo_function_148 (tgt := 373) rfl ?_
          refine j_iinc (pc := 373) C d_Mo_function_373 3 rfl (v := x.2.2.1 + 1) (iv ci_1) [1, 2, 3, 0, 4, 5] (by decide) (lc' := [(0, .ref (ar 0)), (1, .int x.1), (2, .int x.2.1), (3, .int (x.2.2.1 + 1)), (4, .int (x.2.2.2.1 + 1)), (5, .int q37.1)]) rfl ?_
          refine j_goto (pc := 376) C d_Mo_function_376 (tgt := 91) rfl ?_
          refine j_lc C (lc' := [(0, .ref (ar 0)), (1, .int x.1), (2, .int x.2.1), (3, .int (x.2.2.1 + 1)), (4, .int (x.2.2.2.1 + 1))]) [0, 1, 2, 3, 4] rfl ?_
          exact k91_ih (x.1, x.2.1, x.2.2.1 + 1, x.2.2.2.1 + 1, ((va_up q38.2.1 30 (upd (q38.2.1 30) x.2.2.2.1.toNatClampNeg 0)), q38.2.2.1, q38.2.2.2)) hf
  have L72 : ∀ (n : Nat) (x : Int32 × Int32 × Int32 × RS), lpN (BMo_function_72) n x = some q → 𝒥 0 0 (wR g ar x.2.2.2.1 x.2.2.2.2.1 x.2.2.2.2.2) [(0, .ref (ar 0)), (1, .int x.1), (2, .int x.2.1), (3, .int x.2.2.1)] [] 72 := by
    refine lp_ind (fun k72 k72_ih x hf => ?_)
    unfold BMo_function_72 at hf
    refine j_aload_n (pc := 72) C d_Mo_function_72 rfl 0 rfl ?_
    refine j_iload_n (pc := 73) C d_Mo_function_73 rfl 3 rfl ?_
    refine j_bipush (pc := 74) C d_Mo_function_74 cb_123 ?_
    obtain ⟨q6, eq6, hf⟩ := ob hf
    refine j_callVi (pc := 76) C (rest := []) d_Mo_function_76 (c_Mo_is (g := g) (ar := ar) eq6) cv_Mo_is tw1198 0 rfl rfl cut_same rfl rfl (Nat.le_of_ble_eq_true rfl) (kc2 := 0) (ks2 := 0) (by decide) ?_
    refine j_if_ne (pc := 79) C d_Mo_function_79 (tgt := 88) rfl (fun h7 => ?_) (fun h7 => ?_)
    · rw [if_neg h7] at hf
      refine j_iconst (pc := 88) C d_Mo_function_88 ck_0 ?_
      refine j_istore (pc := 89) C d_Mo_function_89 [1, 2, 3, 4, 0] (by decide) (lc' := [(0, .ref (ar 0)), (1, .int x.1), (2, .int x.2.1), (3, .int x.2.2.1), (4, .int 0)]) rfl ?_
      exact L91 100000 (x.1, x.2.1, x.2.2.1, 0, q6.2) hf
    · rw [if_pos h7] at hf
      refine j_iinc (pc := 82) C d_Mo_function_82 3 rfl (v := x.2.2.1 + 1) (iv ci_1) [1, 2, 3, 0] (by decide) (lc' := [(0, .ref (ar 0)), (1, .int x.1), (2, .int x.2.1), (3, .int (x.2.2.1 + 1))]) rfl ?_
      refine j_goto (pc := 85) C d_Mo_function_85 (tgt := 72) rfl ?_
      exact k72_ih (x.1, x.2.1, x.2.2.1 + 1, q6.2) hf
  have L19 : ∀ (n : Nat) (x : Int32 × Int32 × Int32 × RS), lpN (BMo_function_19) n x = some q → 𝒥 0 0 (wR g ar x.2.2.2.1 x.2.2.2.2.1 x.2.2.2.2.2) [(0, .ref (ar 0)), (1, .int x.1), (2, .int x.2.1), (3, .int x.2.2.1)] [] 19 := by
    refine lp_ind (fun k19 k19_ih x hf => ?_)
    unfold BMo_function_19 at hf
    refine j_iload_n (pc := 19) C d_Mo_function_19 rfl 3 rfl ?_
    refine j_aload_n (pc := 20) C d_Mo_function_20 rfl 0 rfl ?_
    refine j_get (pc := 21) C d_Mo_function_21 0 21 wR_o0 rfl (v := .ref (ar 17)) rfl (by decide) tw963 ?_
    refine j_iload_n (pc := 24) C d_Mo_function_24 rfl 1 rfl ?_
    obtain ⟨b3, hf⟩ := og hf
    refine j_iald (pc := 25) C d_Mo_function_25 17 (inb_in b3) (x := x.2.2.2.1 17 x.1.toNatClampNeg) wR_a17 rfl ?_
    refine j_icmp_ge (pc := 26) C d_Mo_function_26 (tgt := 65) rfl (fun h4 => ?_) (fun h4 => ?_)
    · rw [if_pos h4] at hf
      refine j_aload_n (pc := 65) C d_Mo_function_65 rfl 0 rfl ?_
      refine j_get (pc := 66) C d_Mo_function_66 0 20 wR_o0 rfl (v := .ref (ar 16)) rfl (by decide) tw962 ?_
      refine j_iload_n (pc := 69) C d_Mo_function_69 rfl 1 rfl ?_
      obtain ⟨b5, hf⟩ := og hf
      refine j_iald (pc := 70) C d_Mo_function_70 16 (inb_in b5) (x := x.2.2.2.1 16 x.1.toNatClampNeg) wR_a16 rfl ?_
      refine j_istore_n (pc := 71) C d_Mo_function_71 rfl [1, 2, 3, 0] (by decide) (lc' := [(0, .ref (ar 0)), (1, .int x.1), (2, .int x.2.1), (3, .int (x.2.2.2.1 16 x.1.toNatClampNeg))]) rfl ?_
      exact L72 100000 (x.1, x.2.1, x.2.2.2.1 16 x.1.toNatClampNeg, x.2.2.2) hf
    · rw [if_neg h4] at hf
      refine j_aload_n (pc := 29) C d_Mo_function_29 rfl 0 rfl ?_
      refine j_get (pc := 30) C d_Mo_function_30 0 12 wR_o0 rfl (v := .ref (ar 9)) rfl (by decide) tw954 ?_
      refine j_iload_n (pc := 33) C d_Mo_function_33 rfl 3 rfl ?_
      obtain ⟨b94, hf⟩ := og hf
      refine j_iald (pc := 34) C d_Mo_function_34 9 (inb_in b94) (x := x.2.2.2.1 9 x.2.2.1.toNatClampNeg) wR_a9 rfl ?_
      refine j_iconst (pc := 35) C d_Mo_function_35 ck_2 ?_
      refine j_icmp_eq (pc := 36) C d_Mo_function_36 (tgt := 49) rfl (fun h95 => ?_) (fun h95 => ?_)
      · rw [if_pos h95] at hf
        refine j_aload_n (pc := 49) C d_Mo_function_49 rfl 0 rfl ?_
        refine j_get (pc := 50) C d_Mo_function_50 0 38 wR_o0 rfl (v := .ref (ar 27)) rfl (by decide) tw980 ?_
        refine j_iload_n (pc := 53) C d_Mo_function_53 rfl 3 rfl ?_
        refine j_iload_n (pc := 54) C d_Mo_function_54 rfl 2 rfl ?_
        obtain ⟨b96, hf⟩ := og hf
        refine j_iast (pc := 55) C d_Mo_function_55 27 (inb_in b96) wR_a27 (ws' := wR g ar (va_up x.2.2.2.1 27 (upd (x.2.2.2.1 27) x.2.2.1.toNatClampNeg x.2.1)) x.2.2.2.2.1 x.2.2.2.2.2) wR_s27 ?_
        refine j_iinc (pc := 56) C d_Mo_function_56 2 rfl (v := x.2.1 + 1) (iv ci_1) [1, 2, 0, 3] (by decide) (lc' := [(0, .ref (ar 0)), (1, .int x.1), (2, .int (x.2.1 + 1)), (3, .int x.2.2.1)]) rfl ?_
        refine j_iinc (pc := 59) C d_Mo_function_59 3 rfl (v := x.2.2.1 + 1) (iv ci_1) [1, 2, 3, 0] (by decide) (lc' := [(0, .ref (ar 0)), (1, .int x.1), (2, .int (x.2.1 + 1)), (3, .int (x.2.2.1 + 1))]) rfl ?_
        refine j_goto (pc := 62) C d_Mo_function_62 (tgt := 19) rfl ?_
        exact k19_ih (x.1, x.2.1 + 1, x.2.2.1 + 1, ((va_up x.2.2.2.1 27 (upd (x.2.2.2.1 27) x.2.2.1.toNatClampNeg x.2.1)), x.2.2.2.2.1, x.2.2.2.2.2)) hf
      · rw [if_neg h95] at hf
        refine j_aload_n (pc := 39) C d_Mo_function_39 rfl 0 rfl ?_
        refine j_get (pc := 40) C d_Mo_function_40 0 12 wR_o0 rfl (v := .ref (ar 9)) rfl (by decide) tw954 ?_
        refine j_iload_n (pc := 43) C d_Mo_function_43 rfl 3 rfl ?_
        obtain ⟨b97, hf⟩ := og hf
        refine j_iald (pc := 44) C d_Mo_function_44 9 (inb_in b97) (x := x.2.2.2.1 9 x.2.2.1.toNatClampNeg) wR_a9 rfl ?_
        refine j_iconst (pc := 45) C d_Mo_function_45 ck_3 ?_
        refine j_icmp_ne (pc := 46) C d_Mo_function_46 (tgt := 59) rfl (fun h98 => ?_) (fun h98 => ?_)
        · rw [if_neg h98] at hf
          refine j_iinc (pc := 59) C d_Mo_function_59 3 rfl (v := x.2.2.1 + 1) (iv ci_1) [1, 2, 3, 0] (by decide) (lc' := [(0, .ref (ar 0)), (1, .int x.1), (2, .int x.2.1), (3, .int (x.2.2.1 + 1))]) rfl ?_
          refine j_goto (pc := 62) C d_Mo_function_62 (tgt := 19) rfl ?_
          exact k19_ih (x.1, x.2.1, x.2.2.1 + 1, x.2.2.2) hf
        · rw [if_pos h98] at hf
          refine j_aload_n (pc := 49) C d_Mo_function_49 rfl 0 rfl ?_
          refine j_get (pc := 50) C d_Mo_function_50 0 38 wR_o0 rfl (v := .ref (ar 27)) rfl (by decide) tw980 ?_
          refine j_iload_n (pc := 53) C d_Mo_function_53 rfl 3 rfl ?_
          refine j_iload_n (pc := 54) C d_Mo_function_54 rfl 2 rfl ?_
          obtain ⟨b99, hf⟩ := og hf
          refine j_iast (pc := 55) C d_Mo_function_55 27 (inb_in b99) wR_a27 (ws' := wR g ar (va_up x.2.2.2.1 27 (upd (x.2.2.2.1 27) x.2.2.1.toNatClampNeg x.2.1)) x.2.2.2.2.1 x.2.2.2.2.2) wR_s27 ?_
          refine j_iinc (pc := 56) C d_Mo_function_56 2 rfl (v := x.2.1 + 1) (iv ci_1) [1, 2, 0, 3] (by decide) (lc' := [(0, .ref (ar 0)), (1, .int x.1), (2, .int (x.2.1 + 1)), (3, .int x.2.2.1)]) rfl ?_
          refine j_iinc (pc := 59) C d_Mo_function_59 3 rfl (v := x.2.2.1 + 1) (iv ci_1) [1, 2, 3, 0] (by decide) (lc' := [(0, .ref (ar 0)), (1, .int x.1), (2, .int (x.2.1 + 1)), (3, .int (x.2.2.1 + 1))]) rfl ?_
          refine j_goto (pc := 62) C d_Mo_function_62 (tgt := 19) rfl ?_
          exact k19_ih (x.1, x.2.1 + 1, x.2.2.1 + 1, ((va_up x.2.2.2.1 27 (upd (x.2.2.2.1 27) x.2.2.1.toNatClampNeg x.2.1)), x.2.2.2.2.1, x.2.2.2.2.2)) hf
  unfold f_Mo_function at hf
  change 𝒥 0 0 (wR g ar r.1 r.2.1 r.2.2) [(0, .ref (ar 0)), (1, .int a1)] [] 0
  refine j_aload_n (pc := 0) C d_Mo_function_0 rfl 0 rfl ?_
  refine j_get (pc := 1) C d_Mo_function_1 0 37 wR_o0 rfl (v := .ref (ar 26)) rfl (by decide) tw979 ?_
  refine j_iload_n (pc := 4) C d_Mo_function_4 rfl 1 rfl ?_
  refine j_aload_n (pc := 5) C d_Mo_function_5 rfl 0 rfl ?_
  refine j_get (pc := 6) C d_Mo_function_6 0 34 wR_o0 rfl (v := .int (r.2.1 11)) rfl (by decide) tw976 ?_
  obtain ⟨b1, hf⟩ := og hf
  refine j_iast (pc := 9) C d_Mo_function_9 26 (inb_in b1) wR_a26 (ws' := wR g ar (va_up r.1 26 (upd (r.1 26) a1.toNatClampNeg (r.2.1 11))) r.2.1 r.2.2) wR_s26 ?_
  refine j_iconst (pc := 10) C d_Mo_function_10 ck_0 ?_
  refine j_istore_n (pc := 11) C d_Mo_function_11 rfl [1, 2, 0] (by decide) (lc' := [(0, .ref (ar 0)), (1, .int a1), (2, .int 0)]) rfl ?_
  refine j_aload_n (pc := 12) C d_Mo_function_12 rfl 0 rfl ?_
  refine j_get (pc := 13) C d_Mo_function_13 0 20 wR_o0 rfl (v := .ref (ar 16)) rfl (by decide) tw962 ?_
  refine j_iload_n (pc := 16) C d_Mo_function_16 rfl 1 rfl ?_
  obtain ⟨b2, hf⟩ := og hf
  refine j_iald (pc := 17) C d_Mo_function_17 16 (inb_in b2) (x := r.1 16 a1.toNatClampNeg) wR_a16 rfl ?_
  refine j_istore_n (pc := 18) C d_Mo_function_18 rfl [1, 2, 3, 0] (by decide) (lc' := [(0, .ref (ar 0)), (1, .int a1), (2, .int 0), (3, .int (r.1 16 a1.toNatClampNeg))]) rfl ?_
  exact L19 100000 (a1, 0, r.1 16 a1.toNatClampNeg, ((va_up r.1 26 (upd (r.1 26) a1.toNatClampNeg (r.2.1 11))), r.2.1, r.2.2)) hf
