/-! String.indexOf over the signs: the code of the JDK, walked -/
theorem dS1_0 : decode prog_19_method_79_code 0 = .ok (.aload_n 0, 1) := by decide +kernel
theorem dS1_1 : decode prog_19_method_79_code 1 = .ok (.iload_n 1, 1) := by decide +kernel
theorem dS1_2 : decode prog_19_method_79_code 2 = .ok (.iconst 0, 1) := by decide +kernel
theorem dS1_3 : decode prog_19_method_79_code 3 = .ok (.invokevirtual 633, 3) := by decide +kernel
theorem dS1_6 : decode prog_19_method_79_code 6 = .ok (.ireturn, 1) := by decide +kernel
theorem dS2_0 : decode prog_19_method_80_code 0 = .ok (.aload_n 0, 1) := by decide +kernel
theorem dS2_1 : decode prog_19_method_80_code 1 = .ok (.invokevirtual 492, 3) := by decide +kernel
theorem dS2_4 : decode prog_19_method_80_code 4 = .ok (.ifCond .eq 19, 3) := by decide +kernel
theorem dS2_7 : decode prog_19_method_80_code 7 = .ok (.aload_n 0, 1) := by decide +kernel
theorem dS2_8 : decode prog_19_method_80_code 8 = .ok (.getfield 9, 3) := by decide +kernel
theorem dS2_11 : decode prog_19_method_80_code 11 = .ok (.iload_n 1, 1) := by decide +kernel
theorem dS2_12 : decode prog_19_method_80_code 12 = .ok (.iload_n 2, 1) := by decide +kernel
theorem dS2_13 : decode prog_19_method_80_code 13 = .ok (.aload_n 0, 1) := by decide +kernel
theorem dS2_14 : decode prog_19_method_80_code 14 = .ok (.invokevirtual 505, 3) := by decide +kernel
theorem dS2_17 : decode prog_19_method_80_code 17 = .ok (.invokestatic 637, 3) := by decide +kernel
theorem dS2_20 : decode prog_19_method_80_code 20 = .ok (.goto 16, 3) := by decide +kernel
theorem dS2_23 : decode prog_19_method_80_code 23 = .ok (.aload_n 0, 1) := by decide +kernel
theorem dS2_24 : decode prog_19_method_80_code 24 = .ok (.getfield 9, 3) := by decide +kernel
theorem dS2_27 : decode prog_19_method_80_code 27 = .ok (.iload_n 1, 1) := by decide +kernel
theorem dS2_28 : decode prog_19_method_80_code 28 = .ok (.iload_n 2, 1) := by decide +kernel
theorem dS2_29 : decode prog_19_method_80_code 29 = .ok (.aload_n 0, 1) := by decide +kernel
theorem dS2_30 : decode prog_19_method_80_code 30 = .ok (.invokevirtual 505, 3) := by decide +kernel
theorem dS2_33 : decode prog_19_method_80_code 33 = .ok (.invokestatic 640, 3) := by decide +kernel
theorem dS2_36 : decode prog_19_method_80_code 36 = .ok (.ireturn, 1) := by decide +kernel
theorem dSl_0 : decode prog_19_method_154_code 0 = .ok (.getstatic 38, 3) := by decide +kernel
theorem dSl_3 : decode prog_19_method_154_code 3 = .ok (.ifCond .eq 14, 3) := by decide +kernel
theorem dSl_6 : decode prog_19_method_154_code 6 = .ok (.aload_n 0, 1) := by decide +kernel
theorem dSl_7 : decode prog_19_method_154_code 7 = .ok (.getfield 15, 3) := by decide +kernel
theorem dSl_10 : decode prog_19_method_154_code 10 = .ok (.ifCond .ne 7, 3) := by decide +kernel
theorem dSl_13 : decode prog_19_method_154_code 13 = .ok (.iconst 1, 1) := by decide +kernel
theorem dSl_14 : decode prog_19_method_154_code 14 = .ok (.goto 4, 3) := by decide +kernel
theorem dSl_17 : decode prog_19_method_154_code 17 = .ok (.iconst 0, 1) := by decide +kernel
theorem dSl_18 : decode prog_19_method_154_code 18 = .ok (.ireturn, 1) := by decide +kernel
theorem dSn_0 : decode prog_19_method_54_code 0 = .ok (.aload_n 0, 1) := by decide +kernel
theorem dSn_1 : decode prog_19_method_54_code 1 = .ok (.getfield 9, 3) := by decide +kernel
theorem dSn_4 : decode prog_19_method_54_code 4 = .ok (.arraylength, 1) := by decide +kernel
theorem dSn_5 : decode prog_19_method_54_code 5 = .ok (.aload_n 0, 1) := by decide +kernel
theorem dSn_6 : decode prog_19_method_54_code 6 = .ok (.invokevirtual 335, 3) := by decide +kernel
theorem dSn_9 : decode prog_19_method_54_code 9 = .ok (.ishr, 1) := by decide +kernel
theorem dSn_10 : decode prog_19_method_54_code 10 = .ok (.ireturn, 1) := by decide +kernel
theorem dSc_0 : decode prog_19_method_152_code 0 = .ok (.getstatic 38, 3) := by decide +kernel
theorem dSc_3 : decode prog_19_method_152_code 3 = .ok (.ifCond .eq 10, 3) := by decide +kernel
theorem dSc_6 : decode prog_19_method_152_code 6 = .ok (.aload_n 0, 1) := by decide +kernel
theorem dSc_7 : decode prog_19_method_152_code 7 = .ok (.getfield 15, 3) := by decide +kernel
theorem dSc_10 : decode prog_19_method_152_code 10 = .ok (.goto 4, 3) := by decide +kernel
theorem dSc_13 : decode prog_19_method_152_code 13 = .ok (.iconst 1, 1) := by decide +kernel
theorem dSc_14 : decode prog_19_method_152_code 14 = .ok (.ireturn, 1) := by decide +kernel
theorem dLi_0 : decode prog_20_method_22_code 0 = .ok (.iload_n 1, 1) := by decide +kernel
theorem dLi_1 : decode prog_20_method_22_code 1 = .ok (.invokestatic 88, 3) := by decide +kernel
theorem dLi_4 : decode prog_20_method_22_code 4 = .ok (.ifCond .ne 5, 3) := by decide +kernel
theorem dLi_7 : decode prog_20_method_22_code 7 = .ok (.iconst (-1), 1) := by decide +kernel
theorem dLi_8 : decode prog_20_method_22_code 8 = .ok (.ireturn, 1) := by decide +kernel
theorem dLi_9 : decode prog_20_method_22_code 9 = .ok (.iload_n 2, 1) := by decide +kernel
theorem dLi_10 : decode prog_20_method_22_code 10 = .ok (.iconst 0, 1) := by decide +kernel
theorem dLi_11 : decode prog_20_method_22_code 11 = .ok (.invokestatic 92, 3) := by decide +kernel
theorem dLi_14 : decode prog_20_method_22_code 14 = .ok (.istore_n 2, 1) := by decide +kernel
theorem dLi_15 : decode prog_20_method_22_code 15 = .ok (.iload_n 3, 1) := by decide +kernel
theorem dLi_16 : decode prog_20_method_22_code 16 = .ok (.aload_n 0, 1) := by decide +kernel
theorem dLi_17 : decode prog_20_method_22_code 17 = .ok (.arraylength, 1) := by decide +kernel
theorem dLi_18 : decode prog_20_method_22_code 18 = .ok (.invokestatic 38, 3) := by decide +kernel
theorem dLi_21 : decode prog_20_method_22_code 21 = .ok (.istore_n 3, 1) := by decide +kernel
theorem dLi_22 : decode prog_20_method_22_code 22 = .ok (.iload_n 2, 1) := by decide +kernel
theorem dLi_23 : decode prog_20_method_22_code 23 = .ok (.iload_n 3, 1) := by decide +kernel
theorem dLi_24 : decode prog_20_method_22_code 24 = .ok (.if_icmp .lt 5, 3) := by decide +kernel
theorem dLi_27 : decode prog_20_method_22_code 27 = .ok (.iconst (-1), 1) := by decide +kernel
theorem dLi_28 : decode prog_20_method_22_code 28 = .ok (.ireturn, 1) := by decide +kernel
theorem dLi_29 : decode prog_20_method_22_code 29 = .ok (.aload_n 0, 1) := by decide +kernel
theorem dLi_30 : decode prog_20_method_22_code 30 = .ok (.iload_n 1, 1) := by decide +kernel
theorem dLi_31 : decode prog_20_method_22_code 31 = .ok (.iload_n 2, 1) := by decide +kernel
theorem dLi_32 : decode prog_20_method_22_code 32 = .ok (.iload_n 3, 1) := by decide +kernel
theorem dLi_33 : decode prog_20_method_22_code 33 = .ok (.invokestatic 95, 3) := by decide +kernel
theorem dLi_36 : decode prog_20_method_22_code 36 = .ok (.ireturn, 1) := by decide +kernel
theorem dLc_0 : decode prog_20_method_4_code 0 = .ok (.iload_n 0, 1) := by decide +kernel
theorem dLc_1 : decode prog_20_method_4_code 1 = .ok (.ifCond .lt 14, 3) := by decide +kernel
theorem dLc_4 : decode prog_20_method_4_code 4 = .ok (.iload_n 0, 1) := by decide +kernel
theorem dLc_5 : decode prog_20_method_4_code 5 = .ok (.sipush 255, 3) := by decide +kernel
theorem dLc_8 : decode prog_20_method_4_code 8 = .ok (.if_icmp .gt 7, 3) := by decide +kernel
theorem dLc_11 : decode prog_20_method_4_code 11 = .ok (.iconst 1, 1) := by decide +kernel
theorem dLc_12 : decode prog_20_method_4_code 12 = .ok (.goto 4, 3) := by decide +kernel
theorem dLc_15 : decode prog_20_method_4_code 15 = .ok (.iconst 0, 1) := by decide +kernel
theorem dLc_16 : decode prog_20_method_4_code 16 = .ok (.ireturn, 1) := by decide +kernel
theorem dLo_0 : decode prog_20_method_23_code 0 = .ok (.iload_n 1, 1) := by decide +kernel
theorem dLo_1 : decode prog_20_method_23_code 1 = .ok (.i2b, 1) := by decide +kernel
theorem dLo_2 : decode prog_20_method_23_code 2 = .ok (.istore 4, 2) := by decide +kernel
theorem dLo_4 : decode prog_20_method_23_code 4 = .ok (.iload_n 2, 1) := by decide +kernel
theorem dLo_5 : decode prog_20_method_23_code 5 = .ok (.istore 5, 2) := by decide +kernel
theorem dLo_7 : decode prog_20_method_23_code 7 = .ok (.iload 5, 2) := by decide +kernel
theorem dLo_9 : decode prog_20_method_23_code 9 = .ok (.iload_n 3, 1) := by decide +kernel
theorem dLo_10 : decode prog_20_method_23_code 10 = .ok (.if_icmp .ge 21, 3) := by decide +kernel
theorem dLo_13 : decode prog_20_method_23_code 13 = .ok (.aload_n 0, 1) := by decide +kernel
theorem dLo_14 : decode prog_20_method_23_code 14 = .ok (.iload 5, 2) := by decide +kernel
theorem dLo_16 : decode prog_20_method_23_code 16 = .ok (.baload, 1) := by decide +kernel
theorem dLo_17 : decode prog_20_method_23_code 17 = .ok (.iload 4, 2) := by decide +kernel
theorem dLo_19 : decode prog_20_method_23_code 19 = .ok (.if_icmp .ne 6, 3) := by decide +kernel
theorem dLo_22 : decode prog_20_method_23_code 22 = .ok (.iload 5, 2) := by decide +kernel
theorem dLo_24 : decode prog_20_method_23_code 24 = .ok (.ireturn, 1) := by decide +kernel
theorem dLo_25 : decode prog_20_method_23_code 25 = .ok (.iinc 5 1, 3) := by decide +kernel
theorem dLo_28 : decode prog_20_method_23_code 28 = .ok (.goto (-21), 3) := by decide +kernel
theorem dLo_31 : decode prog_20_method_23_code 31 = .ok (.iconst (-1), 1) := by decide +kernel
theorem dLo_32 : decode prog_20_method_23_code 32 = .ok (.ireturn, 1) := by decide +kernel
abbrev y_S1 : MethodName := { cls := "java/lang/String", name := "indexOf", desc := "(I)I" }
abbrev y_S2 : MethodName := { cls := "java/lang/String", name := "indexOf", desc := "(II)I" }
abbrev y_Sl : MethodName := { cls := "java/lang/String", name := "isLatin1", desc := "()Z" }
abbrev y_Sn : MethodName := { cls := "java/lang/String", name := "length", desc := "()I" }
abbrev y_Sc : MethodName := { cls := "java/lang/String", name := "coder", desc := "()B" }
abbrev y_Li : MethodName := { cls := "java/lang/StringLatin1", name := "indexOf", desc := "([BIII)I" }
abbrev y_Lc : MethodName := { cls := "java/lang/StringLatin1", name := "canEncode", desc := "(I)Z" }
abbrev y_Lo : MethodName := { cls := "java/lang/StringLatin1", name := "indexOfChar", desc := "([BIII)I" }
theorem cv_S1 : CV y_S1 prog_19_method_79_code 2 (some .int) 1 := ⟨⟨tc_2 135 rfl rfl, tc_1 17 rfl rfl, by decide +kernel⟩, tc_2 133 rfl rfl, tc_2 134 rfl rfl⟩
theorem cv_S2 : CV y_S2 prog_19_method_80_code 3 (some .int) 2 := ⟨⟨tc_2 139 rfl rfl, tc_1 17 rfl rfl, by decide +kernel⟩, tc_2 137 rfl rfl, tc_2 138 rfl rfl⟩
theorem cv_Sl : CV y_Sl prog_19_method_154_code 1 (some .boolean) 0 := ⟨⟨tc_2 143 rfl rfl, tc_1 17 rfl rfl, by decide +kernel⟩, tc_2 141 rfl rfl, tc_2 142 rfl rfl⟩
theorem cv_Sn : CV y_Sn prog_19_method_54_code 1 (some .int) 0 := ⟨⟨tc_2 149 rfl rfl, tc_1 17 rfl rfl, by decide +kernel⟩, tc_2 147 rfl rfl, tc_2 148 rfl rfl⟩
theorem cv_Sc : CV y_Sc prog_19_method_152_code 1 (some .byte) 0 := ⟨⟨tc_2 153 rfl rfl, tc_1 17 rfl rfl, by decide +kernel⟩, tc_2 151 rfl rfl, tc_2 152 rfl rfl⟩
theorem cv_Li : CS y_Li prog_20_method_22_code 4 (some .int) 4 := ⟨⟨tc_2 156 rfl rfl, tc_1 18 rfl rfl, by decide +kernel⟩, tc_2 155 rfl rfl⟩
theorem cv_Lc : CS y_Lc prog_20_method_4_code 1 (some .boolean) 1 := ⟨⟨tc_2 159 rfl rfl, tc_1 18 rfl rfl, by decide +kernel⟩, tc_2 158 rfl rfl⟩
theorem cv_Lo : CS y_Lo prog_20_method_23_code 6 (some .int) 4 := ⟨⟨tc_2 168 rfl rfl, tc_1 18 rfl rfl, by decide +kernel⟩, tc_2 167 rfl rfl⟩
section Rows3
variable {g : GT} {R : Room} {cc : ByteArray} {nL : Nat} {rt : Option FieldType} {own : String} {post : Option Value → va_W → Prop} {𝒥 : JT} {kc ks : Nat} {ws ws' wc : va_W} {lc lc' : List (Nat × Value)} {rest : List Value} {pc : Nat}
theorem j_ldcS (C : JK g R cc nL rt own post 𝒥) (ho : own = "ProgramDesk$Tokens") (hdg : decode cc pc = .ok (.ldc 53, 2)) (kk : 𝒥 kc ks ws lc (.ref (g_K g) :: rest) (pc + 2)) : 𝒥 kc ks ws lc rest pc := by
  subst ho
  obtain ⟨p, e, s, m, args, below, meth, c, A, Q, F, -, rfl⟩ := C
  exact fun H locs ls hP hD hS hl => va_ldcS F.1 F.2.1 F.2.2.2.2.2.1 F.2.2.2.2.2.2.2.2.2.2.2.1 hdg (kk H locs ls hP hD hS hl)
theorem j_comp (C : JK g R cc nL rt own post 𝒥) {index : Nat} (hdg : decode cc pc = .ok (.getstatic index, 3)) (hw : Cond.fieldLink own index "java/lang/String" "COMPACT_STRINGS" "Z" ∈ wsG) (kk : 𝒥 kc ks ws lc (.int 1 :: rest) (pc + 3)) : 𝒥 kc ks ws lc rest pc := by
  obtain ⟨p, e, s, m, args, below, meth, c, A, Q, F, -, rfl⟩ := C
  exact fun H locs ls hP hD hS hl => va_gets F.1 F.2.1 F.2.2.2.2.2.2.2.2.2.2.2.2.2.2.2.2 hS F.2.2.2.2.2.1 (F.2.2.2.2.2.2.1 _ hw) (fun _ h => h) hdg (kk H locs ls hP hD hS hl)
theorem j_coder (C : JK g R cc nL rt own post 𝒥) {index : Nat} (hdg : decode cc pc = .ok (.getfield index, 3)) (hw : Cond.fieldLink own index "java/lang/String" "coder" "B" ∈ wsG) (kk : 𝒥 kc ks ws lc (.int 0 :: rest) (pc + 3)) : 𝒥 kc ks ws lc (.ref (g_K g) :: rest) pc := by
  obtain ⟨p, e, s, m, args, below, meth, c, A, Q, F, -, rfl⟩ := C
  exact fun H locs ls hP hD hS hl => vk_getf F.1 F.2.1 F.2.2.2.2.2.2.2.2.2.2.2.2.2.1 hS F.2.2.2.2.2.1 (F.2.2.2.2.2.2.1 _ hw) (fun _ h => h) hdg (kk H locs ls hP hD hS hl)
theorem j_value (C : JK g R cc nL rt own post 𝒥) {index : Nat} (hdg : decode cc pc = .ok (.getfield index, 3)) (hw : Cond.fieldLink own index "java/lang/String" "value" "[B" ∈ wsG) (kk : 𝒥 kc ks ws lc (.ref (g_V g) :: rest) (pc + 3)) : 𝒥 kc ks ws lc (.ref (g_K g) :: rest) pc := by
  obtain ⟨p, e, s, m, args, below, meth, c, A, Q, F, -, rfl⟩ := C
  exact fun H locs ls hP hD hS hl => vk_getf F.1 F.2.1 F.2.2.2.2.2.2.2.2.2.2.2.2.2.2.1 hS F.2.2.2.2.2.1 (F.2.2.2.2.2.2.1 _ hw) (fun _ h => h) hdg (kk H locs ls hP hD hS hl)
theorem j_blen (C : JK g R cc nL rt own post 𝒥) (hdg : decode cc pc = .ok (.arraylength, 1)) (kk : 𝒥 kc ks ws lc (.int 11 :: rest) (pc + 1)) : 𝒥 kc ks ws lc (.ref (g_V g) :: rest) pc := by
  obtain ⟨p, e, s, m, args, below, meth, c, A, Q, F, -, rfl⟩ := C
  exact fun H locs ls hP hD hS hl => va_tlen F.1 F.2.1 F.2.2.2.2.2.2.2.2.2.2.2.2.2.2.2.1 hS rfl hdg (kk H locs ls hP hD hS hl)
theorem j_bld (C : JK g R cc nL rt own post 𝒥) {i : Int32} (hdg : decode cc pc = .ok (.baload, 1)) (hin : vp_in i 11) (kk : 𝒥 kc ks ws lc (.int (sgn i.toNatClampNeg) :: rest) (pc + 1)) : 𝒥 kc ks ws lc (.int i :: .ref (g_V g) :: rest) pc := by
  obtain ⟨p, e, s, m, args, below, meth, c, A, Q, F, -, rfl⟩ := C
  exact fun H locs ls hP hD hS hl => va_tb F.1 F.2.1 F.2.2.2.2.2.2.2.2.2.2.2.2.2.2.2.1 hS hin rfl hdg (kk H locs ls hP hD hS hl)
theorem j_i2b (C : JK g R cc nL rt own post 𝒥) {x v : Int32} (hdg : decode cc pc = .ok (.i2b, 1)) (hv : x.toInt8.toInt32 = v) (kk : 𝒥 kc ks ws lc (.int v :: rest) (pc + 1)) : 𝒥 kc ks ws lc (.int x :: rest) pc := by
  obtain ⟨p, e, s, m, args, below, meth, c, A, Q, F, -, rfl⟩ := C
  exact fun H locs ls hP hD hS hl => lv_i2b F.1 F.2.1 hdg hv (kk H locs ls hP hD hS hl)
theorem j_bret (C : JK g R cc nL (some .byte) own post 𝒥) {v : Int32} (hdg : decode cc pc = .ok (.ireturn, 1)) (hn : narrow .byte (.int v) = .int v) (hp : post (some (.int v)) ws) (hk : kc ≤ R.cells) (hs : ks ≤ R.slots) : 𝒥 kc ks ws lc [.int v] pc := by
  obtain ⟨p, e, s, m, args, below, meth, c, A, Q, F, hq, rfl⟩ := C
  obtain ⟨Qc, free, hQ, hf, hq⟩ := hq _ _ hp
  exact fun H locs ls hP hD hS hl => W_mono hQ (W.widen hk hs (W.zret F.1 F.2.1 F.2.2.2.1 hn (fun t ht hW => hq t (by rw [ht]; exact hP) hD hW (hS.F ht)) (fun q h => hf _ (hS.2.2 q h)) hdg F.2.2.2.2.1))
theorem j_callKi (C : JK g R cc nL rt own post 𝒥) {index n : Nat} (hdg : decode cc pc = .ok (.invokevirtual index, 3)) {y : MethodName} {c2 : ByteArray} {n2 : Nat} {r2 : Option FieldType} {rm : Room} {As st0 : List Value} {r : Int32} {w1 : va_W} (hM : MI g y c2 n2 r2 rm (.ref (g_K g) :: As) wc r w1) (hcv : CV y c2 n2 r2 n) (hy : y.cls = "java/lang/String") (hw : Cond.methodLink own index y ∈ wsG) (hcut : Cut ws wc w1 ws') (hst : st0 = As.reverse ++ .ref (g_K g) :: rest) (hlen : As.length = n) (hroom : (rest.map fun v => v.category).sum ≤ 8) {kc2 ks2 : Nat} (hrm : RmOk rm R n2 kc ks kc2 ks2)
    (kk : 𝒥 kc2 ks2 ws' lc (.int r :: rest) (pc + 3)) : 𝒥 kc ks ws lc st0 pc := by
  obtain ⟨p, e, s, m, args, below, meth, c, A, Q, F, -, rfl⟩ := C
  subst hst
  obtain ⟨u1, u2, rfl, rfl⟩ := hrm
  intro H locs ls hP hD hS hl
  have hF := hcut.free hD hS F.2.2.2.2.2.2.2.2.1
  obtain ⟨hPc, hDc⟩ := hcut.callee hP hD
  have hts := F.2.2.2.2.2.2.1
  have fx : CallFix p m c cc nL s args wsG own := ⟨F.1, F.2.1, F.2.2.1, F.2.2.2.2.2.1, hts⟩
  have hrc : ∃ cell : Cell, H[g_K g]? = some cell ∧ cell.vm.isStatics = false ∧ s.vm.findClass y.cls = some cell.cls := by
    obtain ⟨cell, h1, h2, h3, -⟩ := va_O.kept F.2.2.2.2.2.2.2.2.2.2.2.2.1 hS.2.1
    exact ⟨cell, h1, h2, by rw [hy]; exact h3⟩
  refine va_calli (va_runV (C := y.cls) fx (hM H.size) ⟨callB_of n hts (goodAll hcv.1.1) rfl rfl rfl (hts _ hcv.1.2.1) (hts _ hw) hcv.1.2.2 u1, hts _ hcv.2.1, hts _ hcv.2.2⟩ ⟨mk_blind, hrc, mk_start F.2.2.2.2.2.2.2.1 F.2.2.2.2.2.2.2.2.2 hS hPc hDc hF⟩ rfl hlen hl.1 rfl (lv_room hroom) hdg u2) hS (fun q _ h => hF q h) hF (fun x u t H1 locs1 ht hvm hp hB hz hk hS1 => ?_)
  obtain ⟨rfl, rfl⟩ := hp
  obtain ⟨hP1, -, hD1⟩ := hB
  rw [ht] at hP1
  obtain ⟨wr, p1, p2⟩ := hcut
  obtain ⟨hP2, hD2⟩ := va_cut hP hD p1 p2 hk hF hP1 hD1
  exact kk H1 locs1 ls hP2 hD2 hS1 hl
theorem j_mmax (C : JK g R cc nL rt own post 𝒥) {index : Nat} {x y v : Int32} (hdg : decode cc pc = .ok (.invokestatic index, 3)) (hw : Cond.methodLink own index Lib.Math.max.name ∈ wsG) (hst : Cond.static Lib.Math.max.name ∈ wsG) (hin : Cond.initialized "java/lang/Math" ∈ wsG) (hcd : Cond.code Lib.Math.max.name Lib.Math.max.code 2 (some .int) ∈ wsG) (hf : 1 ≤ R.frames) (hlo : (rest.map fun v => v.category).sum + 13 ≤ R.locals) (hk : kc ≤ R.cells) (hsl : ks ≤ R.slots) (hv : (if x < y then y else x) = v) (kk : 𝒥 kc ks ws lc (.int v :: rest) (pc + 3)) : 𝒥 kc ks ws lc (.int y :: .int x :: rest) pc := by
  subst hv
  obtain ⟨p, e, s, m, args, below, meth, c, A, Q, F, -, rfl⟩ := C
  have hts := F.2.2.2.2.2.2.1
  exact fun H locs ls hP hD hS hl => va_mmax F.1 F.2.1 (F.2.2.1.trans hl.1.symm) F.2.2.2.2.2.1 (hts _ hw) (hts _ hst) (hts _ hin) (hts _ hcd) hf hlo hk hsl hdg (kk H locs ls hP hD hS hl)
theorem j_mmin (C : JK g R cc nL rt own post 𝒥) {index : Nat} {x y v : Int32} (hdg : decode cc pc = .ok (.invokestatic index, 3)) (hw : Cond.methodLink own index Lib.Math.min.name ∈ wsG) (hst : Cond.static Lib.Math.min.name ∈ wsG) (hin : Cond.initialized "java/lang/Math" ∈ wsG) (hcd : Cond.code Lib.Math.min.name Lib.Math.min.code 2 (some .int) ∈ wsG) (hf : 1 ≤ R.frames) (hlo : (rest.map fun v => v.category).sum + 13 ≤ R.locals) (hk : kc ≤ R.cells) (hsl : ks ≤ R.slots) (hv : (if y < x then y else x) = v) (kk : 𝒥 kc ks ws lc (.int v :: rest) (pc + 3)) : 𝒥 kc ks ws lc (.int y :: .int x :: rest) pc := by
  subst hv
  obtain ⟨p, e, s, m, args, below, meth, c, A, Q, F, -, rfl⟩ := C
  have hts := F.2.2.2.2.2.2.1
  exact fun H locs ls hP hD hS hl => va_mmin F.1 F.2.1 (F.2.2.1.trans hl.1.symm) F.2.2.2.2.2.1 (hts _ hw) (hts _ hst) (hts _ hin) (hts _ hcd) hf hlo hk hsl hdg (kk H locs ls hP hD hS hl)
end Rows3
abbrev rmK (f l : Nat) : Room := { frames := f, cells := 0, slots := 0, locals := l }
def fi (c : Int32) : Nat → Nat → Int32
  | 0, _ => -1
  | z + 1, i => if sgn i = c then Int32.ofNat i else fi c z (i + 1)
def can (c : Int32) : Int32 := if c < 0 then 0 else if 255 < c then 0 else 1
def sx (c : Int32) : Int32 := if can c = 0 then -1 else fi c.toInt8.toInt32 11 0
theorem c_Sc {g : GT} : MI g y_Sc prog_19_method_152_code 1 (some .byte) (rmK 0 0) [.ref (g_K g)] [] 0 [] := by
  refine MI.of (by decide) (Nat.le_of_ble_eq_true rfl) (fun 𝒥 C => ?_)
  change 𝒥 0 0 [] [(0, .ref (g_K g))] [] 0
  refine j_comp (pc := 0) C dSc_0 (tc_2 144 rfl rfl) ?_
  refine j_if_eq (pc := 3) C dSc_3 (tgt := 13) rfl (fun h => absurd h (by decide)) (fun _ => ?_)
  refine j_aload_n (pc := 6) C dSc_6 rfl 0 rfl ?_
  refine j_coder (pc := 7) C dSc_7 (tc_6 179 rfl rfl) ?_
  refine j_goto (pc := 10) C dSc_10 (tgt := 14) rfl ?_
  exact j_bret (pc := 14) C dSc_14 (by decide) ⟨rfl, rfl⟩ (Nat.le_of_ble_eq_true rfl) (Nat.le_of_ble_eq_true rfl)
theorem c_Sn {g : GT} : MI g y_Sn prog_19_method_54_code 1 (some .int) (rmK 1 20) [.ref (g_K g)] [] 11 [] := by
  refine MI.of (by decide) (Nat.le_of_ble_eq_true rfl) (fun 𝒥 C => ?_)
  change 𝒥 0 0 [] [(0, .ref (g_K g))] [] 0
  refine j_aload_n (pc := 0) C dSn_0 rfl 0 rfl ?_
  refine j_value (pc := 1) C dSn_1 (tc_6 180 rfl rfl) ?_
  refine j_blen (pc := 4) C dSn_4 ?_
  refine j_aload_n (pc := 5) C dSn_5 rfl 0 rfl ?_
  refine j_callKi (pc := 6) C (rest := [.int 11]) dSn_6 (c_Sc (g := g)) cv_Sc rfl (tc_2 150 rfl rfl) cut_none rfl rfl (Nat.le_of_ble_eq_true rfl) (kc2 := 0) (ks2 := 0) (by decide) ?_
  refine j_ishr (pc := 9) C dSn_9 ?_
  exact j_iret (pc := 10) C dSn_10 ⟨by decide, rfl⟩ (Nat.le_of_ble_eq_true rfl) (Nat.le_of_ble_eq_true rfl)
theorem c_Sl {g : GT} : MI g y_Sl prog_19_method_154_code 1 (some .boolean) (rmK 0 0) [.ref (g_K g)] [] 1 [] := by
  refine MI.of (by decide) (Nat.le_of_ble_eq_true rfl) (fun 𝒥 C => ?_)
  change 𝒥 0 0 [] [(0, .ref (g_K g))] [] 0
  refine j_comp (pc := 0) C dSl_0 (tc_2 144 rfl rfl) ?_
  refine j_if_eq (pc := 3) C dSl_3 (tgt := 17) rfl (fun h => absurd h (by decide)) (fun _ => ?_)
  refine j_aload_n (pc := 6) C dSl_6 rfl 0 rfl ?_
  refine j_coder (pc := 7) C dSl_7 (tc_6 179 rfl rfl) ?_
  refine j_if_ne (pc := 10) C dSl_10 (tgt := 17) rfl (fun h => absurd rfl h) (fun _ => ?_)
  refine j_iconst (pc := 13) C dSl_13 (v := 1) (by decide) ?_
  refine j_goto (pc := 14) C dSl_14 (tgt := 18) rfl ?_
  exact j_zret (pc := 18) C dSl_18 (by decide) ⟨rfl, rfl⟩ (Nat.le_of_ble_eq_true rfl) (Nat.le_of_ble_eq_true rfl)
theorem c_Lc {g : GT} {c : Int32} : MI g y_Lc prog_20_method_4_code 1 (some .boolean) (rmK 0 0) [.int c] [] (can c) [] := by
  refine MI.of (by decide) (Nat.le_of_ble_eq_true rfl) (fun 𝒥 C => ?_)
  change 𝒥 0 0 [] [(0, .int c)] [] 0
  refine j_iload_n (pc := 0) C dLc_0 rfl 0 rfl ?_
  refine j_if_lt (pc := 1) C dLc_1 (tgt := 15) rfl (fun h => ?_) (fun h => ?_)
  · refine j_iconst (pc := 15) C dLc_15 (v := 0) (by decide) ?_
    exact j_zret (pc := 16) C dLc_16 (by decide) ⟨by unfold can; rw [if_pos h], rfl⟩ (Nat.le_of_ble_eq_true rfl) (Nat.le_of_ble_eq_true rfl)
  · refine j_iload_n (pc := 4) C dLc_4 rfl 0 rfl ?_
    refine j_sipush (pc := 5) C dLc_5 (v := 255) (by decide) ?_
    refine j_icmp_gt (pc := 8) C dLc_8 (tgt := 15) rfl (fun h2 => ?_) (fun h2 => ?_)
    · refine j_iconst (pc := 15) C dLc_15 (v := 0) (by decide) ?_
      exact j_zret (pc := 16) C dLc_16 (by decide) ⟨by unfold can; rw [if_neg h, if_pos h2], rfl⟩ (Nat.le_of_ble_eq_true rfl) (Nat.le_of_ble_eq_true rfl)
    · refine j_iconst (pc := 11) C dLc_11 (v := 1) (by decide) ?_
      refine j_goto (pc := 12) C dLc_12 (tgt := 16) rfl ?_
      exact j_zret (pc := 16) C dLc_16 (by decide) ⟨by unfold can; rw [if_neg h, if_neg h2], rfl⟩ (Nat.le_of_ble_eq_true rfl) (Nat.le_of_ble_eq_true rfl)
theorem sg_in {i : Nat} (h : i < 11) : vp_in (Int32.ofNat i) 11 ∧ (Int32.ofNat i).toNatClampNeg = i ∧ ¬ (11 : Int32) ≤ Int32.ofNat i ∧ Int32.ofNat i + Int32.ofInt 1 = Int32.ofNat (i + 1) := by
  have hi : i = 0 ∨ i = 1 ∨ i = 2 ∨ i = 3 ∨ i = 4 ∨ i = 5 ∨ i = 6 ∨ i = 7 ∨ i = 8 ∨ i = 9 ∨ i = 10 := by omega
  rcases hi with rfl | rfl | rfl | rfl | rfl | rfl | rfl | rfl | rfl | rfl | rfl <;> exact ⟨inb_in (by decide), by decide, by decide, by decide⟩
theorem c_Lo {g : GT} {ch : Int32} : MI g y_Lo prog_20_method_23_code 6 (some .int) (rmK 0 0) [.ref (g_V g), .int ch, .int 0, .int 11] [] (fi ch.toInt8.toInt32 11 0) [] := by
  refine MI.of (by decide) (Nat.le_of_ble_eq_true rfl) (fun 𝒥 C => ?_)
  have loop : ∀ (z i : Nat), 11 - i = z → i ≤ 11 → fi ch.toInt8.toInt32 (11 - i) i = fi ch.toInt8.toInt32 11 0 → 𝒥 0 0 [] [(0, .ref (g_V g)), (1, .int ch), (2, .int 0), (3, .int 11), (4, .int ch.toInt8.toInt32), (5, .int (Int32.ofNat i))] [] 7 := by
    intro z
    induction z with
    | zero =>
      intro i h1 h2 h3
      have e : i = 11 := by omega
      subst e
      refine j_iload (pc := 7) C dLo_7 5 rfl ?_
      refine j_iload_n (pc := 9) C dLo_9 rfl 3 rfl ?_
      refine j_icmp_ge (pc := 10) C dLo_10 (tgt := 31) rfl (fun _ => ?_) (fun h => absurd (by decide) h)
      refine j_iconst (pc := 31) C dLo_31 (v := -1) (by decide) ?_
      exact j_iret (pc := 32) C dLo_32 ⟨by rw [← h3]; rfl, rfl⟩ (Nat.le_of_ble_eq_true rfl) (Nat.le_of_ble_eq_true rfl)
    | succ z ih =>
      intro i h1 h2 h3
      obtain ⟨g1, g2, g3, g4⟩ := sg_in (i := i) (by omega)
      refine j_iload (pc := 7) C dLo_7 5 rfl ?_
      refine j_iload_n (pc := 9) C dLo_9 rfl 3 rfl ?_
      refine j_icmp_ge (pc := 10) C dLo_10 (tgt := 31) rfl (fun h => absurd h g3) (fun _ => ?_)
      refine j_aload_n (pc := 13) C dLo_13 rfl 0 rfl ?_
      refine j_iload (pc := 14) C dLo_14 5 rfl ?_
      refine j_bld (pc := 16) C dLo_16 g1 ?_
      refine j_iload (pc := 17) C dLo_17 4 rfl ?_
      rw [h1] at h3
      have h3' : (if sgn i = ch.toInt8.toInt32 then Int32.ofNat i else fi ch.toInt8.toInt32 z (i + 1)) = fi ch.toInt8.toInt32 11 0 := h3
      refine j_icmp_ne (pc := 19) C dLo_19 (tgt := 25) rfl (fun h => ?_) (fun h => ?_)
      · rw [g2] at h
        rw [if_neg h] at h3'
        refine j_iinc (pc := 25) C dLo_25 5 rfl g4 [1, 2, 3, 4, 5, 0] (by decide) (lc' := [(0, .ref (g_V g)), (1, .int ch), (2, .int 0), (3, .int 11), (4, .int ch.toInt8.toInt32), (5, .int (Int32.ofNat (i + 1)))]) rfl ?_
        refine j_goto (pc := 28) C dLo_28 (tgt := 7) rfl ?_
        exact ih (i + 1) (by omega) (by omega) (by rw [show 11 - (i + 1) = z by omega]; exact h3')
      · rw [g2] at h
        rw [if_pos h] at h3'
        refine j_iload (pc := 22) C dLo_22 5 rfl ?_
        exact j_iret (pc := 24) C dLo_24 ⟨by rw [← h3'], rfl⟩ (Nat.le_of_ble_eq_true rfl) (Nat.le_of_ble_eq_true rfl)
  change 𝒥 0 0 [] [(0, .ref (g_V g)), (1, .int ch), (2, .int 0), (3, .int 11)] [] 0
  refine j_iload_n (pc := 0) C dLo_0 rfl 1 rfl ?_
  refine j_i2b (pc := 1) C dLo_1 rfl ?_
  refine j_istore (pc := 2) C dLo_2 [1, 2, 3, 4, 0] (by decide) (lc' := [(0, .ref (g_V g)), (1, .int ch), (2, .int 0), (3, .int 11), (4, .int ch.toInt8.toInt32)]) rfl ?_
  refine j_iload_n (pc := 4) C dLo_4 rfl 2 rfl ?_
  refine j_istore (pc := 5) C dLo_5 [1, 2, 3, 4, 5, 0] (by decide) (lc' := [(0, .ref (g_V g)), (1, .int ch), (2, .int 0), (3, .int 11), (4, .int ch.toInt8.toInt32), (5, .int (Int32.ofNat 0))]) rfl ?_
  exact loop 11 0 rfl (by omega) rfl
theorem c_Li {g : GT} {ch : Int32} : MI g y_Li prog_20_method_22_code 4 (some .int) (rmK 1 25) [.ref (g_V g), .int ch, .int 0, .int 11] [] (sx ch) [] := by
  refine MI.of (by decide) (Nat.le_of_ble_eq_true rfl) (fun 𝒥 C => ?_)
  change 𝒥 0 0 [] [(0, .ref (g_V g)), (1, .int ch), (2, .int 0), (3, .int 11)] [] 0
  refine j_iload_n (pc := 0) C dLi_0 rfl 1 rfl ?_
  refine j_callSi (pc := 1) C (rest := []) dLi_1 (c_Lc (g := g) (c := ch)) cv_Lc (tc_2 157 rfl rfl) cut_none rfl rfl (Nat.le_of_ble_eq_true rfl) (kc2 := 0) (ks2 := 0) (by decide) ?_
  refine j_if_ne (pc := 4) C dLi_4 (tgt := 9) rfl (fun h => ?_) (fun h => ?_)
  · refine j_iload_n (pc := 9) C dLi_9 rfl 2 rfl ?_
    refine j_iconst (pc := 10) C dLi_10 (v := 0) (by decide) ?_
    refine j_mmax (pc := 11) C (v := 0) dLi_11 (tc_2 160 rfl rfl) (tc_2 161 rfl rfl) (tc_1 19 rfl rfl) (tc_2 162 rfl rfl) (by decide) (by decide) (Nat.le_of_ble_eq_true rfl) (Nat.le_of_ble_eq_true rfl) (by decide) ?_
    refine j_istore_n (pc := 14) C dLi_14 rfl [1, 2, 0, 3] (by decide) (lc' := [(0, .ref (g_V g)), (1, .int ch), (2, .int 0), (3, .int 11)]) rfl ?_
    refine j_iload_n (pc := 15) C dLi_15 rfl 3 rfl ?_
    refine j_aload_n (pc := 16) C dLi_16 rfl 0 rfl ?_
    refine j_blen (pc := 17) C dLi_17 ?_
    refine j_mmin (pc := 18) C (v := 11) dLi_18 (tc_2 163 rfl rfl) (tc_2 164 rfl rfl) (tc_1 19 rfl rfl) (tc_2 165 rfl rfl) (by decide) (by decide) (Nat.le_of_ble_eq_true rfl) (Nat.le_of_ble_eq_true rfl) (by decide) ?_
    refine j_istore_n (pc := 21) C dLi_21 rfl [1, 2, 3, 0] (by decide) (lc' := [(0, .ref (g_V g)), (1, .int ch), (2, .int 0), (3, .int 11)]) rfl ?_
    refine j_iload_n (pc := 22) C dLi_22 rfl 2 rfl ?_
    refine j_iload_n (pc := 23) C dLi_23 rfl 3 rfl ?_
    refine j_icmp_lt (pc := 24) C dLi_24 (tgt := 29) rfl (fun _ => ?_) (fun h2 => absurd (by decide) h2)
    refine j_aload_n (pc := 29) C dLi_29 rfl 0 rfl ?_
    refine j_iload_n (pc := 30) C dLi_30 rfl 1 rfl ?_
    refine j_iload_n (pc := 31) C dLi_31 rfl 2 rfl ?_
    refine j_iload_n (pc := 32) C dLi_32 rfl 3 rfl ?_
    refine j_callSi (pc := 33) C (rest := []) dLi_33 (c_Lo (g := g) (ch := ch)) cv_Lo (tc_2 166 rfl rfl) cut_none rfl rfl (Nat.le_of_ble_eq_true rfl) (kc2 := 0) (ks2 := 0) (by decide) ?_
    exact j_iret (pc := 36) C dLi_36 ⟨by unfold sx; rw [if_neg h], rfl⟩ (Nat.le_of_ble_eq_true rfl) (Nat.le_of_ble_eq_true rfl)
  · refine j_iconst (pc := 7) C dLi_7 (v := -1) (by decide) ?_
    exact j_iret (pc := 8) C dLi_8 ⟨by unfold sx; rw [if_pos h], rfl⟩ (Nat.le_of_ble_eq_true rfl) (Nat.le_of_ble_eq_true rfl)
theorem c_S2 {g : GT} {ch : Int32} : MI g y_S2 prog_19_method_80_code 3 (some .int) (rmK 2 48) [.ref (g_K g), .int ch, .int 0] [] (sx ch) [] := by
  refine MI.of (by decide) (Nat.le_of_ble_eq_true rfl) (fun 𝒥 C => ?_)
  change 𝒥 0 0 [] [(0, .ref (g_K g)), (1, .int ch), (2, .int 0)] [] 0
  refine j_aload_n (pc := 0) C dS2_0 rfl 0 rfl ?_
  refine j_callKi (pc := 1) C (rest := []) dS2_1 (c_Sl (g := g)) cv_Sl rfl (tc_2 140 rfl rfl) cut_none rfl rfl (Nat.le_of_ble_eq_true rfl) (kc2 := 0) (ks2 := 0) (by decide) ?_
  refine j_if_eq (pc := 4) C dS2_4 (tgt := 23) rfl (fun h => absurd h (by decide)) (fun _ => ?_)
  refine j_aload_n (pc := 7) C dS2_7 rfl 0 rfl ?_
  refine j_value (pc := 8) C dS2_8 (tc_6 180 rfl rfl) ?_
  refine j_iload_n (pc := 11) C dS2_11 rfl 1 rfl ?_
  refine j_iload_n (pc := 12) C dS2_12 rfl 2 rfl ?_
  refine j_aload_n (pc := 13) C dS2_13 rfl 0 rfl ?_
  refine j_callKi (pc := 14) C (rest := [.int 0, .int ch, .ref (g_V g)]) dS2_14 (c_Sn (g := g)) cv_Sn rfl (tc_2 146 rfl rfl) cut_none rfl rfl (Nat.le_of_ble_eq_true rfl) (kc2 := 0) (ks2 := 0) (by decide) ?_
  refine j_callSi (pc := 17) C (rest := []) dS2_17 (c_Li (g := g) (ch := ch)) cv_Li (tc_2 154 rfl rfl) cut_none rfl rfl (Nat.le_of_ble_eq_true rfl) (kc2 := 0) (ks2 := 0) (by decide) ?_
  refine j_goto (pc := 20) C dS2_20 (tgt := 36) rfl ?_
  exact j_iret (pc := 36) C dS2_36 ⟨rfl, rfl⟩ (Nat.le_of_ble_eq_true rfl) (Nat.le_of_ble_eq_true rfl)
theorem c_S1 {g : GT} {ch : Int32} : MI g y_S1 prog_19_method_79_code 2 (some .int) (rmK 3 70) [.ref (g_K g), .int ch] [] (sx ch) [] := by
  refine MI.of (by decide) (Nat.le_of_ble_eq_true rfl) (fun 𝒥 C => ?_)
  change 𝒥 0 0 [] [(0, .ref (g_K g)), (1, .int ch)] [] 0
  refine j_aload_n (pc := 0) C dS1_0 rfl 0 rfl ?_
  refine j_iload_n (pc := 1) C dS1_1 rfl 1 rfl ?_
  refine j_iconst (pc := 2) C dS1_2 (v := 0) (by decide) ?_
  refine j_callKi (pc := 3) C (rest := []) dS1_3 (c_S2 (g := g) (ch := ch)) cv_S2 rfl (tc_2 136 rfl rfl) cut_none rfl rfl (Nat.le_of_ble_eq_true rfl) (kc2 := 0) (ks2 := 0) (by decide) ?_
  exact j_iret (pc := 6) C dS1_6 ⟨rfl, rfl⟩ (Nat.le_of_ble_eq_true rfl) (Nat.le_of_ble_eq_true rfl)
theorem sx_256 : ∀ n, n < 256 → sx (Int32.ofNat n) = sIdx (Int32.ofNat n) := by decide +kernel
theorem sx_idx (c : Int32) : sx c = sIdx c := by
  by_cases h1 : c < 0
  · have e : sx c = -1 := by
      unfold sx can
      rw [if_pos h1, if_pos rfl]
    rw [e]
    unfold sIdx
    rw [show ([43, 45, 42, 60, 61, 40, 41, 123, 125, 44, 59] : List Int32).findIdx? (fun x => x == c) = none from List.findIdx?_eq_none_iff.mpr (fun x hx => by
      have hx0 : ¬ x < 0 := by
        revert x
        decide
      rw [beq_eq_false_iff_ne]
      exact fun e => hx0 (e ▸ h1))]
  · by_cases h2 : 255 < c
    · have e : sx c = -1 := by
        unfold sx can
        rw [if_neg h1, if_pos h2, if_pos rfl]
      rw [e]
      unfold sIdx
      rw [show ([43, 45, 42, 60, 61, 40, 41, 123, 125, 44, 59] : List Int32).findIdx? (fun x => x == c) = none from List.findIdx?_eq_none_iff.mpr (fun x hx => by
        have hx0 : ¬ 255 < x := by
          revert x
          decide
        rw [beq_eq_false_iff_ne]
        exact fun e => hx0 (e ▸ h2))]
    · have z0 : (0 : Int32).toInt = 0 := by decide
      have z255 : (255 : Int32).toInt = 255 := by decide
      rw [Int32.lt_iff_toInt_lt, z0] at h1
      rw [Int32.lt_iff_toInt_lt, z255] at h2
      have hc : c = Int32.ofNat c.toInt.toNat := by
        apply Int32.toInt_inj.mp
        rw [Int32.toInt_ofNat_of_lt (by omega)]
        omega
      rw [hc]
      exact sx_256 _ (by omega)
theorem c_St {g : GT} {ch : Int32} : MI g y_S1 prog_19_method_79_code 2 (some .int) (rmK 3 70) [.ref (g_K g), .int ch] [] (sIdx ch) [] := by
  rw [← sx_idx]
  exact c_S1
