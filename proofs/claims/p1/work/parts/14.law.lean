def BLa_law_23 (L : Nat) (xs : Nat → Int32) (k23 : Int32 × DS × DS × DS × RS × OS → Option Int32) (x : Int32 × DS × DS × DS × RS × OS) : Option Int32 :=
(if ((Int32.ofNat L) - 4) < x.1 then
some 1
else
if inb x.1 L then
(if ((xs x.1.toNatClampNeg) &&& 15) = 0 then
if inb (x.1 + 1) L then
bindv (((xs (x.1 + 1).toNatClampNeg).toUInt32 % 65536).toInt32) fun v5 =>
(f_X_type v5 x.2.1 x.2.2.1 x.2.2.2.1).bind fun q6 =>
if inb (x.1 + 1) L then
bindv (((xs (x.1 + 1).toNatClampNeg).toUInt32 % 65536).toInt32) fun v8 =>
(f_Mo_type v8 x.2.2.2.2.1).bind fun q9 =>
(if q6.1 = q9.1 then
k23 (x.1 + 4, q6.2.1, q6.2.2.1, q6.2.2.2, q9.2, x.2.2.2.2.2)
else
some 0) else none else none
else
(if ((xs x.1.toNatClampNeg) &&& 15) = 1 then
if inb (x.1 + 1) L then
(f_X_word (xs (x.1 + 1).toNatClampNeg) x.2.1 x.2.2.1 x.2.2.2.1).bind fun q13 =>
if inb (x.1 + 1) L then
(f_Mo_word (xs (x.1 + 1).toNatClampNeg) x.2.2.2.2.1).bind fun q15 =>
(if q13.1 = q15.1 then
k23 (x.1 + 4, q13.2.1, q13.2.2.1, q13.2.2.2, q15.2, x.2.2.2.2.2)
else
some 0) else none else none
else
(if ((xs x.1.toNatClampNeg) &&& 15) = 2 then
if inb (x.1 + 1) L then
if inb (x.1 + 2) L then
bindv (((xs (x.1 + 2).toNatClampNeg).toUInt32 % 65536).toInt32) fun v20 =>
(f_La_insert (xs (x.1 + 1).toNatClampNeg) v20 x.2.1 x.2.2.1 x.2.2.2.1).bind fun q21 =>
if inb (x.1 + 1) L then
if inb (x.1 + 2) L then
bindv (((xs (x.1 + 2).toNatClampNeg).toUInt32 % 65536).toInt32) fun v24 =>
(f_Mo_insert (xs (x.1 + 1).toNatClampNeg) v24 x.2.2.2.2.1).bind fun q25 =>
(f_Mo_thrown q25).bind fun q26 =>
(if q26.1 = q21.1 then
k23 (x.1 + 4, q21.2.1, q21.2.2.1, q21.2.2.2, q26.2, x.2.2.2.2.2)
else
some 0) else none else none else none else none
else
(if ((xs x.1.toNatClampNeg) &&& 15) = 3 then
if inb (x.1 + 1) L then
if inb (x.1 + 2) L then
(f_La_remove (xs (x.1 + 1).toNatClampNeg) (xs (x.1 + 2).toNatClampNeg) x.2.1 x.2.2.1 x.2.2.2.1).bind fun q31 =>
if inb (x.1 + 1) L then
if inb (x.1 + 2) L then
(f_Mo_remove (xs (x.1 + 1).toNatClampNeg) (xs (x.1 + 2).toNatClampNeg) x.2.2.2.2.1).bind fun q34 =>
(f_Mo_thrown q34).bind fun q35 =>
(if q35.1 = q31.1 then
k23 (x.1 + 4, q31.2.1, q31.2.2.1, q31.2.2.2, q35.2, x.2.2.2.2.2)
else
some 0) else none else none else none else none
else
(if ((xs x.1.toNatClampNeg) &&& 15) = 4 then
(f_X_length x.2.1 x.2.2.1 x.2.2.2.1).bind fun q38 =>
(f_Mo_length x.2.2.2.2.1).bind fun q39 =>
(if q38.1 = q39.1 then
k23 (x.1 + 4, q38.2.1, q38.2.2.1, q38.2.2.2, q39.2, x.2.2.2.2.2)
else
some 0)
else
(if ((xs x.1.toNatClampNeg) &&& 15) = 5 then
if inb (x.1 + 1) L then
(f_La_letter (xs (x.1 + 1).toNatClampNeg) x.2.1 x.2.2.1 x.2.2.2.1 x.2.2.2.2.2).bind fun q43 =>
if inb (x.1 + 1) L then
(f_Mo_letter (xs (x.1 + 1).toNatClampNeg) x.2.2.2.2.1).bind fun q45 =>
(f_Mo_thrown q45.2).bind fun q46 =>
(if q46.1 = q43.1 then
(if q43.1 = 0 then
(if (lg_cmp (q43.2.2.2.2 0) q45.1.toInt64) = 0 then
k23 (x.1 + 4, q43.2.1, q43.2.2.1, q43.2.2.2.1, q46.2, q43.2.2.2.2)
else
some 0)
else
k23 (x.1 + 4, q43.2.1, q43.2.2.1, q43.2.2.2.1, q46.2, q43.2.2.2.2))
else
some 0) else none else none
else
(if ((xs x.1.toNatClampNeg) &&& 15) = 6 then
(f_X_tokens x.2.1 x.2.2.1 x.2.2.2.1).bind fun q52 =>
(f_Mo_tokens x.2.2.2.2.1).bind fun q53 =>
(if q52.1 = q53.1 then
k23 (x.1 + 4, q52.2.1, q52.2.2.1, q52.2.2.2, q53.2, x.2.2.2.2.2)
else
some 0)
else
(if ((xs x.1.toNatClampNeg) &&& 15) = 7 then
if inb (x.1 + 1) L then
if inb (x.1 + 2) L then
(f_La_token (xs (x.1 + 1).toNatClampNeg) (xs (x.1 + 2).toNatClampNeg) x.2.1 x.2.2.1 x.2.2.2.1 x.2.2.2.2.2).bind fun q58 =>
if inb (x.1 + 1) L then
if inb (x.1 + 2) L then
(f_Mo_token (xs (x.1 + 1).toNatClampNeg) (xs (x.1 + 2).toNatClampNeg) x.2.2.2.2.1).bind fun q61 =>
(f_Mo_thrown q61.2).bind fun q62 =>
(if q62.1 = q58.1 then
(if q58.1 = 0 then
(if (lg_cmp (q58.2.2.2.2 0) q61.1.toInt64) = 0 then
k23 (x.1 + 4, q58.2.1, q58.2.2.1, q58.2.2.2.1, q62.2, q58.2.2.2.2)
else
some 0)
else
k23 (x.1 + 4, q58.2.1, q58.2.2.1, q58.2.2.2.1, q62.2, q58.2.2.2.2))
else
some 0) else none else none else none else none
else
(if ((xs x.1.toNatClampNeg) &&& 15) = 8 then
(f_X_faults x.2.1 x.2.2.1 x.2.2.2.1).bind fun q68 =>
(f_Mo_faults x.2.2.2.2.1).bind fun q69 =>
(if q68.1 = q69.1 then
k23 (x.1 + 4, q68.2.1, q68.2.2.1, q68.2.2.2, q69.2, x.2.2.2.2.2)
else
some 0)
else
(if ((xs x.1.toNatClampNeg) &&& 15) = 9 then
if inb (x.1 + 1) L then
(f_La_fault (xs (x.1 + 1).toNatClampNeg) x.2.1 x.2.2.1 x.2.2.2.1 x.2.2.2.2.2).bind fun q73 =>
if inb (x.1 + 1) L then
(f_Mo_fault (xs (x.1 + 1).toNatClampNeg) x.2.2.2.2.1).bind fun q75 =>
(f_Mo_thrown q75.2).bind fun q76 =>
(if q76.1 = q73.1 then
(if q73.1 = 0 then
(if (lg_cmp (q73.2.2.2.2 0) q75.1.toInt64) = 0 then
k23 (x.1 + 4, q73.2.1, q73.2.2.1, q73.2.2.2.1, q76.2, q73.2.2.2.2)
else
some 0)
else
k23 (x.1 + 4, q73.2.1, q73.2.2.1, q73.2.2.2.1, q76.2, q73.2.2.2.2))
else
some 0) else none else none
else
(if ((xs x.1.toNatClampNeg) &&& 15) = 10 then
if inb (x.1 + 1) L then
if inb (x.1 + 2) L then
(f_La_reference (xs (x.1 + 1).toNatClampNeg) (xs (x.1 + 2).toNatClampNeg) x.2.1 x.2.2.1 x.2.2.2.1 x.2.2.2.2.2).bind fun q84 =>
if inb (x.1 + 1) L then
if inb (x.1 + 2) L then
(f_Mo_reference (xs (x.1 + 1).toNatClampNeg) (xs (x.1 + 2).toNatClampNeg) x.2.2.2.2.1).bind fun q87 =>
(f_Mo_thrown q87.2).bind fun q88 =>
(if q88.1 = q84.1 then
(if q84.1 = 0 then
(if (lg_cmp (q84.2.2.2.2 0) q87.1.toInt64) = 0 then
k23 (x.1 + 4, q84.2.1, q84.2.2.1, q84.2.2.2.1, q88.2, q84.2.2.2.2)
else
some 0)
else
k23 (x.1 + 4, q84.2.1, q84.2.2.1, q84.2.2.2.1, q88.2, q84.2.2.2.2))
else
some 0) else none else none else none else none
else
(if ((xs x.1.toNatClampNeg) &&& 15) = 11 then
if inb (x.1 + 1) L then
if inb (x.1 + 2) L then
bindv (((xs (x.1 + 2).toNatClampNeg).toInt64) <<< ((32 : Int32).toInt64 &&& 63)) fun v96 =>
if inb (x.1 + 3) L then
bindv (((xs (x.1 + 3).toNatClampNeg).toInt64) &&& 4294967295) fun v98 =>
(f_La_rename (xs (x.1 + 1).toNatClampNeg) (v96 ||| v98) x.2.1 x.2.2.1 x.2.2.2.1 x.2.2.2.2.2).bind fun q99 =>
if inb (x.1 + 1) L then
if inb (x.1 + 2) L then
bindv (((xs (x.1 + 2).toNatClampNeg).toInt64) <<< ((32 : Int32).toInt64 &&& 63)) fun v102 =>
if inb (x.1 + 3) L then
bindv (((xs (x.1 + 3).toNatClampNeg).toInt64) &&& 4294967295) fun v104 =>
(f_Mo_rename (xs (x.1 + 1).toNatClampNeg) (v102 ||| v104) x.2.2.2.2.1).bind fun q105 =>
(f_Mo_thrown q105.2).bind fun q106 =>
(if q106.1 = q99.1 then
(if q99.1 = 0 then
(if (lg_cmp (q99.2.2.2.2 0) q105.1.toInt64) = 0 then
k23 (x.1 + 4, q99.2.1, q99.2.2.1, q99.2.2.2.1, q106.2, q99.2.2.2.2)
else
some 0)
else
k23 (x.1 + 4, q99.2.1, q99.2.2.1, q99.2.2.2.1, q106.2, q99.2.2.2.2))
else
some 0) else none else none else none else none else none else none
else
(if ((xs x.1.toNatClampNeg) &&& 15) = 12 then
if inb (x.1 + 1) L then
(f_La_inline (xs (x.1 + 1).toNatClampNeg) x.2.1 x.2.2.1 x.2.2.2.1 x.2.2.2.2.2).bind fun q113 =>
if inb (x.1 + 1) L then
(f_Mo_inline (xs (x.1 + 1).toNatClampNeg) x.2.2.2.2.1).bind fun q115 =>
(f_Mo_thrown q115.2).bind fun q116 =>
(if q116.1 = q113.1 then
(if q113.1 = 0 then
(if (lg_cmp (q113.2.2.2.2 0) q115.1.toInt64) = 0 then
k23 (x.1 + 4, q113.2.1, q113.2.2.1, q113.2.2.2.1, q116.2, q113.2.2.2.2)
else
some 0)
else
k23 (x.1 + 4, q113.2.1, q113.2.2.1, q113.2.2.2.1, q116.2, q113.2.2.2.2))
else
some 0) else none else none
else
(if ((xs x.1.toNatClampNeg) &&& 15) = 13 then
if inb (x.1 + 1) L then
(f_La_run (xs (x.1 + 1).toNatClampNeg) x.2.1 x.2.2.1 x.2.2.2.1 x.2.2.2.2.2).bind fun q123 =>
if inb (x.1 + 1) L then
(f_Mo_run (xs (x.1 + 1).toNatClampNeg) x.2.2.2.2.1).bind fun q125 =>
(f_Mo_thrown q125.2).bind fun q126 =>
(if q126.1 = q123.1 then
(if q123.1 = 0 then
(if (lg_cmp (q123.2.2.2.2 0) q125.1.toInt64) = 0 then
k23 (x.1 + 4, q123.2.1, q123.2.2.1, q123.2.2.2.1, q126.2, q123.2.2.2.2)
else
some 0)
else
k23 (x.1 + 4, q123.2.1, q123.2.2.1, q123.2.2.2.1, q126.2, q123.2.2.2.2))
else
some 0) else none else none
else
(if ((xs x.1.toNatClampNeg) &&& 15) = 14 then
if inb (x.1 + 1) L then
(f_La_output (xs (x.1 + 1).toNatClampNeg) x.2.1 x.2.2.1 x.2.2.2.1 x.2.2.2.2.2).bind fun q133 =>
if inb (x.1 + 1) L then
(f_Mo_output (xs (x.1 + 1).toNatClampNeg) x.2.2.2.2.1).bind fun q135 =>
(f_Mo_thrown q135.2).bind fun q136 =>
(if q136.1 = q133.1 then
(if q133.1 = 0 then
(if (lg_cmp (q133.2.2.2.2 0) q135.1.toInt64) = 0 then
k23 (x.1 + 4, q133.2.1, q133.2.2.1, q133.2.2.2.1, q136.2, q133.2.2.2.2)
else
some 0)
else
k23 (x.1 + 4, q133.2.1, q133.2.2.1, q133.2.2.2.1, q136.2, q133.2.2.2.2))
else
some 0) else none else none
else
k23 (x.1 + 4, x.2.1, x.2.2.1, x.2.2.2.1, x.2.2.2.2.1, x.2.2.2.2.2)))))))))))))))) else none)
theorem law_inc {i : Int32} {L j : Nat} (hL : L ≤ 2048) (hj : i.toInt = 4 * j) (h : ¬ Int32.ofNat L - 4 < i) : j + 1 ≤ 512 ∧ (i + 4).toInt = 4 * ((j + 1 : Nat) : Int) := by
  have e1 : (Int32.ofNat L).toInt = L := Int32.toInt_ofNat_of_lt (by omega)
  have e4 : (4 : Int32).toInt = 4 := by decide
  have e2 : (Int32.ofNat L - 4).toInt = (L : Int) - 4 := by
    rw [Int32.toInt_sub, e1, e4, Int.bmod_def]
    split <;> omega
  rw [Int32.lt_iff_toInt_lt, e2, hj] at h
  have hk : j + 1 ≤ 512 := by omega
  refine ⟨hk, ?_⟩
  rw [Int32.toInt_add, e4, hj, Int.bmod_def]
  split <;> omega
theorem swq_pos {r : Int32} {a b : va_W} (h : r = 0) : swq r a b = a := if_pos h
theorem swq_neg {r : Int32} {a b : va_W} (h : ¬ r = 0) : swq r a b = b := if_neg h
set_option maxHeartbeats 8000000 in
set_option maxRecDepth 100000 in
theorem law_loop {g : GT} {ax am ar ao : Nat → Nat} {bs L : Nat} {xs : Nat → Int32} {𝒥 : JT} (hL : L ≤ 2048) (CL : JL g room_1 b_La_law 7 (some .boolean) "ProgramDeskLaw" bs L xs 𝒥) (hend : ∀ kc ks ws lc, kc ≤ 616 → ks ≤ 22413 → 𝒥 kc ks ws lc [.int 1] 824) : ∀ (n : Nat) (x : Int32 × DS × DS × DS × RS × OS), lpN (BLa_law_23 L xs) n x = some 1 → ∀ (j : Nat) (ad bd : Nat → Nat), j ≤ 512 → x.1.toInt = 4 * (j : Int) → 𝒥 (104 + j) (19341 + 6 * j) (wX g ax am ad bd ++ (wM g am x.2.1.1 x.2.1.2 ++ (wD g ad x.2.2.1.1 x.2.2.1.2 ++ (wD g bd x.2.2.2.1.1 x.2.2.2.1.2 ++ (wR g ar x.2.2.2.2.1.1 x.2.2.2.2.1.2.1 x.2.2.2.2.1.2.2 ++ wO g ao x.2.2.2.2.2))))) [(0, .ref bs), (1, .ref (ax 0)), (2, .ref (ar 0)), (3, .ref (ao 0)), (4, .int x.1)] [] 23 := by
  have C := CL.K
  refine lp_ind (fun k23 k23_ih x hf j ad bd hj5 hj => ?_)
  unfold BLa_law_23 at hf
  refine j_iload (pc := 23) C d_La_law_23 4 rfl ?_
  refine j_aload_n (pc := 25) C d_La_law_25 rfl 0 rfl ?_
  refine j_slen (pc := 26) CL d_La_law_26 ?_
  refine j_iconst (pc := 27) C d_La_law_27 ck_4 ?_
  refine j_isub (pc := 28) C d_La_law_28 ?_
  refine j_icmp_gt (pc := 29) C d_La_law_29 (tgt := 823) rfl (fun h1 => ?_) (fun h1 => ?_)
  · rw [if_pos h1] at hf
    refine j_iconst (pc := 823) C d_La_law_823 ck_1 ?_
    exact hend _ _ _ _ (by omega) (by omega)
  · rw [if_neg h1] at hf
    have hi := law_inc hL hj h1
    refine j_aload_n (pc := 32) C d_La_law_32 rfl 0 rfl ?_
    refine j_iload (pc := 33) C d_La_law_33 4 rfl ?_
    obtain ⟨b2, hf⟩ := og hf
    refine j_sld (pc := 35) CL d_La_law_35 (inb_in b2) ?_
    refine j_bipush (pc := 36) C d_La_law_36 cb_15 ?_
    refine j_iand (pc := 38) C d_La_law_38 ?_
    refine j_case (pc := 39) C d_La_law_39 (z := 0) (off := 73) (tgt := 112) (by decide) rfl (fun h3 => ?_) (fun h3 => ?_)
    · rw [if_pos h3] at hf
      refine j_aload_n (pc := 112) C d_La_law_112 rfl 1 rfl ?_
      refine j_aload_n (pc := 113) C d_La_law_113 rfl 0 rfl ?_
      refine j_iload (pc := 114) C d_La_law_114 4 rfl ?_
      refine j_iconst (pc := 116) C d_La_law_116 ck_1 ?_
      refine j_iadd (pc := 117) C d_La_law_117 ?_
      obtain ⟨b4, hf⟩ := og hf
      refine j_sld (pc := 118) CL d_La_law_118 (inb_in b4) ?_
      refine j_i2c (pc := 119) C d_La_law_119 rfl ?_
      refine j_topi C (fun v5 ev5 => ?_)
      replace hf := ov ev5 hf
      obtain ⟨q6, eq6, hf⟩ := ob hf
      refine j_callVi (pc := 120) C (rest := []) (ws' := wX g ax am ad bd ++ (wM g am q6.2.1.1 q6.2.1.2 ++ (wD g ad q6.2.2.1.1 q6.2.2.1.2 ++ (wD g bd q6.2.2.2.1 q6.2.2.2.2 ++ (wR g ar x.2.2.2.2.1.1 x.2.2.2.2.1.2.1 x.2.2.2.2.1.2.2 ++ wO g ao x.2.2.2.2.2))))) d_La_law_120 (c_X_type (g := g) (ax := ax) (am := am) (ad := ad) (bd := bd) eq6) cv_X_type tw327 0 rfl rfl (cut_blk [wX g ax am ad bd, wM g am x.2.1.1 x.2.1.2, wD g ad x.2.2.1.1 x.2.2.1.2, wD g bd x.2.2.2.1.1 x.2.2.2.1.2, wR g ar x.2.2.2.2.1.1 x.2.2.2.2.1.2.1 x.2.2.2.2.1.2.2, wO g ao x.2.2.2.2.2] [wX g ax am ad bd, wM g am q6.2.1.1 q6.2.1.2, wD g ad q6.2.2.1.1 q6.2.2.1.2, wD g bd q6.2.2.2.1 q6.2.2.2.2, wR g ar x.2.2.2.2.1.1 x.2.2.2.2.1.2.1 x.2.2.2.2.1.2.2, wO g ao x.2.2.2.2.2] [4, 5] [0, 1, 2, 3] rfl rfl rfl rfl rfl rfl rfl) rfl rfl (Nat.le_of_ble_eq_true rfl) (kc2 := 104 + j) (ks2 := 19341 + 6 * j) (by refine ⟨⟨by decide, by decide⟩, ⟨?_, ?_⟩, ?_, ?_⟩ <;> (try dsimp only [room_1]) <;> omega) ?_
      refine j_aload_n (pc := 123) C d_La_law_123 rfl 2 rfl ?_
      refine j_aload_n (pc := 124) C d_La_law_124 rfl 0 rfl ?_
      refine j_iload (pc := 125) C d_La_law_125 4 rfl ?_
      refine j_iconst (pc := 127) C d_La_law_127 ck_1 ?_
      refine j_iadd (pc := 128) C d_La_law_128 ?_
      obtain ⟨b7, hf⟩ := og hf
      refine j_sld (pc := 129) CL d_La_law_129 (inb_in b7) ?_
      refine j_i2c (pc := 130) C d_La_law_130 rfl ?_
      refine j_topi C (fun v8 ev8 => ?_)
      replace hf := ov ev8 hf
      obtain ⟨q9, eq9, hf⟩ := ob hf
      refine j_callVi (pc := 131) C (rest := [.int q6.1]) (ws' := wX g ax am ad bd ++ (wM g am q6.2.1.1 q6.2.1.2 ++ (wD g ad q6.2.2.1.1 q6.2.2.1.2 ++ (wD g bd q6.2.2.2.1 q6.2.2.2.2 ++ (wR g ar q9.2.1 q9.2.2.1 q9.2.2.2 ++ wO g ao x.2.2.2.2.2))))) d_La_law_131 (c_Mo_type (g := g) (ar := ar) eq9) cv_Mo_type tw1111 66 rfl rfl (cut_blk [wX g ax am ad bd, wM g am q6.2.1.1 q6.2.1.2, wD g ad q6.2.2.1.1 q6.2.2.1.2, wD g bd q6.2.2.2.1 q6.2.2.2.2, wR g ar x.2.2.2.2.1.1 x.2.2.2.2.1.2.1 x.2.2.2.2.1.2.2, wO g ao x.2.2.2.2.2] [wX g ax am ad bd, wM g am q6.2.1.1 q6.2.1.2, wD g ad q6.2.2.1.1 q6.2.2.1.2, wD g bd q6.2.2.2.1 q6.2.2.2.2, wR g ar q9.2.1 q9.2.2.1 q9.2.2.2, wO g ao x.2.2.2.2.2] [0, 1, 2, 3, 5] [4] rfl rfl rfl rfl rfl rfl rfl) rfl rfl (Nat.le_of_ble_eq_true rfl) (kc2 := 104 + j) (ks2 := 19341 + 6 * j) (by refine ⟨⟨by decide, by decide⟩, ⟨?_, ?_⟩, ?_, ?_⟩ <;> (try dsimp only [room_1]) <;> omega) ?_
      refine j_icmp_eq (pc := 134) C d_La_law_134 (tgt := 817) rfl (fun h10 => ?_) (fun h10 => ?_)
      · rw [if_pos h10] at hf
        refine j_iinc (pc := 817) C d_La_law_817 4 rfl (v := x.1 + 4) (iv ci_4) [1, 2, 3, 4, 0] (by decide) (lc' := [(0, .ref bs), (1, .ref (ax 0)), (2, .ref (ar 0)), (3, .ref (ao 0)), (4, .int (x.1 + 4))]) rfl ?_
        refine j_goto (pc := 820) C d_La_law_820 (tgt := 23) rfl ?_
        exact j_widen C (by omega) (by omega) (k23_ih (x.1 + 4, q6.2.1, q6.2.2.1, q6.2.2.2, q9.2, x.2.2.2.2.2) hf (j + 1) ad bd hi.1 hi.2)
      · rw [if_neg h10] at hf
        refine j_iconst (pc := 137) C d_La_law_137 ck_0 ?_
        exact absurd hf (by decide)
    rw [if_neg h3] at hf
    refine j_case (pc := 39) C d_La_law_39 (z := 1) (off := 100) (tgt := 139) (by decide) rfl (fun h11 => ?_) (fun h11 => ?_)
    · rw [if_pos h11] at hf
      refine j_aload_n (pc := 139) C d_La_law_139 rfl 1 rfl ?_
      refine j_aload_n (pc := 140) C d_La_law_140 rfl 0 rfl ?_
      refine j_iload (pc := 141) C d_La_law_141 4 rfl ?_
      refine j_iconst (pc := 143) C d_La_law_143 ck_1 ?_
      refine j_iadd (pc := 144) C d_La_law_144 ?_
      obtain ⟨b12, hf⟩ := og hf
      refine j_sld (pc := 145) CL d_La_law_145 (inb_in b12) ?_
      obtain ⟨q13, eq13, hf⟩ := ob hf
      refine j_callVi (pc := 146) C (rest := []) (ws' := wX g ax am ad bd ++ (wM g am q13.2.1.1 q13.2.1.2 ++ (wD g ad q13.2.2.1.1 q13.2.2.1.2 ++ (wD g bd q13.2.2.2.1 q13.2.2.2.2 ++ (wR g ar x.2.2.2.2.1.1 x.2.2.2.2.1.2.1 x.2.2.2.2.1.2.2 ++ wO g ao x.2.2.2.2.2))))) d_La_law_146 (c_X_word (g := g) (ax := ax) (am := am) (ad := ad) (bd := bd) eq13) cv_X_word tw338 0 rfl rfl (cut_blk [wX g ax am ad bd, wM g am x.2.1.1 x.2.1.2, wD g ad x.2.2.1.1 x.2.2.1.2, wD g bd x.2.2.2.1.1 x.2.2.2.1.2, wR g ar x.2.2.2.2.1.1 x.2.2.2.2.1.2.1 x.2.2.2.2.1.2.2, wO g ao x.2.2.2.2.2] [wX g ax am ad bd, wM g am q13.2.1.1 q13.2.1.2, wD g ad q13.2.2.1.1 q13.2.2.1.2, wD g bd q13.2.2.2.1 q13.2.2.2.2, wR g ar x.2.2.2.2.1.1 x.2.2.2.2.1.2.1 x.2.2.2.2.1.2.2, wO g ao x.2.2.2.2.2] [4, 5] [0, 1, 2, 3] rfl rfl rfl rfl rfl rfl rfl) rfl rfl (Nat.le_of_ble_eq_true rfl) (kc2 := 104 + j) (ks2 := 19341 + 6 * j) (by refine ⟨⟨by decide, by decide⟩, ⟨?_, ?_⟩, ?_, ?_⟩ <;> (try dsimp only [room_1]) <;> omega) ?_
      refine j_aload_n (pc := 149) C d_La_law_149 rfl 2 rfl ?_
      refine j_aload_n (pc := 150) C d_La_law_150 rfl 0 rfl ?_
      refine j_iload (pc := 151) C d_La_law_151 4 rfl ?_
      refine j_iconst (pc := 153) C d_La_law_153 ck_1 ?_
      refine j_iadd (pc := 154) C d_La_law_154 ?_
      obtain ⟨b14, hf⟩ := og hf
      refine j_sld (pc := 155) CL d_La_law_155 (inb_in b14) ?_
      obtain ⟨q15, eq15, hf⟩ := ob hf
      refine j_callVi (pc := 156) C (rest := [.int q13.1]) (ws' := wX g ax am ad bd ++ (wM g am q13.2.1.1 q13.2.1.2 ++ (wD g ad q13.2.2.1.1 q13.2.2.1.2 ++ (wD g bd q13.2.2.2.1 q13.2.2.2.2 ++ (wR g ar q15.2.1 q15.2.2.1 q15.2.2.2 ++ wO g ao x.2.2.2.2.2))))) d_La_law_156 (c_Mo_word (g := g) (ar := ar) eq15) cv_Mo_word tw1118 66 rfl rfl (cut_blk [wX g ax am ad bd, wM g am q13.2.1.1 q13.2.1.2, wD g ad q13.2.2.1.1 q13.2.2.1.2, wD g bd q13.2.2.2.1 q13.2.2.2.2, wR g ar x.2.2.2.2.1.1 x.2.2.2.2.1.2.1 x.2.2.2.2.1.2.2, wO g ao x.2.2.2.2.2] [wX g ax am ad bd, wM g am q13.2.1.1 q13.2.1.2, wD g ad q13.2.2.1.1 q13.2.2.1.2, wD g bd q13.2.2.2.1 q13.2.2.2.2, wR g ar q15.2.1 q15.2.2.1 q15.2.2.2, wO g ao x.2.2.2.2.2] [0, 1, 2, 3, 5] [4] rfl rfl rfl rfl rfl rfl rfl) rfl rfl (Nat.le_of_ble_eq_true rfl) (kc2 := 104 + j) (ks2 := 19341 + 6 * j) (by refine ⟨⟨by decide, by decide⟩, ⟨?_, ?_⟩, ?_, ?_⟩ <;> (try dsimp only [room_1]) <;> omega) ?_
      refine j_icmp_eq (pc := 159) C d_La_law_159 (tgt := 817) rfl (fun h16 => ?_) (fun h16 => ?_)
      · rw [if_pos h16] at hf
        refine j_iinc (pc := 817) C d_La_law_817 4 rfl (v := x.1 + 4) (iv ci_4) [1, 2, 3, 4, 0] (by decide) (lc' := [(0, .ref bs), (1, .ref (ax 0)), (2, .ref (ar 0)), (3, .ref (ao 0)), (4, .int (x.1 + 4))]) rfl ?_
        refine j_goto (pc := 820) C d_La_law_820 (tgt := 23) rfl ?_
        exact j_widen C (by omega) (by omega) (k23_ih (x.1 + 4, q13.2.1, q13.2.2.1, q13.2.2.2, q15.2, x.2.2.2.2.2) hf (j + 1) ad bd hi.1 hi.2)
      · rw [if_neg h16] at hf
        refine j_iconst (pc := 162) C d_La_law_162 ck_0 ?_
        exact absurd hf (by decide)
    rw [if_neg h11] at hf
    refine j_case (pc := 39) C d_La_law_39 (z := 2) (off := 125) (tgt := 164) (by decide) rfl (fun h17 => ?_) (fun h17 => ?_)
    · rw [if_pos h17] at hf
      refine j_aload_n (pc := 164) C d_La_law_164 rfl 1 rfl ?_
      refine j_aload_n (pc := 165) C d_La_law_165 rfl 0 rfl ?_
      refine j_iload (pc := 166) C d_La_law_166 4 rfl ?_
      refine j_iconst (pc := 168) C d_La_law_168 ck_1 ?_
      refine j_iadd (pc := 169) C d_La_law_169 ?_
      obtain ⟨b18, hf⟩ := og hf
      refine j_sld (pc := 170) CL d_La_law_170 (inb_in b18) ?_
      refine j_aload_n (pc := 171) C d_La_law_171 rfl 0 rfl ?_
      refine j_iload (pc := 172) C d_La_law_172 4 rfl ?_
      refine j_iconst (pc := 174) C d_La_law_174 ck_2 ?_
      refine j_iadd (pc := 175) C d_La_law_175 ?_
      obtain ⟨b19, hf⟩ := og hf
      refine j_sld (pc := 176) CL d_La_law_176 (inb_in b19) ?_
      refine j_i2c (pc := 177) C d_La_law_177 rfl ?_
      refine j_topi C (fun v20 ev20 => ?_)
      replace hf := ov ev20 hf
      obtain ⟨q21, eq21, hf⟩ := ob hf
      refine j_callH (pc := 178) C (n := 3) (rest := []) (ws' := wX g ax am ad bd ++ (wM g am q21.2.1.1 q21.2.1.2 ++ (wD g ad q21.2.2.1.1 q21.2.2.1.2 ++ (wD g bd q21.2.2.2.1 q21.2.2.2.2 ++ (wR g ar x.2.2.2.2.1.1 x.2.2.2.2.1.2.1 x.2.2.2.2.1.2.2 ++ wO g ao x.2.2.2.2.2))))) d_La_law_178 (c_La_insert (g := g) (ax := ax) (am := am) (ad := ad) (bd := bd) eq21) cw_La_insert cv_La_insert.1 cv_La_insert.2 (by decide +kernel) tw604 (cut_blk [wX g ax am ad bd, wM g am x.2.1.1 x.2.1.2, wD g ad x.2.2.1.1 x.2.2.1.2, wD g bd x.2.2.2.1.1 x.2.2.2.1.2, wR g ar x.2.2.2.2.1.1 x.2.2.2.2.1.2.1 x.2.2.2.2.1.2.2, wO g ao x.2.2.2.2.2] [wX g ax am ad bd, wM g am q21.2.1.1 q21.2.1.2, wD g ad q21.2.2.1.1 q21.2.2.1.2, wD g bd q21.2.2.2.1 q21.2.2.2.2, wR g ar x.2.2.2.2.1.1 x.2.2.2.2.1.2.1 x.2.2.2.2.1.2.2, wO g ao x.2.2.2.2.2] [4, 5] [0, 1, 2, 3] rfl rfl rfl rfl rfl rfl rfl) rfl rfl (Nat.le_of_ble_eq_true rfl) (kc2 := 104 + j + 1) (ks2 := 19341 + 6 * j + 6) (by refine ⟨⟨by decide, by decide⟩, ⟨?_, ?_⟩, ?_, ?_⟩ <;> (try dsimp only [room_1]) <;> omega) ?_
      refine j_istore (pc := 181) C d_La_law_181 [1, 2, 3, 4, 5, 0] (by decide) (lc' := [(0, .ref bs), (1, .ref (ax 0)), (2, .ref (ar 0)), (3, .ref (ao 0)), (4, .int x.1), (5, .int q21.1)]) rfl ?_
      refine j_aload_n (pc := 183) C d_La_law_183 rfl 2 rfl ?_
      refine j_aload_n (pc := 184) C d_La_law_184 rfl 0 rfl ?_
      refine j_iload (pc := 185) C d_La_law_185 4 rfl ?_
      refine j_iconst (pc := 187) C d_La_law_187 ck_1 ?_
      refine j_iadd (pc := 188) C d_La_law_188 ?_
      obtain ⟨b22, hf⟩ := og hf
      refine j_sld (pc := 189) CL d_La_law_189 (inb_in b22) ?_
      refine j_aload_n (pc := 190) C d_La_law_190 rfl 0 rfl ?_
      refine j_iload (pc := 191) C d_La_law_191 4 rfl ?_
      refine j_iconst (pc := 193) C d_La_law_193 ck_2 ?_
      refine j_iadd (pc := 194) C d_La_law_194 ?_
      obtain ⟨b23, hf⟩ := og hf
      refine j_sld (pc := 195) CL d_La_law_195 (inb_in b23) ?_
      refine j_i2c (pc := 196) C d_La_law_196 rfl ?_
      refine j_topi C (fun v24 ev24 => ?_)
      replace hf := ov ev24 hf
      obtain ⟨q25, eq25, hf⟩ := ob hf
      refine j_callVv (pc := 197) C (rest := []) (ws' := wX g ax am ad bd ++ (wM g am q21.2.1.1 q21.2.1.2 ++ (wD g ad q21.2.2.1.1 q21.2.2.1.2 ++ (wD g bd q21.2.2.2.1 q21.2.2.2.2 ++ (wR g ar q25.1 q25.2.1 q25.2.2 ++ wO g ao x.2.2.2.2.2))))) d_La_law_197 (c_Mo_insert (g := g) (ar := ar) eq25) cv_Mo_insert tw1127 66 rfl rfl (cut_blk [wX g ax am ad bd, wM g am q21.2.1.1 q21.2.1.2, wD g ad q21.2.2.1.1 q21.2.2.1.2, wD g bd q21.2.2.2.1 q21.2.2.2.2, wR g ar x.2.2.2.2.1.1 x.2.2.2.2.1.2.1 x.2.2.2.2.1.2.2, wO g ao x.2.2.2.2.2] [wX g ax am ad bd, wM g am q21.2.1.1 q21.2.1.2, wD g ad q21.2.2.1.1 q21.2.2.1.2, wD g bd q21.2.2.2.1 q21.2.2.2.2, wR g ar q25.1 q25.2.1 q25.2.2, wO g ao x.2.2.2.2.2] [0, 1, 2, 3, 5] [4] rfl rfl rfl rfl rfl rfl rfl) rfl rfl (Nat.le_of_ble_eq_true rfl) (kc2 := 104 + j + 1) (ks2 := 19341 + 6 * j + 6) (by refine ⟨⟨by decide, by decide⟩, ⟨?_, ?_⟩, ?_, ?_⟩ <;> (try dsimp only [room_1]) <;> omega) ?_
      refine j_aload_n (pc := 200) C d_La_law_200 rfl 2 rfl ?_
      obtain ⟨q26, eq26, hf⟩ := ob hf
      refine j_callVi (pc := 201) C (rest := []) (ws' := wX g ax am ad bd ++ (wM g am q21.2.1.1 q21.2.1.2 ++ (wD g ad q21.2.2.1.1 q21.2.2.1.2 ++ (wD g bd q21.2.2.2.1 q21.2.2.2.2 ++ (wR g ar q26.2.1 q26.2.2.1 q26.2.2.2 ++ wO g ao x.2.2.2.2.2))))) d_La_law_201 (c_Mo_thrown (g := g) (ar := ar) eq26) cv_Mo_thrown tw1107 66 rfl rfl (cut_blk [wX g ax am ad bd, wM g am q21.2.1.1 q21.2.1.2, wD g ad q21.2.2.1.1 q21.2.2.1.2, wD g bd q21.2.2.2.1 q21.2.2.2.2, wR g ar q25.1 q25.2.1 q25.2.2, wO g ao x.2.2.2.2.2] [wX g ax am ad bd, wM g am q21.2.1.1 q21.2.1.2, wD g ad q21.2.2.1.1 q21.2.2.1.2, wD g bd q21.2.2.2.1 q21.2.2.2.2, wR g ar q26.2.1 q26.2.2.1 q26.2.2.2, wO g ao x.2.2.2.2.2] [0, 1, 2, 3, 5] [4] rfl rfl rfl rfl rfl rfl rfl) rfl rfl (Nat.le_of_ble_eq_true rfl) (kc2 := 104 + j + 1) (ks2 := 19341 + 6 * j + 6) (by refine ⟨⟨by decide, by decide⟩, ⟨?_, ?_⟩, ?_, ?_⟩ <;> (try dsimp only [room_1]) <;> omega) ?_
      refine j_iload (pc := 204) C d_La_law_204 5 rfl ?_
      refine j_icmp_eq (pc := 206) C d_La_law_206 (tgt := 211) rfl (fun h27 => ?_) (fun h27 => ?_)
      · rw [if_pos h27] at hf
        refine j_goto (pc := 211) C d_La_law_211 (tgt := 817) rfl ?_
        refine j_iinc (pc := 817) C d_La_law_817 4 rfl (v := x.1 + 4) (iv ci_4) [1, 2, 3, 4, 0, 5] (by decide) (lc' := [(0, .ref bs), (1, .ref (ax 0)), (2, .ref (ar 0)), (3, .ref (ao 0)), (4, .int (x.1 + 4)), (5, .int q21.1)]) rfl ?_
        refine j_goto (pc := 820) C d_La_law_820 (tgt := 23) rfl ?_
        refine j_lc C (lc' := [(0, .ref bs), (1, .ref (ax 0)), (2, .ref (ar 0)), (3, .ref (ao 0)), (4, .int (x.1 + 4))]) [0, 1, 2, 3, 4] rfl ?_
        exact j_widen C (by omega) (by omega) (k23_ih (x.1 + 4, q21.2.1, q21.2.2.1, q21.2.2.2, q26.2, x.2.2.2.2.2) hf (j + 1) ad bd hi.1 hi.2)
      · rw [if_neg h27] at hf
        refine j_iconst (pc := 209) C d_La_law_209 ck_0 ?_
        exact absurd hf (by decide)
    rw [if_neg h17] at hf
    refine j_case (pc := 39) C d_La_law_39 (z := 3) (off := 175) (tgt := 214) (by decide) rfl (fun h28 => ?_) (fun h28 => ?_)
    · rw [if_pos h28] at hf
      refine j_aload_n (pc := 214) C d_La_law_214 rfl 1 rfl ?_
      refine j_aload_n (pc := 215) C d_La_law_215 rfl 0 rfl ?_
      refine j_iload (pc := 216) C d_La_law_216 4 rfl ?_
      refine j_iconst (pc := 218) C d_La_law_218 ck_1 ?_
      refine j_iadd (pc := 219) C d_La_law_219 ?_
      obtain ⟨b29, hf⟩ := og hf
      refine j_sld (pc := 220) CL d_La_law_220 (inb_in b29) ?_
      refine j_aload_n (pc := 221) C d_La_law_221 rfl 0 rfl ?_
      refine j_iload (pc := 222) C d_La_law_222 4 rfl ?_
      refine j_iconst (pc := 224) C d_La_law_224 ck_2 ?_
      refine j_iadd (pc := 225) C d_La_law_225 ?_
      obtain ⟨b30, hf⟩ := og hf
      refine j_sld (pc := 226) CL d_La_law_226 (inb_in b30) ?_
      obtain ⟨q31, eq31, hf⟩ := ob hf
      refine j_callH (pc := 227) C (n := 3) (rest := []) (ws' := wX g ax am ad bd ++ (wM g am q31.2.1.1 q31.2.1.2 ++ (wD g ad q31.2.2.1.1 q31.2.2.1.2 ++ (wD g bd q31.2.2.2.1 q31.2.2.2.2 ++ (wR g ar x.2.2.2.2.1.1 x.2.2.2.2.1.2.1 x.2.2.2.2.1.2.2 ++ wO g ao x.2.2.2.2.2))))) d_La_law_227 (c_La_remove (g := g) (ax := ax) (am := am) (ad := ad) (bd := bd) eq31) cw_La_remove cv_La_remove.1 cv_La_remove.2 (by decide +kernel) tw713 (cut_blk [wX g ax am ad bd, wM g am x.2.1.1 x.2.1.2, wD g ad x.2.2.1.1 x.2.2.1.2, wD g bd x.2.2.2.1.1 x.2.2.2.1.2, wR g ar x.2.2.2.2.1.1 x.2.2.2.2.1.2.1 x.2.2.2.2.1.2.2, wO g ao x.2.2.2.2.2] [wX g ax am ad bd, wM g am q31.2.1.1 q31.2.1.2, wD g ad q31.2.2.1.1 q31.2.2.1.2, wD g bd q31.2.2.2.1 q31.2.2.2.2, wR g ar x.2.2.2.2.1.1 x.2.2.2.2.1.2.1 x.2.2.2.2.1.2.2, wO g ao x.2.2.2.2.2] [4, 5] [0, 1, 2, 3] rfl rfl rfl rfl rfl rfl rfl) rfl rfl (Nat.le_of_ble_eq_true rfl) (kc2 := 104 + j + 1) (ks2 := 19341 + 6 * j + 6) (by refine ⟨⟨by decide, by decide⟩, ⟨?_, ?_⟩, ?_, ?_⟩ <;> (try dsimp only [room_1]) <;> omega) ?_
      refine j_istore (pc := 230) C d_La_law_230 [1, 2, 3, 4, 5, 0] (by decide) (lc' := [(0, .ref bs), (1, .ref (ax 0)), (2, .ref (ar 0)), (3, .ref (ao 0)), (4, .int x.1), (5, .int q31.1)]) rfl ?_
      refine j_aload_n (pc := 232) C d_La_law_232 rfl 2 rfl ?_
      refine j_aload_n (pc := 233) C d_La_law_233 rfl 0 rfl ?_
      refine j_iload (pc := 234) C d_La_law_234 4 rfl ?_
      refine j_iconst (pc := 236) C d_La_law_236 ck_1 ?_
      refine j_iadd (pc := 237) C d_La_law_237 ?_
      obtain ⟨b32, hf⟩ := og hf
      refine j_sld (pc := 238) CL d_La_law_238 (inb_in b32) ?_
      refine j_aload_n (pc := 239) C d_La_law_239 rfl 0 rfl ?_
      refine j_iload (pc := 240) C d_La_law_240 4 rfl ?_
      refine j_iconst (pc := 242) C d_La_law_242 ck_2 ?_
      refine j_iadd (pc := 243) C d_La_law_243 ?_
      obtain ⟨b33, hf⟩ := og hf
      refine j_sld (pc := 244) CL d_La_law_244 (inb_in b33) ?_
      obtain ⟨q34, eq34, hf⟩ := ob hf
      refine j_callVv (pc := 245) C (rest := []) (ws' := wX g ax am ad bd ++ (wM g am q31.2.1.1 q31.2.1.2 ++ (wD g ad q31.2.2.1.1 q31.2.2.1.2 ++ (wD g bd q31.2.2.2.1 q31.2.2.2.2 ++ (wR g ar q34.1 q34.2.1 q34.2.2 ++ wO g ao x.2.2.2.2.2))))) d_La_law_245 (c_Mo_remove (g := g) (ar := ar) eq34) cv_Mo_remove tw1131 66 rfl rfl (cut_blk [wX g ax am ad bd, wM g am q31.2.1.1 q31.2.1.2, wD g ad q31.2.2.1.1 q31.2.2.1.2, wD g bd q31.2.2.2.1 q31.2.2.2.2, wR g ar x.2.2.2.2.1.1 x.2.2.2.2.1.2.1 x.2.2.2.2.1.2.2, wO g ao x.2.2.2.2.2] [wX g ax am ad bd, wM g am q31.2.1.1 q31.2.1.2, wD g ad q31.2.2.1.1 q31.2.2.1.2, wD g bd q31.2.2.2.1 q31.2.2.2.2, wR g ar q34.1 q34.2.1 q34.2.2, wO g ao x.2.2.2.2.2] [0, 1, 2, 3, 5] [4] rfl rfl rfl rfl rfl rfl rfl) rfl rfl (Nat.le_of_ble_eq_true rfl) (kc2 := 104 + j + 1) (ks2 := 19341 + 6 * j + 6) (by refine ⟨⟨by decide, by decide⟩, ⟨?_, ?_⟩, ?_, ?_⟩ <;> (try dsimp only [room_1]) <;> omega) ?_
      refine j_aload_n (pc := 248) C d_La_law_248 rfl 2 rfl ?_
      obtain ⟨q35, eq35, hf⟩ := ob hf
      refine j_callVi (pc := 249) C (rest := []) (ws' := wX g ax am ad bd ++ (wM g am q31.2.1.1 q31.2.1.2 ++ (wD g ad q31.2.2.1.1 q31.2.2.1.2 ++ (wD g bd q31.2.2.2.1 q31.2.2.2.2 ++ (wR g ar q35.2.1 q35.2.2.1 q35.2.2.2 ++ wO g ao x.2.2.2.2.2))))) d_La_law_249 (c_Mo_thrown (g := g) (ar := ar) eq35) cv_Mo_thrown tw1107 66 rfl rfl (cut_blk [wX g ax am ad bd, wM g am q31.2.1.1 q31.2.1.2, wD g ad q31.2.2.1.1 q31.2.2.1.2, wD g bd q31.2.2.2.1 q31.2.2.2.2, wR g ar q34.1 q34.2.1 q34.2.2, wO g ao x.2.2.2.2.2] [wX g ax am ad bd, wM g am q31.2.1.1 q31.2.1.2, wD g ad q31.2.2.1.1 q31.2.2.1.2, wD g bd q31.2.2.2.1 q31.2.2.2.2, wR g ar q35.2.1 q35.2.2.1 q35.2.2.2, wO g ao x.2.2.2.2.2] [0, 1, 2, 3, 5] [4] rfl rfl rfl rfl rfl rfl rfl) rfl rfl (Nat.le_of_ble_eq_true rfl) (kc2 := 104 + j + 1) (ks2 := 19341 + 6 * j + 6) (by refine ⟨⟨by decide, by decide⟩, ⟨?_, ?_⟩, ?_, ?_⟩ <;> (try dsimp only [room_1]) <;> omega) ?_
      refine j_iload (pc := 252) C d_La_law_252 5 rfl ?_
      refine j_icmp_eq (pc := 254) C d_La_law_254 (tgt := 259) rfl (fun h36 => ?_) (fun h36 => ?_)
      · rw [if_pos h36] at hf
        refine j_goto (pc := 259) C d_La_law_259 (tgt := 817) rfl ?_
        refine j_iinc (pc := 817) C d_La_law_817 4 rfl (v := x.1 + 4) (iv ci_4) [1, 2, 3, 4, 0, 5] (by decide) (lc' := [(0, .ref bs), (1, .ref (ax 0)), (2, .ref (ar 0)), (3, .ref (ao 0)), (4, .int (x.1 + 4)), (5, .int q31.1)]) rfl ?_
        refine j_goto (pc := 820) C d_La_law_820 (tgt := 23) rfl ?_
        refine j_lc C (lc' := [(0, .ref bs), (1, .ref (ax 0)), (2, .ref (ar 0)), (3, .ref (ao 0)), (4, .int (x.1 + 4))]) [0, 1, 2, 3, 4] rfl ?_
        exact j_widen C (by omega) (by omega) (k23_ih (x.1 + 4, q31.2.1, q31.2.2.1, q31.2.2.2, q35.2, x.2.2.2.2.2) hf (j + 1) ad bd hi.1 hi.2)
      · rw [if_neg h36] at hf
        refine j_iconst (pc := 257) C d_La_law_257 ck_0 ?_
        exact absurd hf (by decide)
    rw [if_neg h28] at hf
    refine j_case (pc := 39) C d_La_law_39 (z := 4) (off := 223) (tgt := 262) (by decide) rfl (fun h37 => ?_) (fun h37 => ?_)
    · rw [if_pos h37] at hf
      refine j_aload_n (pc := 262) C d_La_law_262 rfl 1 rfl ?_
      obtain ⟨q38, eq38, hf⟩ := ob hf
      refine j_callVi (pc := 263) C (rest := []) (ws' := wX g ax am ad bd ++ (wM g am q38.2.1.1 q38.2.1.2 ++ (wD g ad q38.2.2.1.1 q38.2.2.1.2 ++ (wD g bd q38.2.2.2.1 q38.2.2.2.2 ++ (wR g ar x.2.2.2.2.1.1 x.2.2.2.2.1.2.1 x.2.2.2.2.1.2.2 ++ wO g ao x.2.2.2.2.2))))) d_La_law_263 (c_X_length (g := g) (ax := ax) (am := am) (ad := ad) (bd := bd) eq38) cv_X_length tw352 0 rfl rfl (cut_blk [wX g ax am ad bd, wM g am x.2.1.1 x.2.1.2, wD g ad x.2.2.1.1 x.2.2.1.2, wD g bd x.2.2.2.1.1 x.2.2.2.1.2, wR g ar x.2.2.2.2.1.1 x.2.2.2.2.1.2.1 x.2.2.2.2.1.2.2, wO g ao x.2.2.2.2.2] [wX g ax am ad bd, wM g am q38.2.1.1 q38.2.1.2, wD g ad q38.2.2.1.1 q38.2.2.1.2, wD g bd q38.2.2.2.1 q38.2.2.2.2, wR g ar x.2.2.2.2.1.1 x.2.2.2.2.1.2.1 x.2.2.2.2.1.2.2, wO g ao x.2.2.2.2.2] [4, 5] [0, 1, 2, 3] rfl rfl rfl rfl rfl rfl rfl) rfl rfl (Nat.le_of_ble_eq_true rfl) (kc2 := 104 + j) (ks2 := 19341 + 6 * j) (by refine ⟨⟨by decide, by decide⟩, ⟨?_, ?_⟩, ?_, ?_⟩ <;> (try dsimp only [room_1]) <;> omega) ?_
      refine j_aload_n (pc := 266) C d_La_law_266 rfl 2 rfl ?_
      obtain ⟨q39, eq39, hf⟩ := ob hf
      refine j_callVi (pc := 267) C (rest := [.int q38.1]) (ws' := wX g ax am ad bd ++ (wM g am q38.2.1.1 q38.2.1.2 ++ (wD g ad q38.2.2.1.1 q38.2.2.1.2 ++ (wD g bd q38.2.2.2.1 q38.2.2.2.2 ++ (wR g ar q39.2.1 q39.2.2.1 q39.2.2.2 ++ wO g ao x.2.2.2.2.2))))) d_La_law_267 (c_Mo_length (g := g) (ar := ar) eq39) cv_Mo_length tw1135 66 rfl rfl (cut_blk [wX g ax am ad bd, wM g am q38.2.1.1 q38.2.1.2, wD g ad q38.2.2.1.1 q38.2.2.1.2, wD g bd q38.2.2.2.1 q38.2.2.2.2, wR g ar x.2.2.2.2.1.1 x.2.2.2.2.1.2.1 x.2.2.2.2.1.2.2, wO g ao x.2.2.2.2.2] [wX g ax am ad bd, wM g am q38.2.1.1 q38.2.1.2, wD g ad q38.2.2.1.1 q38.2.2.1.2, wD g bd q38.2.2.2.1 q38.2.2.2.2, wR g ar q39.2.1 q39.2.2.1 q39.2.2.2, wO g ao x.2.2.2.2.2] [0, 1, 2, 3, 5] [4] rfl rfl rfl rfl rfl rfl rfl) rfl rfl (Nat.le_of_ble_eq_true rfl) (kc2 := 104 + j) (ks2 := 19341 + 6 * j) (by refine ⟨⟨by decide, by decide⟩, ⟨?_, ?_⟩, ?_, ?_⟩ <;> (try dsimp only [room_1]) <;> omega) ?_
      refine j_icmp_eq (pc := 270) C d_La_law_270 (tgt := 817) rfl (fun h40 => ?_) (fun h40 => ?_)
      · rw [if_pos h40] at hf
        refine j_iinc (pc := 817) C d_La_law_817 4 rfl (v := x.1 + 4) (iv ci_4) [1, 2, 3, 4, 0] (by decide) (lc' := [(0, .ref bs), (1, .ref (ax 0)), (2, .ref (ar 0)), (3, .ref (ao 0)), (4, .int (x.1 + 4))]) rfl ?_
        refine j_goto (pc := 820) C d_La_law_820 (tgt := 23) rfl ?_
        exact j_widen C (by omega) (by omega) (k23_ih (x.1 + 4, q38.2.1, q38.2.2.1, q38.2.2.2, q39.2, x.2.2.2.2.2) hf (j + 1) ad bd hi.1 hi.2)
      · rw [if_neg h40] at hf
        refine j_iconst (pc := 273) C d_La_law_273 ck_0 ?_
        exact absurd hf (by decide)
    rw [if_neg h37] at hf
    refine j_case (pc := 39) C d_La_law_39 (z := 5) (off := 236) (tgt := 275) (by decide) rfl (fun h41 => ?_) (fun h41 => ?_)
    · rw [if_pos h41] at hf
      refine j_aload_n (pc := 275) C d_La_law_275 rfl 1 rfl ?_
      refine j_aload_n (pc := 276) C d_La_law_276 rfl 0 rfl ?_
      refine j_iload (pc := 277) C d_La_law_277 4 rfl ?_
      refine j_iconst (pc := 279) C d_La_law_279 ck_1 ?_
      refine j_iadd (pc := 280) C d_La_law_280 ?_
      obtain ⟨b42, hf⟩ := og hf
      refine j_sld (pc := 281) CL d_La_law_281 (inb_in b42) ?_
      refine j_aload_n (pc := 282) C d_La_law_282 rfl 3 rfl ?_
      obtain ⟨q43, eq43, hf⟩ := ob hf
      refine j_callH (pc := 283) C (n := 3) (rest := []) (ws' := wX g ax am ad bd ++ (wM g am q43.2.1.1 q43.2.1.2 ++ (wD g ad q43.2.2.1.1 q43.2.2.1.2 ++ (wD g bd q43.2.2.2.1.1 q43.2.2.2.1.2 ++ (wR g ar x.2.2.2.2.1.1 x.2.2.2.2.1.2.1 x.2.2.2.2.1.2.2 ++ wO g ao q43.2.2.2.2))))) d_La_law_283 (c_La_letter (g := g) (ax := ax) (am := am) (ad := ad) (bd := bd) (ao := ao) eq43) cw_La_letter cv_La_letter.1 cv_La_letter.2 (by decide +kernel) tw724 (cut_blk [wX g ax am ad bd, wM g am x.2.1.1 x.2.1.2, wD g ad x.2.2.1.1 x.2.2.1.2, wD g bd x.2.2.2.1.1 x.2.2.2.1.2, wR g ar x.2.2.2.2.1.1 x.2.2.2.2.1.2.1 x.2.2.2.2.1.2.2, wO g ao x.2.2.2.2.2] [wX g ax am ad bd, wM g am q43.2.1.1 q43.2.1.2, wD g ad q43.2.2.1.1 q43.2.2.1.2, wD g bd q43.2.2.2.1.1 q43.2.2.2.1.2, wR g ar x.2.2.2.2.1.1 x.2.2.2.2.1.2.1 x.2.2.2.2.1.2.2, wO g ao q43.2.2.2.2] [4] [0, 1, 2, 3, 5] rfl rfl rfl rfl rfl rfl rfl) rfl rfl (Nat.le_of_ble_eq_true rfl) (kc2 := 104 + j + 1) (ks2 := 19341 + 6 * j + 6) (by refine ⟨⟨by decide, by decide⟩, ⟨?_, ?_⟩, ?_, ?_⟩ <;> (try dsimp only [room_1]) <;> omega) ?_
      refine j_istore (pc := 286) C d_La_law_286 [1, 2, 3, 4, 5, 0] (by decide) (lc' := [(0, .ref bs), (1, .ref (ax 0)), (2, .ref (ar 0)), (3, .ref (ao 0)), (4, .int x.1), (5, .int q43.1)]) rfl ?_
      refine j_aload_n (pc := 288) C d_La_law_288 rfl 2 rfl ?_
      refine j_aload_n (pc := 289) C d_La_law_289 rfl 0 rfl ?_
      refine j_iload (pc := 290) C d_La_law_290 4 rfl ?_
      refine j_iconst (pc := 292) C d_La_law_292 ck_1 ?_
      refine j_iadd (pc := 293) C d_La_law_293 ?_
      obtain ⟨b44, hf⟩ := og hf
      refine j_sld (pc := 294) CL d_La_law_294 (inb_in b44) ?_
      obtain ⟨q45, eq45, hf⟩ := ob hf
      refine j_callVi (pc := 295) C (rest := []) (ws' := wX g ax am ad bd ++ (wM g am q43.2.1.1 q43.2.1.2 ++ (wD g ad q43.2.2.1.1 q43.2.2.1.2 ++ (wD g bd q43.2.2.2.1.1 q43.2.2.2.1.2 ++ (wR g ar q45.2.1 q45.2.2.1 q45.2.2.2 ++ wO g ao q43.2.2.2.2))))) d_La_law_295 (c_Mo_letter (g := g) (ar := ar) eq45) cv_Mo_letter tw1139 66 rfl rfl (cut_blk [wX g ax am ad bd, wM g am q43.2.1.1 q43.2.1.2, wD g ad q43.2.2.1.1 q43.2.2.1.2, wD g bd q43.2.2.2.1.1 q43.2.2.2.1.2, wR g ar x.2.2.2.2.1.1 x.2.2.2.2.1.2.1 x.2.2.2.2.1.2.2, wO g ao q43.2.2.2.2] [wX g ax am ad bd, wM g am q43.2.1.1 q43.2.1.2, wD g ad q43.2.2.1.1 q43.2.2.1.2, wD g bd q43.2.2.2.1.1 q43.2.2.2.1.2, wR g ar q45.2.1 q45.2.2.1 q45.2.2.2, wO g ao q43.2.2.2.2] [0, 1, 2, 3, 5] [4] rfl rfl rfl rfl rfl rfl rfl) rfl rfl (Nat.le_of_ble_eq_true rfl) (kc2 := 104 + j + 1) (ks2 := 19341 + 6 * j + 6) (by refine ⟨⟨by decide, by decide⟩, ⟨?_, ?_⟩, ?_, ?_⟩ <;> (try dsimp only [room_1]) <;> omega) ?_
      refine j_istore (pc := 298) C d_La_law_298 [1, 2, 3, 4, 5, 6, 0] (by decide) (lc' := [(0, .ref bs), (1, .ref (ax 0)), (2, .ref (ar 0)), (3, .ref (ao 0)), (4, .int x.1), (5, .int q43.1), (6, .int q45.1)]) rfl ?_
      refine j_aload_n (pc := 300) C d_La_law_300 rfl 2 rfl ?_
      obtain ⟨q46, eq46, hf⟩ := ob hf
      refine j_callVi (pc := 301) C (rest := []) (ws' := wX g ax am ad bd ++ (wM g am q43.2.1.1 q43.2.1.2 ++ (wD g ad q43.2.2.1.1 q43.2.2.1.2 ++ (wD g bd q43.2.2.2.1.1 q43.2.2.2.1.2 ++ (wR g ar q46.2.1 q46.2.2.1 q46.2.2.2 ++ wO g ao q43.2.2.2.2))))) d_La_law_301 (c_Mo_thrown (g := g) (ar := ar) eq46) cv_Mo_thrown tw1107 66 rfl rfl (cut_blk [wX g ax am ad bd, wM g am q43.2.1.1 q43.2.1.2, wD g ad q43.2.2.1.1 q43.2.2.1.2, wD g bd q43.2.2.2.1.1 q43.2.2.2.1.2, wR g ar q45.2.1 q45.2.2.1 q45.2.2.2, wO g ao q43.2.2.2.2] [wX g ax am ad bd, wM g am q43.2.1.1 q43.2.1.2, wD g ad q43.2.2.1.1 q43.2.2.1.2, wD g bd q43.2.2.2.1.1 q43.2.2.2.1.2, wR g ar q46.2.1 q46.2.2.1 q46.2.2.2, wO g ao q43.2.2.2.2] [0, 1, 2, 3, 5] [4] rfl rfl rfl rfl rfl rfl rfl) rfl rfl (Nat.le_of_ble_eq_true rfl) (kc2 := 104 + j + 1) (ks2 := 19341 + 6 * j + 6) (by refine ⟨⟨by decide, by decide⟩, ⟨?_, ?_⟩, ?_, ?_⟩ <;> (try dsimp only [room_1]) <;> omega) ?_
      refine j_iload (pc := 304) C d_La_law_304 5 rfl ?_
      refine j_icmp_eq (pc := 306) C d_La_law_306 (tgt := 311) rfl (fun h47 => ?_) (fun h47 => ?_)
      · rw [if_pos h47] at hf
        refine j_iload (pc := 311) C d_La_law_311 5 rfl ?_
        refine j_if_ne (pc := 313) C d_La_law_313 (tgt := 328) rfl (fun h48 => ?_) (fun h48 => ?_)
        · rw [if_neg h48] at hf
          refine j_goto (pc := 328) C d_La_law_328 (tgt := 817) rfl ?_
          refine j_iinc (pc := 817) C d_La_law_817 4 rfl (v := x.1 + 4) (iv ci_4) [1, 2, 3, 4, 0, 5, 6] (by decide) (lc' := [(0, .ref bs), (1, .ref (ax 0)), (2, .ref (ar 0)), (3, .ref (ao 0)), (4, .int (x.1 + 4)), (5, .int q43.1), (6, .int q45.1)]) rfl ?_
          refine j_goto (pc := 820) C d_La_law_820 (tgt := 23) rfl ?_
          refine j_lc C (lc' := [(0, .ref bs), (1, .ref (ax 0)), (2, .ref (ar 0)), (3, .ref (ao 0)), (4, .int (x.1 + 4))]) [0, 1, 2, 3, 4] rfl ?_
          exact j_widen C (by omega) (by omega) (k23_ih (x.1 + 4, q43.2.1, q43.2.2.1, q43.2.2.2.1, q46.2, q43.2.2.2.2) hf (j + 1) ad bd hi.1 hi.2)
        · rw [if_pos h48] at hf
          refine j_aload_n (pc := 316) C d_La_law_316 rfl 3 rfl ?_
          refine j_iconst (pc := 317) C d_La_law_317 ck_0 ?_
          refine j_lald (pc := 318) C d_La_law_318 103 (inb_in (by decide)) (x := q43.2.2.2.2 0) rfl rfl ?_
          refine j_iload (pc := 319) C d_La_law_319 6 rfl ?_
          refine j_i2l (pc := 321) C d_La_law_321 rfl ?_
          refine j_lcmp (pc := 322) C d_La_law_322 ?_
          refine j_if_eq (pc := 323) C d_La_law_323 (tgt := 328) rfl (fun h50 => ?_) (fun h50 => ?_)
          · rw [if_pos h50] at hf
            refine j_goto (pc := 328) C d_La_law_328 (tgt := 817) rfl ?_
            refine j_iinc (pc := 817) C d_La_law_817 4 rfl (v := x.1 + 4) (iv ci_4) [1, 2, 3, 4, 0, 5, 6] (by decide) (lc' := [(0, .ref bs), (1, .ref (ax 0)), (2, .ref (ar 0)), (3, .ref (ao 0)), (4, .int (x.1 + 4)), (5, .int q43.1), (6, .int q45.1)]) rfl ?_
            refine j_goto (pc := 820) C d_La_law_820 (tgt := 23) rfl ?_
            refine j_lc C (lc' := [(0, .ref bs), (1, .ref (ax 0)), (2, .ref (ar 0)), (3, .ref (ao 0)), (4, .int (x.1 + 4))]) [0, 1, 2, 3, 4] rfl ?_
            exact j_widen C (by omega) (by omega) (k23_ih (x.1 + 4, q43.2.1, q43.2.2.1, q43.2.2.2.1, q46.2, q43.2.2.2.2) hf (j + 1) ad bd hi.1 hi.2)
          · rw [if_neg h50] at hf
            refine j_iconst (pc := 326) C d_La_law_326 ck_0 ?_
            exact absurd hf (by decide)
      · rw [if_neg h47] at hf
        refine j_iconst (pc := 309) C d_La_law_309 ck_0 ?_
        exact absurd hf (by decide)
    rw [if_neg h41] at hf
    refine j_case (pc := 39) C d_La_law_39 (z := 6) (off := 292) (tgt := 331) (by decide) rfl (fun h51 => ?_) (fun h51 => ?_)
    · rw [if_pos h51] at hf
      refine j_aload_n (pc := 331) C d_La_law_331 rfl 1 rfl ?_
      obtain ⟨q52, eq52, hf⟩ := ob hf
      refine j_callVi (pc := 332) C (rest := []) (ws' := wX g ax am ad bd ++ (wM g am q52.2.1.1 q52.2.1.2 ++ (wD g ad q52.2.2.1.1 q52.2.2.1.2 ++ (wD g bd q52.2.2.2.1 q52.2.2.2.2 ++ (wR g ar x.2.2.2.2.1.1 x.2.2.2.2.1.2.1 x.2.2.2.2.1.2.2 ++ wO g ao x.2.2.2.2.2))))) d_La_law_332 (c_X_tokens (g := g) (ax := ax) (am := am) (ad := ad) (bd := bd) eq52) cv_X_tokens tw356 0 rfl rfl (cut_blk [wX g ax am ad bd, wM g am x.2.1.1 x.2.1.2, wD g ad x.2.2.1.1 x.2.2.1.2, wD g bd x.2.2.2.1.1 x.2.2.2.1.2, wR g ar x.2.2.2.2.1.1 x.2.2.2.2.1.2.1 x.2.2.2.2.1.2.2, wO g ao x.2.2.2.2.2] [wX g ax am ad bd, wM g am q52.2.1.1 q52.2.1.2, wD g ad q52.2.2.1.1 q52.2.2.1.2, wD g bd q52.2.2.2.1 q52.2.2.2.2, wR g ar x.2.2.2.2.1.1 x.2.2.2.2.1.2.1 x.2.2.2.2.1.2.2, wO g ao x.2.2.2.2.2] [4, 5] [0, 1, 2, 3] rfl rfl rfl rfl rfl rfl rfl) rfl rfl (Nat.le_of_ble_eq_true rfl) (kc2 := 104 + j) (ks2 := 19341 + 6 * j) (by refine ⟨⟨by decide, by decide⟩, ⟨?_, ?_⟩, ?_, ?_⟩ <;> (try dsimp only [room_1]) <;> omega) ?_
      refine j_aload_n (pc := 335) C d_La_law_335 rfl 2 rfl ?_
      obtain ⟨q53, eq53, hf⟩ := ob hf
      refine j_callVi (pc := 336) C (rest := [.int q52.1]) (ws' := wX g ax am ad bd ++ (wM g am q52.2.1.1 q52.2.1.2 ++ (wD g ad q52.2.2.1.1 q52.2.2.1.2 ++ (wD g bd q52.2.2.2.1 q52.2.2.2.2 ++ (wR g ar q53.2.1 q53.2.2.1 q53.2.2.2 ++ wO g ao x.2.2.2.2.2))))) d_La_law_336 (c_Mo_tokens (g := g) (ar := ar) eq53) cv_Mo_tokens tw1143 66 rfl rfl (cut_blk [wX g ax am ad bd, wM g am q52.2.1.1 q52.2.1.2, wD g ad q52.2.2.1.1 q52.2.2.1.2, wD g bd q52.2.2.2.1 q52.2.2.2.2, wR g ar x.2.2.2.2.1.1 x.2.2.2.2.1.2.1 x.2.2.2.2.1.2.2, wO g ao x.2.2.2.2.2] [wX g ax am ad bd, wM g am q52.2.1.1 q52.2.1.2, wD g ad q52.2.2.1.1 q52.2.2.1.2, wD g bd q52.2.2.2.1 q52.2.2.2.2, wR g ar q53.2.1 q53.2.2.1 q53.2.2.2, wO g ao x.2.2.2.2.2] [0, 1, 2, 3, 5] [4] rfl rfl rfl rfl rfl rfl rfl) rfl rfl (Nat.le_of_ble_eq_true rfl) (kc2 := 104 + j) (ks2 := 19341 + 6 * j) (by refine ⟨⟨by decide, by decide⟩, ⟨?_, ?_⟩, ?_, ?_⟩ <;> (try dsimp only [room_1]) <;> omega) ?_
      refine j_icmp_eq (pc := 339) C d_La_law_339 (tgt := 817) rfl (fun h54 => ?_) (fun h54 => ?_)
      · rw [if_pos h54] at hf
        refine j_iinc (pc := 817) C d_La_law_817 4 rfl (v := x.1 + 4) (iv ci_4) [1, 2, 3, 4, 0] (by decide) (lc' := [(0, .ref bs), (1, .ref (ax 0)), (2, .ref (ar 0)), (3, .ref (ao 0)), (4, .int (x.1 + 4))]) rfl ?_
        refine j_goto (pc := 820) C d_La_law_820 (tgt := 23) rfl ?_
        exact j_widen C (by omega) (by omega) (k23_ih (x.1 + 4, q52.2.1, q52.2.2.1, q52.2.2.2, q53.2, x.2.2.2.2.2) hf (j + 1) ad bd hi.1 hi.2)
      · rw [if_neg h54] at hf
        refine j_iconst (pc := 342) C d_La_law_342 ck_0 ?_
        exact absurd hf (by decide)
    rw [if_neg h51] at hf
    refine j_case (pc := 39) C d_La_law_39 (z := 7) (off := 305) (tgt := 344) (by decide) rfl (fun h55 => ?_) (fun h55 => ?_)
    · rw [if_pos h55] at hf
      refine j_aload_n (pc := 344) C d_La_law_344 rfl 1 rfl ?_
      refine j_aload_n (pc := 345) C d_La_law_345 rfl 0 rfl ?_
      refine j_iload (pc := 346) C d_La_law_346 4 rfl ?_
      refine j_iconst (pc := 348) C d_La_law_348 ck_1 ?_
      refine j_iadd (pc := 349) C d_La_law_349 ?_
      obtain ⟨b56, hf⟩ := og hf
      refine j_sld (pc := 350) CL d_La_law_350 (inb_in b56) ?_
      refine j_aload_n (pc := 351) C d_La_law_351 rfl 0 rfl ?_
      refine j_iload (pc := 352) C d_La_law_352 4 rfl ?_
      refine j_iconst (pc := 354) C d_La_law_354 ck_2 ?_
      refine j_iadd (pc := 355) C d_La_law_355 ?_
      obtain ⟨b57, hf⟩ := og hf
      refine j_sld (pc := 356) CL d_La_law_356 (inb_in b57) ?_
      refine j_aload_n (pc := 357) C d_La_law_357 rfl 3 rfl ?_
      obtain ⟨q58, eq58, hf⟩ := ob hf
      refine j_callH (pc := 358) C (n := 4) (rest := []) (ws' := wX g ax am ad bd ++ (wM g am q58.2.1.1 q58.2.1.2 ++ (wD g ad q58.2.2.1.1 q58.2.2.1.2 ++ (wD g bd q58.2.2.2.1.1 q58.2.2.2.1.2 ++ (wR g ar x.2.2.2.2.1.1 x.2.2.2.2.1.2.1 x.2.2.2.2.1.2.2 ++ wO g ao q58.2.2.2.2))))) d_La_law_358 (c_La_token (g := g) (ax := ax) (am := am) (ad := ad) (bd := bd) (ao := ao) eq58) cw_La_token cv_La_token.1 cv_La_token.2 (by decide +kernel) tw731 (cut_blk [wX g ax am ad bd, wM g am x.2.1.1 x.2.1.2, wD g ad x.2.2.1.1 x.2.2.1.2, wD g bd x.2.2.2.1.1 x.2.2.2.1.2, wR g ar x.2.2.2.2.1.1 x.2.2.2.2.1.2.1 x.2.2.2.2.1.2.2, wO g ao x.2.2.2.2.2] [wX g ax am ad bd, wM g am q58.2.1.1 q58.2.1.2, wD g ad q58.2.2.1.1 q58.2.2.1.2, wD g bd q58.2.2.2.1.1 q58.2.2.2.1.2, wR g ar x.2.2.2.2.1.1 x.2.2.2.2.1.2.1 x.2.2.2.2.1.2.2, wO g ao q58.2.2.2.2] [4] [0, 1, 2, 3, 5] rfl rfl rfl rfl rfl rfl rfl) rfl rfl (Nat.le_of_ble_eq_true rfl) (kc2 := 104 + j + 1) (ks2 := 19341 + 6 * j + 6) (by refine ⟨⟨by decide, by decide⟩, ⟨?_, ?_⟩, ?_, ?_⟩ <;> (try dsimp only [room_1]) <;> omega) ?_
      refine j_istore (pc := 361) C d_La_law_361 [1, 2, 3, 4, 5, 0] (by decide) (lc' := [(0, .ref bs), (1, .ref (ax 0)), (2, .ref (ar 0)), (3, .ref (ao 0)), (4, .int x.1), (5, .int q58.1)]) rfl ?_
      refine j_aload_n (pc := 363) C d_La_law_363 rfl 2 rfl ?_
      refine j_aload_n (pc := 364) C d_La_law_364 rfl 0 rfl ?_
      refine j_iload (pc := 365) C d_La_law_365 4 rfl ?_
      refine j_iconst (pc := 367) C d_La_law_367 ck_1 ?_
      refine j_iadd (pc := 368) C d_La_law_368 ?_
      obtain ⟨b59, hf⟩ := og hf
      refine j_sld (pc := 369) CL d_La_law_369 (inb_in b59) ?_
      refine j_aload_n (pc := 370) C d_La_law_370 rfl 0 rfl ?_
      refine j_iload (pc := 371) C d_La_law_371 4 rfl ?_
      refine j_iconst (pc := 373) C d_La_law_373 ck_2 ?_
      refine j_iadd (pc := 374) C d_La_law_374 ?_
      obtain ⟨b60, hf⟩ := og hf
      refine j_sld (pc := 375) CL d_La_law_375 (inb_in b60) ?_
      obtain ⟨q61, eq61, hf⟩ := ob hf
      refine j_callVi (pc := 376) C (rest := []) (ws' := wX g ax am ad bd ++ (wM g am q58.2.1.1 q58.2.1.2 ++ (wD g ad q58.2.2.1.1 q58.2.2.1.2 ++ (wD g bd q58.2.2.2.1.1 q58.2.2.2.1.2 ++ (wR g ar q61.2.1 q61.2.2.1 q61.2.2.2 ++ wO g ao q58.2.2.2.2))))) d_La_law_376 (c_Mo_token (g := g) (ar := ar) eq61) cv_Mo_token tw1258 66 rfl rfl (cut_blk [wX g ax am ad bd, wM g am q58.2.1.1 q58.2.1.2, wD g ad q58.2.2.1.1 q58.2.2.1.2, wD g bd q58.2.2.2.1.1 q58.2.2.2.1.2, wR g ar x.2.2.2.2.1.1 x.2.2.2.2.1.2.1 x.2.2.2.2.1.2.2, wO g ao q58.2.2.2.2] [wX g ax am ad bd, wM g am q58.2.1.1 q58.2.1.2, wD g ad q58.2.2.1.1 q58.2.2.1.2, wD g bd q58.2.2.2.1.1 q58.2.2.2.1.2, wR g ar q61.2.1 q61.2.2.1 q61.2.2.2, wO g ao q58.2.2.2.2] [0, 1, 2, 3, 5] [4] rfl rfl rfl rfl rfl rfl rfl) rfl rfl (Nat.le_of_ble_eq_true rfl) (kc2 := 104 + j + 1) (ks2 := 19341 + 6 * j + 6) (by refine ⟨⟨by decide, by decide⟩, ⟨?_, ?_⟩, ?_, ?_⟩ <;> (try dsimp only [room_1]) <;> omega) ?_
      refine j_istore (pc := 379) C d_La_law_379 [1, 2, 3, 4, 5, 6, 0] (by decide) (lc' := [(0, .ref bs), (1, .ref (ax 0)), (2, .ref (ar 0)), (3, .ref (ao 0)), (4, .int x.1), (5, .int q58.1), (6, .int q61.1)]) rfl ?_
      refine j_aload_n (pc := 381) C d_La_law_381 rfl 2 rfl ?_
      obtain ⟨q62, eq62, hf⟩ := ob hf
      refine j_callVi (pc := 382) C (rest := []) (ws' := wX g ax am ad bd ++ (wM g am q58.2.1.1 q58.2.1.2 ++ (wD g ad q58.2.2.1.1 q58.2.2.1.2 ++ (wD g bd q58.2.2.2.1.1 q58.2.2.2.1.2 ++ (wR g ar q62.2.1 q62.2.2.1 q62.2.2.2 ++ wO g ao q58.2.2.2.2))))) d_La_law_382 (c_Mo_thrown (g := g) (ar := ar) eq62) cv_Mo_thrown tw1107 66 rfl rfl (cut_blk [wX g ax am ad bd, wM g am q58.2.1.1 q58.2.1.2, wD g ad q58.2.2.1.1 q58.2.2.1.2, wD g bd q58.2.2.2.1.1 q58.2.2.2.1.2, wR g ar q61.2.1 q61.2.2.1 q61.2.2.2, wO g ao q58.2.2.2.2] [wX g ax am ad bd, wM g am q58.2.1.1 q58.2.1.2, wD g ad q58.2.2.1.1 q58.2.2.1.2, wD g bd q58.2.2.2.1.1 q58.2.2.2.1.2, wR g ar q62.2.1 q62.2.2.1 q62.2.2.2, wO g ao q58.2.2.2.2] [0, 1, 2, 3, 5] [4] rfl rfl rfl rfl rfl rfl rfl) rfl rfl (Nat.le_of_ble_eq_true rfl) (kc2 := 104 + j + 1) (ks2 := 19341 + 6 * j + 6) (by refine ⟨⟨by decide, by decide⟩, ⟨?_, ?_⟩, ?_, ?_⟩ <;> (try dsimp only [room_1]) <;> omega) ?_
      refine j_iload (pc := 385) C d_La_law_385 5 rfl ?_
      refine j_icmp_eq (pc := 387) C d_La_law_387 (tgt := 392) rfl (fun h63 => ?_) (fun h63 => ?_)
      · rw [if_pos h63] at hf
        refine j_iload (pc := 392) C d_La_law_392 5 rfl ?_
        refine j_if_ne (pc := 394) C d_La_law_394 (tgt := 409) rfl (fun h64 => ?_) (fun h64 => ?_)
        · rw [if_neg h64] at hf
          refine j_goto (pc := 409) C d_La_law_409 (tgt := 817) rfl ?_
          refine j_iinc (pc := 817) C d_La_law_817 4 rfl (v := x.1 + 4) (iv ci_4) [1, 2, 3, 4, 0, 5, 6] (by decide) (lc' := [(0, .ref bs), (1, .ref (ax 0)), (2, .ref (ar 0)), (3, .ref (ao 0)), (4, .int (x.1 + 4)), (5, .int q58.1), (6, .int q61.1)]) rfl ?_
          refine j_goto (pc := 820) C d_La_law_820 (tgt := 23) rfl ?_
          refine j_lc C (lc' := [(0, .ref bs), (1, .ref (ax 0)), (2, .ref (ar 0)), (3, .ref (ao 0)), (4, .int (x.1 + 4))]) [0, 1, 2, 3, 4] rfl ?_
          exact j_widen C (by omega) (by omega) (k23_ih (x.1 + 4, q58.2.1, q58.2.2.1, q58.2.2.2.1, q62.2, q58.2.2.2.2) hf (j + 1) ad bd hi.1 hi.2)
        · rw [if_pos h64] at hf
          refine j_aload_n (pc := 397) C d_La_law_397 rfl 3 rfl ?_
          refine j_iconst (pc := 398) C d_La_law_398 ck_0 ?_
          refine j_lald (pc := 399) C d_La_law_399 103 (inb_in (by decide)) (x := q58.2.2.2.2 0) rfl rfl ?_
          refine j_iload (pc := 400) C d_La_law_400 6 rfl ?_
          refine j_i2l (pc := 402) C d_La_law_402 rfl ?_
          refine j_lcmp (pc := 403) C d_La_law_403 ?_
          refine j_if_eq (pc := 404) C d_La_law_404 (tgt := 409) rfl (fun h66 => ?_) (fun h66 => ?_)
          · rw [if_pos h66] at hf
            refine j_goto (pc := 409) C d_La_law_409 (tgt := 817) rfl ?_
            refine j_iinc (pc := 817) C d_La_law_817 4 rfl (v := x.1 + 4) (iv ci_4) [1, 2, 3, 4, 0, 5, 6] (by decide) (lc' := [(0, .ref bs), (1, .ref (ax 0)), (2, .ref (ar 0)), (3, .ref (ao 0)), (4, .int (x.1 + 4)), (5, .int q58.1), (6, .int q61.1)]) rfl ?_
            refine j_goto (pc := 820) C d_La_law_820 (tgt := 23) rfl ?_
            refine j_lc C (lc' := [(0, .ref bs), (1, .ref (ax 0)), (2, .ref (ar 0)), (3, .ref (ao 0)), (4, .int (x.1 + 4))]) [0, 1, 2, 3, 4] rfl ?_
            exact j_widen C (by omega) (by omega) (k23_ih (x.1 + 4, q58.2.1, q58.2.2.1, q58.2.2.2.1, q62.2, q58.2.2.2.2) hf (j + 1) ad bd hi.1 hi.2)
          · rw [if_neg h66] at hf
            refine j_iconst (pc := 407) C d_La_law_407 ck_0 ?_
            exact absurd hf (by decide)
      · rw [if_neg h63] at hf
        refine j_iconst (pc := 390) C d_La_law_390 ck_0 ?_
        exact absurd hf (by decide)
    rw [if_neg h55] at hf
    refine j_case (pc := 39) C d_La_law_39 (z := 8) (off := 373) (tgt := 412) (by decide) rfl (fun h67 => ?_) (fun h67 => ?_)
    · rw [if_pos h67] at hf
      refine j_aload_n (pc := 412) C d_La_law_412 rfl 1 rfl ?_
      obtain ⟨q68, eq68, hf⟩ := ob hf
      refine j_callVi (pc := 413) C (rest := []) (ws' := wX g ax am ad bd ++ (wM g am q68.2.1.1 q68.2.1.2 ++ (wD g ad q68.2.2.1.1 q68.2.2.1.2 ++ (wD g bd q68.2.2.2.1 q68.2.2.2.2 ++ (wR g ar x.2.2.2.2.1.1 x.2.2.2.2.1.2.1 x.2.2.2.2.1.2.2 ++ wO g ao x.2.2.2.2.2))))) d_La_law_413 (c_X_faults (g := g) (ax := ax) (am := am) (ad := ad) (bd := bd) eq68) cv_X_faults tw600 0 rfl rfl (cut_blk [wX g ax am ad bd, wM g am x.2.1.1 x.2.1.2, wD g ad x.2.2.1.1 x.2.2.1.2, wD g bd x.2.2.2.1.1 x.2.2.2.1.2, wR g ar x.2.2.2.2.1.1 x.2.2.2.2.1.2.1 x.2.2.2.2.1.2.2, wO g ao x.2.2.2.2.2] [wX g ax am ad bd, wM g am q68.2.1.1 q68.2.1.2, wD g ad q68.2.2.1.1 q68.2.2.1.2, wD g bd q68.2.2.2.1 q68.2.2.2.2, wR g ar x.2.2.2.2.1.1 x.2.2.2.2.1.2.1 x.2.2.2.2.1.2.2, wO g ao x.2.2.2.2.2] [4, 5] [0, 1, 2, 3] rfl rfl rfl rfl rfl rfl rfl) rfl rfl (Nat.le_of_ble_eq_true rfl) (kc2 := 104 + j) (ks2 := 19341 + 6 * j) (by refine ⟨⟨by decide, by decide⟩, ⟨?_, ?_⟩, ?_, ?_⟩ <;> (try dsimp only [room_1]) <;> omega) ?_
      refine j_aload_n (pc := 416) C d_La_law_416 rfl 2 rfl ?_
      obtain ⟨q69, eq69, hf⟩ := ob hf
      refine j_callVi (pc := 417) C (rest := [.int q68.1]) (ws' := wX g ax am ad bd ++ (wM g am q68.2.1.1 q68.2.1.2 ++ (wD g ad q68.2.2.1.1 q68.2.2.1.2 ++ (wD g bd q68.2.2.2.1 q68.2.2.2.2 ++ (wR g ar q69.2.1 q69.2.2.1 q69.2.2.2 ++ wO g ao x.2.2.2.2.2))))) d_La_law_417 (c_Mo_faults (g := g) (ar := ar) eq69) cv_Mo_faults tw1266 66 rfl rfl (cut_blk [wX g ax am ad bd, wM g am q68.2.1.1 q68.2.1.2, wD g ad q68.2.2.1.1 q68.2.2.1.2, wD g bd q68.2.2.2.1 q68.2.2.2.2, wR g ar x.2.2.2.2.1.1 x.2.2.2.2.1.2.1 x.2.2.2.2.1.2.2, wO g ao x.2.2.2.2.2] [wX g ax am ad bd, wM g am q68.2.1.1 q68.2.1.2, wD g ad q68.2.2.1.1 q68.2.2.1.2, wD g bd q68.2.2.2.1 q68.2.2.2.2, wR g ar q69.2.1 q69.2.2.1 q69.2.2.2, wO g ao x.2.2.2.2.2] [0, 1, 2, 3, 5] [4] rfl rfl rfl rfl rfl rfl rfl) rfl rfl (Nat.le_of_ble_eq_true rfl) (kc2 := 104 + j) (ks2 := 19341 + 6 * j) (by refine ⟨⟨by decide, by decide⟩, ⟨?_, ?_⟩, ?_, ?_⟩ <;> (try dsimp only [room_1]) <;> omega) ?_
      refine j_icmp_eq (pc := 420) C d_La_law_420 (tgt := 817) rfl (fun h70 => ?_) (fun h70 => ?_)
      · rw [if_pos h70] at hf
        refine j_iinc (pc := 817) C d_La_law_817 4 rfl (v := x.1 + 4) (iv ci_4) [1, 2, 3, 4, 0] (by decide) (lc' := [(0, .ref bs), (1, .ref (ax 0)), (2, .ref (ar 0)), (3, .ref (ao 0)), (4, .int (x.1 + 4))]) rfl ?_
        refine j_goto (pc := 820) C d_La_law_820 (tgt := 23) rfl ?_
        exact j_widen C (by omega) (by omega) (k23_ih (x.1 + 4, q68.2.1, q68.2.2.1, q68.2.2.2, q69.2, x.2.2.2.2.2) hf (j + 1) ad bd hi.1 hi.2)
      · rw [if_neg h70] at hf
        refine j_iconst (pc := 423) C d_La_law_423 ck_0 ?_
        exact absurd hf (by decide)
    rw [if_neg h67] at hf
    refine j_case (pc := 39) C d_La_law_39 (z := 9) (off := 386) (tgt := 425) (by decide) rfl (fun h71 => ?_) (fun h71 => ?_)
    · rw [if_pos h71] at hf
      refine j_aload_n (pc := 425) C d_La_law_425 rfl 1 rfl ?_
      refine j_aload_n (pc := 426) C d_La_law_426 rfl 0 rfl ?_
      refine j_iload (pc := 427) C d_La_law_427 4 rfl ?_
      refine j_iconst (pc := 429) C d_La_law_429 ck_1 ?_
      refine j_iadd (pc := 430) C d_La_law_430 ?_
      obtain ⟨b72, hf⟩ := og hf
      refine j_sld (pc := 431) CL d_La_law_431 (inb_in b72) ?_
      refine j_aload_n (pc := 432) C d_La_law_432 rfl 3 rfl ?_
      obtain ⟨q73, eq73, hf⟩ := ob hf
      refine j_callH (pc := 433) C (n := 3) (rest := []) (ws' := wX g ax am ad bd ++ (wM g am q73.2.1.1 q73.2.1.2 ++ (wD g ad q73.2.2.1.1 q73.2.2.1.2 ++ (wD g bd q73.2.2.2.1.1 q73.2.2.2.1.2 ++ (wR g ar x.2.2.2.2.1.1 x.2.2.2.2.1.2.1 x.2.2.2.2.1.2.2 ++ wO g ao q73.2.2.2.2))))) d_La_law_433 (c_La_fault (g := g) (ax := ax) (am := am) (ad := ad) (bd := bd) (ao := ao) eq73) cw_La_fault cv_La_fault.1 cv_La_fault.2 (by decide +kernel) tw754 (cut_blk [wX g ax am ad bd, wM g am x.2.1.1 x.2.1.2, wD g ad x.2.2.1.1 x.2.2.1.2, wD g bd x.2.2.2.1.1 x.2.2.2.1.2, wR g ar x.2.2.2.2.1.1 x.2.2.2.2.1.2.1 x.2.2.2.2.1.2.2, wO g ao x.2.2.2.2.2] [wX g ax am ad bd, wM g am q73.2.1.1 q73.2.1.2, wD g ad q73.2.2.1.1 q73.2.2.1.2, wD g bd q73.2.2.2.1.1 q73.2.2.2.1.2, wR g ar x.2.2.2.2.1.1 x.2.2.2.2.1.2.1 x.2.2.2.2.1.2.2, wO g ao q73.2.2.2.2] [4] [0, 1, 2, 3, 5] rfl rfl rfl rfl rfl rfl rfl) rfl rfl (Nat.le_of_ble_eq_true rfl) (kc2 := 104 + j + 1) (ks2 := 19341 + 6 * j + 6) (by refine ⟨⟨by decide, by decide⟩, ⟨?_, ?_⟩, ?_, ?_⟩ <;> (try dsimp only [room_1]) <;> omega) ?_
      refine j_istore (pc := 436) C d_La_law_436 [1, 2, 3, 4, 5, 0] (by decide) (lc' := [(0, .ref bs), (1, .ref (ax 0)), (2, .ref (ar 0)), (3, .ref (ao 0)), (4, .int x.1), (5, .int q73.1)]) rfl ?_
      refine j_aload_n (pc := 438) C d_La_law_438 rfl 2 rfl ?_
      refine j_aload_n (pc := 439) C d_La_law_439 rfl 0 rfl ?_
      refine j_iload (pc := 440) C d_La_law_440 4 rfl ?_
      refine j_iconst (pc := 442) C d_La_law_442 ck_1 ?_
      refine j_iadd (pc := 443) C d_La_law_443 ?_
      obtain ⟨b74, hf⟩ := og hf
      refine j_sld (pc := 444) CL d_La_law_444 (inb_in b74) ?_
      obtain ⟨q75, eq75, hf⟩ := ob hf
      refine j_callVi (pc := 445) C (rest := []) (ws' := wX g ax am ad bd ++ (wM g am q73.2.1.1 q73.2.1.2 ++ (wD g ad q73.2.2.1.1 q73.2.2.1.2 ++ (wD g bd q73.2.2.2.1.1 q73.2.2.2.1.2 ++ (wR g ar q75.2.1 q75.2.2.1 q75.2.2.2 ++ wO g ao q73.2.2.2.2))))) d_La_law_445 (c_Mo_fault (g := g) (ar := ar) eq75) cv_Mo_fault tw1270 66 rfl rfl (cut_blk [wX g ax am ad bd, wM g am q73.2.1.1 q73.2.1.2, wD g ad q73.2.2.1.1 q73.2.2.1.2, wD g bd q73.2.2.2.1.1 q73.2.2.2.1.2, wR g ar x.2.2.2.2.1.1 x.2.2.2.2.1.2.1 x.2.2.2.2.1.2.2, wO g ao q73.2.2.2.2] [wX g ax am ad bd, wM g am q73.2.1.1 q73.2.1.2, wD g ad q73.2.2.1.1 q73.2.2.1.2, wD g bd q73.2.2.2.1.1 q73.2.2.2.1.2, wR g ar q75.2.1 q75.2.2.1 q75.2.2.2, wO g ao q73.2.2.2.2] [0, 1, 2, 3, 5] [4] rfl rfl rfl rfl rfl rfl rfl) rfl rfl (Nat.le_of_ble_eq_true rfl) (kc2 := 104 + j + 1) (ks2 := 19341 + 6 * j + 6) (by refine ⟨⟨by decide, by decide⟩, ⟨?_, ?_⟩, ?_, ?_⟩ <;> (try dsimp only [room_1]) <;> omega) ?_
      refine j_istore (pc := 448) C d_La_law_448 [1, 2, 3, 4, 5, 6, 0] (by decide) (lc' := [(0, .ref bs), (1, .ref (ax 0)), (2, .ref (ar 0)), (3, .ref (ao 0)), (4, .int x.1), (5, .int q73.1), (6, .int q75.1)]) rfl ?_
      refine j_aload_n (pc := 450) C d_La_law_450 rfl 2 rfl ?_
      obtain ⟨q76, eq76, hf⟩ := ob hf
      refine j_callVi (pc := 451) C (rest := []) (ws' := wX g ax am ad bd ++ (wM g am q73.2.1.1 q73.2.1.2 ++ (wD g ad q73.2.2.1.1 q73.2.2.1.2 ++ (wD g bd q73.2.2.2.1.1 q73.2.2.2.1.2 ++ (wR g ar q76.2.1 q76.2.2.1 q76.2.2.2 ++ wO g ao q73.2.2.2.2))))) d_La_law_451 (c_Mo_thrown (g := g) (ar := ar) eq76) cv_Mo_thrown tw1107 66 rfl rfl (cut_blk [wX g ax am ad bd, wM g am q73.2.1.1 q73.2.1.2, wD g ad q73.2.2.1.1 q73.2.2.1.2, wD g bd q73.2.2.2.1.1 q73.2.2.2.1.2, wR g ar q75.2.1 q75.2.2.1 q75.2.2.2, wO g ao q73.2.2.2.2] [wX g ax am ad bd, wM g am q73.2.1.1 q73.2.1.2, wD g ad q73.2.2.1.1 q73.2.2.1.2, wD g bd q73.2.2.2.1.1 q73.2.2.2.1.2, wR g ar q76.2.1 q76.2.2.1 q76.2.2.2, wO g ao q73.2.2.2.2] [0, 1, 2, 3, 5] [4] rfl rfl rfl rfl rfl rfl rfl) rfl rfl (Nat.le_of_ble_eq_true rfl) (kc2 := 104 + j + 1) (ks2 := 19341 + 6 * j + 6) (by refine ⟨⟨by decide, by decide⟩, ⟨?_, ?_⟩, ?_, ?_⟩ <;> (try dsimp only [room_1]) <;> omega) ?_
      refine j_iload (pc := 454) C d_La_law_454 5 rfl ?_
      refine j_icmp_eq (pc := 456) C d_La_law_456 (tgt := 461) rfl (fun h77 => ?_) (fun h77 => ?_)
      · rw [if_pos h77] at hf
        refine j_iload (pc := 461) C d_La_law_461 5 rfl ?_
        refine j_if_ne (pc := 463) C d_La_law_463 (tgt := 478) rfl (fun h78 => ?_) (fun h78 => ?_)
        · rw [if_neg h78] at hf
          refine j_goto (pc := 478) C d_La_law_478 (tgt := 817) rfl ?_
          refine j_iinc (pc := 817) C d_La_law_817 4 rfl (v := x.1 + 4) (iv ci_4) [1, 2, 3, 4, 0, 5, 6] (by decide) (lc' := [(0, .ref bs), (1, .ref (ax 0)), (2, .ref (ar 0)), (3, .ref (ao 0)), (4, .int (x.1 + 4)), (5, .int q73.1), (6, .int q75.1)]) rfl ?_
          refine j_goto (pc := 820) C d_La_law_820 (tgt := 23) rfl ?_
          refine j_lc C (lc' := [(0, .ref bs), (1, .ref (ax 0)), (2, .ref (ar 0)), (3, .ref (ao 0)), (4, .int (x.1 + 4))]) [0, 1, 2, 3, 4] rfl ?_
          exact j_widen C (by omega) (by omega) (k23_ih (x.1 + 4, q73.2.1, q73.2.2.1, q73.2.2.2.1, q76.2, q73.2.2.2.2) hf (j + 1) ad bd hi.1 hi.2)
        · rw [if_pos h78] at hf
          refine j_aload_n (pc := 466) C d_La_law_466 rfl 3 rfl ?_
          refine j_iconst (pc := 467) C d_La_law_467 ck_0 ?_
          refine j_lald (pc := 468) C d_La_law_468 103 (inb_in (by decide)) (x := q73.2.2.2.2 0) rfl rfl ?_
          refine j_iload (pc := 469) C d_La_law_469 6 rfl ?_
          refine j_i2l (pc := 471) C d_La_law_471 rfl ?_
          refine j_lcmp (pc := 472) C d_La_law_472 ?_
          refine j_if_eq (pc := 473) C d_La_law_473 (tgt := 478) rfl (fun h80 => ?_) (fun h80 => ?_)
          · rw [if_pos h80] at hf
            refine j_goto (pc := 478) C d_La_law_478 (tgt := 817) rfl ?_
            refine j_iinc (pc := 817) C d_La_law_817 4 rfl (v := x.1 + 4) (iv ci_4) [1, 2, 3, 4, 0, 5, 6] (by decide) (lc' := [(0, .ref bs), (1, .ref (ax 0)), (2, .ref (ar 0)), (3, .ref (ao 0)), (4, .int (x.1 + 4)), (5, .int q73.1), (6, .int q75.1)]) rfl ?_
            refine j_goto (pc := 820) C d_La_law_820 (tgt := 23) rfl ?_
            refine j_lc C (lc' := [(0, .ref bs), (1, .ref (ax 0)), (2, .ref (ar 0)), (3, .ref (ao 0)), (4, .int (x.1 + 4))]) [0, 1, 2, 3, 4] rfl ?_
            exact j_widen C (by omega) (by omega) (k23_ih (x.1 + 4, q73.2.1, q73.2.2.1, q73.2.2.2.1, q76.2, q73.2.2.2.2) hf (j + 1) ad bd hi.1 hi.2)
          · rw [if_neg h80] at hf
            refine j_iconst (pc := 476) C d_La_law_476 ck_0 ?_
            exact absurd hf (by decide)
      · rw [if_neg h77] at hf
        refine j_iconst (pc := 459) C d_La_law_459 ck_0 ?_
        exact absurd hf (by decide)
    rw [if_neg h71] at hf
    refine j_case (pc := 39) C d_La_law_39 (z := 10) (off := 442) (tgt := 481) (by decide) rfl (fun h81 => ?_) (fun h81 => ?_)
    · rw [if_pos h81] at hf
      refine j_aload_n (pc := 481) C d_La_law_481 rfl 1 rfl ?_
      refine j_aload_n (pc := 482) C d_La_law_482 rfl 0 rfl ?_
      refine j_iload (pc := 483) C d_La_law_483 4 rfl ?_
      refine j_iconst (pc := 485) C d_La_law_485 ck_1 ?_
      refine j_iadd (pc := 486) C d_La_law_486 ?_
      obtain ⟨b82, hf⟩ := og hf
      refine j_sld (pc := 487) CL d_La_law_487 (inb_in b82) ?_
      refine j_aload_n (pc := 488) C d_La_law_488 rfl 0 rfl ?_
      refine j_iload (pc := 489) C d_La_law_489 4 rfl ?_
      refine j_iconst (pc := 491) C d_La_law_491 ck_2 ?_
      refine j_iadd (pc := 492) C d_La_law_492 ?_
      obtain ⟨b83, hf⟩ := og hf
      refine j_sld (pc := 493) CL d_La_law_493 (inb_in b83) ?_
      refine j_aload_n (pc := 494) C d_La_law_494 rfl 3 rfl ?_
      obtain ⟨q84, eq84, hf⟩ := ob hf
      refine j_callH (pc := 495) C (n := 4) (rest := []) (ws' := wX g ax am ad bd ++ (wM g am q84.2.1.1 q84.2.1.2 ++ (wD g ad q84.2.2.1.1 q84.2.2.1.2 ++ (wD g bd q84.2.2.2.1.1 q84.2.2.2.1.2 ++ (wR g ar x.2.2.2.2.1.1 x.2.2.2.2.1.2.1 x.2.2.2.2.1.2.2 ++ wO g ao q84.2.2.2.2))))) d_La_law_495 (c_La_reference (g := g) (ax := ax) (am := am) (ad := ad) (bd := bd) (ao := ao) eq84) cw_La_reference cv_La_reference.1 cv_La_reference.2 (by decide +kernel) tw761 (cut_blk [wX g ax am ad bd, wM g am x.2.1.1 x.2.1.2, wD g ad x.2.2.1.1 x.2.2.1.2, wD g bd x.2.2.2.1.1 x.2.2.2.1.2, wR g ar x.2.2.2.2.1.1 x.2.2.2.2.1.2.1 x.2.2.2.2.1.2.2, wO g ao x.2.2.2.2.2] [wX g ax am ad bd, wM g am q84.2.1.1 q84.2.1.2, wD g ad q84.2.2.1.1 q84.2.2.1.2, wD g bd q84.2.2.2.1.1 q84.2.2.2.1.2, wR g ar x.2.2.2.2.1.1 x.2.2.2.2.1.2.1 x.2.2.2.2.1.2.2, wO g ao q84.2.2.2.2] [4] [0, 1, 2, 3, 5] rfl rfl rfl rfl rfl rfl rfl) rfl rfl (Nat.le_of_ble_eq_true rfl) (kc2 := 104 + j + 1) (ks2 := 19341 + 6 * j + 6) (by refine ⟨⟨by decide, by decide⟩, ⟨?_, ?_⟩, ?_, ?_⟩ <;> (try dsimp only [room_1]) <;> omega) ?_
      refine j_istore (pc := 498) C d_La_law_498 [1, 2, 3, 4, 5, 0] (by decide) (lc' := [(0, .ref bs), (1, .ref (ax 0)), (2, .ref (ar 0)), (3, .ref (ao 0)), (4, .int x.1), (5, .int q84.1)]) rfl ?_
      refine j_aload_n (pc := 500) C d_La_law_500 rfl 2 rfl ?_
      refine j_aload_n (pc := 501) C d_La_law_501 rfl 0 rfl ?_
      refine j_iload (pc := 502) C d_La_law_502 4 rfl ?_
      refine j_iconst (pc := 504) C d_La_law_504 ck_1 ?_
      refine j_iadd (pc := 505) C d_La_law_505 ?_
      obtain ⟨b85, hf⟩ := og hf
      refine j_sld (pc := 506) CL d_La_law_506 (inb_in b85) ?_
      refine j_aload_n (pc := 507) C d_La_law_507 rfl 0 rfl ?_
      refine j_iload (pc := 508) C d_La_law_508 4 rfl ?_
      refine j_iconst (pc := 510) C d_La_law_510 ck_2 ?_
      refine j_iadd (pc := 511) C d_La_law_511 ?_
      obtain ⟨b86, hf⟩ := og hf
      refine j_sld (pc := 512) CL d_La_law_512 (inb_in b86) ?_
      obtain ⟨q87, eq87, hf⟩ := ob hf
      refine j_callVi (pc := 513) C (rest := []) (ws' := wX g ax am ad bd ++ (wM g am q84.2.1.1 q84.2.1.2 ++ (wD g ad q84.2.2.1.1 q84.2.2.1.2 ++ (wD g bd q84.2.2.2.1.1 q84.2.2.2.1.2 ++ (wR g ar q87.2.1 q87.2.2.1 q87.2.2.2 ++ wO g ao q84.2.2.2.2))))) d_La_law_513 (c_Mo_reference (g := g) (ar := ar) eq87) cv_Mo_reference tw1274 66 rfl rfl (cut_blk [wX g ax am ad bd, wM g am q84.2.1.1 q84.2.1.2, wD g ad q84.2.2.1.1 q84.2.2.1.2, wD g bd q84.2.2.2.1.1 q84.2.2.2.1.2, wR g ar x.2.2.2.2.1.1 x.2.2.2.2.1.2.1 x.2.2.2.2.1.2.2, wO g ao q84.2.2.2.2] [wX g ax am ad bd, wM g am q84.2.1.1 q84.2.1.2, wD g ad q84.2.2.1.1 q84.2.2.1.2, wD g bd q84.2.2.2.1.1 q84.2.2.2.1.2, wR g ar q87.2.1 q87.2.2.1 q87.2.2.2, wO g ao q84.2.2.2.2] [0, 1, 2, 3, 5] [4] rfl rfl rfl rfl rfl rfl rfl) rfl rfl (Nat.le_of_ble_eq_true rfl) (kc2 := 104 + j + 1) (ks2 := 19341 + 6 * j + 6) (by refine ⟨⟨by decide, by decide⟩, ⟨?_, ?_⟩, ?_, ?_⟩ <;> (try dsimp only [room_1]) <;> omega) ?_
      refine j_istore (pc := 516) C d_La_law_516 [1, 2, 3, 4, 5, 6, 0] (by decide) (lc' := [(0, .ref bs), (1, .ref (ax 0)), (2, .ref (ar 0)), (3, .ref (ao 0)), (4, .int x.1), (5, .int q84.1), (6, .int q87.1)]) rfl ?_
      refine j_aload_n (pc := 518) C d_La_law_518 rfl 2 rfl ?_
      obtain ⟨q88, eq88, hf⟩ := ob hf
      refine j_callVi (pc := 519) C (rest := []) (ws' := wX g ax am ad bd ++ (wM g am q84.2.1.1 q84.2.1.2 ++ (wD g ad q84.2.2.1.1 q84.2.2.1.2 ++ (wD g bd q84.2.2.2.1.1 q84.2.2.2.1.2 ++ (wR g ar q88.2.1 q88.2.2.1 q88.2.2.2 ++ wO g ao q84.2.2.2.2))))) d_La_law_519 (c_Mo_thrown (g := g) (ar := ar) eq88) cv_Mo_thrown tw1107 66 rfl rfl (cut_blk [wX g ax am ad bd, wM g am q84.2.1.1 q84.2.1.2, wD g ad q84.2.2.1.1 q84.2.2.1.2, wD g bd q84.2.2.2.1.1 q84.2.2.2.1.2, wR g ar q87.2.1 q87.2.2.1 q87.2.2.2, wO g ao q84.2.2.2.2] [wX g ax am ad bd, wM g am q84.2.1.1 q84.2.1.2, wD g ad q84.2.2.1.1 q84.2.2.1.2, wD g bd q84.2.2.2.1.1 q84.2.2.2.1.2, wR g ar q88.2.1 q88.2.2.1 q88.2.2.2, wO g ao q84.2.2.2.2] [0, 1, 2, 3, 5] [4] rfl rfl rfl rfl rfl rfl rfl) rfl rfl (Nat.le_of_ble_eq_true rfl) (kc2 := 104 + j + 1) (ks2 := 19341 + 6 * j + 6) (by refine ⟨⟨by decide, by decide⟩, ⟨?_, ?_⟩, ?_, ?_⟩ <;> (try dsimp only [room_1]) <;> omega) ?_
      refine j_iload (pc := 522) C d_La_law_522 5 rfl ?_
      refine j_icmp_eq (pc := 524) C d_La_law_524 (tgt := 529) rfl (fun h89 => ?_) (fun h89 => ?_)
      · rw [if_pos h89] at hf
        refine j_iload (pc := 529) C d_La_law_529 5 rfl ?_
        refine j_if_ne (pc := 531) C d_La_law_531 (tgt := 546) rfl (fun h90 => ?_) (fun h90 => ?_)
        · rw [if_neg h90] at hf
          refine j_goto (pc := 546) C d_La_law_546 (tgt := 817) rfl ?_
          refine j_iinc (pc := 817) C d_La_law_817 4 rfl (v := x.1 + 4) (iv ci_4) [1, 2, 3, 4, 0, 5, 6] (by decide) (lc' := [(0, .ref bs), (1, .ref (ax 0)), (2, .ref (ar 0)), (3, .ref (ao 0)), (4, .int (x.1 + 4)), (5, .int q84.1), (6, .int q87.1)]) rfl ?_
          refine j_goto (pc := 820) C d_La_law_820 (tgt := 23) rfl ?_
          refine j_lc C (lc' := [(0, .ref bs), (1, .ref (ax 0)), (2, .ref (ar 0)), (3, .ref (ao 0)), (4, .int (x.1 + 4))]) [0, 1, 2, 3, 4] rfl ?_
          exact j_widen C (by omega) (by omega) (k23_ih (x.1 + 4, q84.2.1, q84.2.2.1, q84.2.2.2.1, q88.2, q84.2.2.2.2) hf (j + 1) ad bd hi.1 hi.2)
        · rw [if_pos h90] at hf
          refine j_aload_n (pc := 534) C d_La_law_534 rfl 3 rfl ?_
          refine j_iconst (pc := 535) C d_La_law_535 ck_0 ?_
          refine j_lald (pc := 536) C d_La_law_536 103 (inb_in (by decide)) (x := q84.2.2.2.2 0) rfl rfl ?_
          refine j_iload (pc := 537) C d_La_law_537 6 rfl ?_
          refine j_i2l (pc := 539) C d_La_law_539 rfl ?_
          refine j_lcmp (pc := 540) C d_La_law_540 ?_
          refine j_if_eq (pc := 541) C d_La_law_541 (tgt := 546) rfl (fun h92 => ?_) (fun h92 => ?_)
          · rw [if_pos h92] at hf
            refine j_goto (pc := 546) C d_La_law_546 (tgt := 817) rfl ?_
            refine j_iinc (pc := 817) C d_La_law_817 4 rfl (v := x.1 + 4) (iv ci_4) [1, 2, 3, 4, 0, 5, 6] (by decide) (lc' := [(0, .ref bs), (1, .ref (ax 0)), (2, .ref (ar 0)), (3, .ref (ao 0)), (4, .int (x.1 + 4)), (5, .int q84.1), (6, .int q87.1)]) rfl ?_
            refine j_goto (pc := 820) C d_La_law_820 (tgt := 23) rfl ?_
            refine j_lc C (lc' := [(0, .ref bs), (1, .ref (ax 0)), (2, .ref (ar 0)), (3, .ref (ao 0)), (4, .int (x.1 + 4))]) [0, 1, 2, 3, 4] rfl ?_
            exact j_widen C (by omega) (by omega) (k23_ih (x.1 + 4, q84.2.1, q84.2.2.1, q84.2.2.2.1, q88.2, q84.2.2.2.2) hf (j + 1) ad bd hi.1 hi.2)
          · rw [if_neg h92] at hf
            refine j_iconst (pc := 544) C d_La_law_544 ck_0 ?_
            exact absurd hf (by decide)
      · rw [if_neg h89] at hf
        refine j_iconst (pc := 527) C d_La_law_527 ck_0 ?_
        exact absurd hf (by decide)
    rw [if_neg h81] at hf
    refine j_case (pc := 39) C d_La_law_39 (z := 11) (off := 510) (tgt := 549) (by decide) rfl (fun h93 => ?_) (fun h93 => ?_)
    · rw [if_pos h93] at hf
      refine j_aload_n (pc := 549) C d_La_law_549 rfl 1 rfl ?_
      refine j_aload_n (pc := 550) C d_La_law_550 rfl 0 rfl ?_
      refine j_iload (pc := 551) C d_La_law_551 4 rfl ?_
      refine j_iconst (pc := 553) C d_La_law_553 ck_1 ?_
      refine j_iadd (pc := 554) C d_La_law_554 ?_
      obtain ⟨b94, hf⟩ := og hf
      refine j_sld (pc := 555) CL d_La_law_555 (inb_in b94) ?_
      refine j_aload_n (pc := 556) C d_La_law_556 rfl 0 rfl ?_
      refine j_iload (pc := 557) C d_La_law_557 4 rfl ?_
      refine j_iconst (pc := 559) C d_La_law_559 ck_2 ?_
      refine j_iadd (pc := 560) C d_La_law_560 ?_
      obtain ⟨b95, hf⟩ := og hf
      refine j_sld (pc := 561) CL d_La_law_561 (inb_in b95) ?_
      refine j_i2l (pc := 562) C d_La_law_562 rfl ?_
      refine j_bipush (pc := 563) C d_La_law_563 cb_32 ?_
      refine j_lshl (pc := 565) C d_La_law_565 ?_
      refine j_topl C (fun v96 ev96 => ?_)
      replace hf := ov ev96 hf
      refine j_aload_n (pc := 566) C d_La_law_566 rfl 0 rfl ?_
      refine j_iload (pc := 567) C d_La_law_567 4 rfl ?_
      refine j_iconst (pc := 569) C d_La_law_569 ck_3 ?_
      refine j_iadd (pc := 570) C d_La_law_570 ?_
      obtain ⟨b97, hf⟩ := og hf
      refine j_sld (pc := 571) CL d_La_law_571 (inb_in b97) ?_
      refine j_i2l (pc := 572) C d_La_law_572 rfl ?_
      refine j_ldc2 (pc := 573) C d_La_law_573 tw1377 ?_
      refine j_land (pc := 576) C d_La_law_576 ?_
      refine j_topl C (fun v98 ev98 => ?_)
      replace hf := ov ev98 hf
      refine j_lor (pc := 577) C d_La_law_577 ?_
      refine j_aload_n (pc := 578) C d_La_law_578 rfl 3 rfl ?_
      obtain ⟨q99, eq99, hf⟩ := ob hf
      by_cases hs : q99.1 = 0
      · refine j_callH (pc := 579) C (n := 4) (rest := []) (ws' := wX g ax am bd ad ++ (wM g am q99.2.1.1 q99.2.1.2 ++ (wD g bd q99.2.2.1.1 q99.2.2.1.2 ++ (wD g ad q99.2.2.2.1.1 q99.2.2.2.1.2 ++ (wR g ar x.2.2.2.2.1.1 x.2.2.2.2.1.2.1 x.2.2.2.2.1.2.2 ++ wO g ao q99.2.2.2.2))))) d_La_law_579 (by have h := c_La_rename (g := g) (ax := ax) (am := am) (ad := ad) (bd := bd) (ao := ao) eq99; rw [swq_pos hs] at h; exact h) cw_La_rename cv_La_rename.1 cv_La_rename.2 (by decide +kernel) tw776 (cut_blk [wX g ax am ad bd, wM g am x.2.1.1 x.2.1.2, wD g ad x.2.2.1.1 x.2.2.1.2, wD g bd x.2.2.2.1.1 x.2.2.2.1.2, wR g ar x.2.2.2.2.1.1 x.2.2.2.2.1.2.1 x.2.2.2.2.1.2.2, wO g ao x.2.2.2.2.2] [wX g ax am bd ad, wM g am q99.2.1.1 q99.2.1.2, wD g bd q99.2.2.1.1 q99.2.2.1.2, wD g ad q99.2.2.2.1.1 q99.2.2.2.1.2, wR g ar x.2.2.2.2.1.1 x.2.2.2.2.1.2.1 x.2.2.2.2.1.2.2, wO g ao q99.2.2.2.2] [4] [0, 1, 2, 3, 5] rfl rfl rfl rfl rfl rfl rfl) rfl rfl (Nat.le_of_ble_eq_true rfl) (kc2 := 104 + j + 1) (ks2 := 19341 + 6 * j + 6) (by refine ⟨⟨by decide, by decide⟩, ⟨?_, ?_⟩, ?_, ?_⟩ <;> (try dsimp only [room_1]) <;> omega) ?_
        refine j_istore (pc := 582) C d_La_law_582 [1, 2, 3, 4, 5, 0] (by decide) (lc' := [(0, .ref bs), (1, .ref (ax 0)), (2, .ref (ar 0)), (3, .ref (ao 0)), (4, .int x.1), (5, .int q99.1)]) rfl ?_
        refine j_aload_n (pc := 584) C d_La_law_584 rfl 2 rfl ?_
        refine j_aload_n (pc := 585) C d_La_law_585 rfl 0 rfl ?_
        refine j_iload (pc := 586) C d_La_law_586 4 rfl ?_
        refine j_iconst (pc := 588) C d_La_law_588 ck_1 ?_
        refine j_iadd (pc := 589) C d_La_law_589 ?_
        obtain ⟨b100, hf⟩ := og hf
        refine j_sld (pc := 590) CL d_La_law_590 (inb_in b100) ?_
        refine j_aload_n (pc := 591) C d_La_law_591 rfl 0 rfl ?_
        refine j_iload (pc := 592) C d_La_law_592 4 rfl ?_
        refine j_iconst (pc := 594) C d_La_law_594 ck_2 ?_
        refine j_iadd (pc := 595) C d_La_law_595 ?_
        obtain ⟨b101, hf⟩ := og hf
        refine j_sld (pc := 596) CL d_La_law_596 (inb_in b101) ?_
        refine j_i2l (pc := 597) C d_La_law_597 rfl ?_
        refine j_bipush (pc := 598) C d_La_law_598 cb_32 ?_
        refine j_lshl (pc := 600) C d_La_law_600 ?_
        refine j_topl C (fun v102 ev102 => ?_)
        replace hf := ov ev102 hf
        refine j_aload_n (pc := 601) C d_La_law_601 rfl 0 rfl ?_
        refine j_iload (pc := 602) C d_La_law_602 4 rfl ?_
        refine j_iconst (pc := 604) C d_La_law_604 ck_3 ?_
        refine j_iadd (pc := 605) C d_La_law_605 ?_
        obtain ⟨b103, hf⟩ := og hf
        refine j_sld (pc := 606) CL d_La_law_606 (inb_in b103) ?_
        refine j_i2l (pc := 607) C d_La_law_607 rfl ?_
        refine j_ldc2 (pc := 608) C d_La_law_608 tw1377 ?_
        refine j_land (pc := 611) C d_La_law_611 ?_
        refine j_topl C (fun v104 ev104 => ?_)
        replace hf := ov ev104 hf
        refine j_lor (pc := 612) C d_La_law_612 ?_
        obtain ⟨q105, eq105, hf⟩ := ob hf
        refine j_callVi (pc := 613) C (rest := []) (ws' := wX g ax am bd ad ++ (wM g am q99.2.1.1 q99.2.1.2 ++ (wD g bd q99.2.2.1.1 q99.2.2.1.2 ++ (wD g ad q99.2.2.2.1.1 q99.2.2.2.1.2 ++ (wR g ar q105.2.1 q105.2.2.1 q105.2.2.2 ++ wO g ao q99.2.2.2.2))))) d_La_law_613 (c_Mo_rename (g := g) (ar := ar) eq105) cv_Mo_rename tw1282 66 rfl rfl (cut_blk [wX g ax am bd ad, wM g am q99.2.1.1 q99.2.1.2, wD g bd q99.2.2.1.1 q99.2.2.1.2, wD g ad q99.2.2.2.1.1 q99.2.2.2.1.2, wR g ar x.2.2.2.2.1.1 x.2.2.2.2.1.2.1 x.2.2.2.2.1.2.2, wO g ao q99.2.2.2.2] [wX g ax am bd ad, wM g am q99.2.1.1 q99.2.1.2, wD g bd q99.2.2.1.1 q99.2.2.1.2, wD g ad q99.2.2.2.1.1 q99.2.2.2.1.2, wR g ar q105.2.1 q105.2.2.1 q105.2.2.2, wO g ao q99.2.2.2.2] [0, 1, 2, 3, 5] [4] rfl rfl rfl rfl rfl rfl rfl) rfl rfl (Nat.le_of_ble_eq_true rfl) (kc2 := 104 + j + 1) (ks2 := 19341 + 6 * j + 6) (by refine ⟨⟨by decide, by decide⟩, ⟨?_, ?_⟩, ?_, ?_⟩ <;> (try dsimp only [room_1]) <;> omega) ?_
        refine j_istore (pc := 616) C d_La_law_616 [1, 2, 3, 4, 5, 6, 0] (by decide) (lc' := [(0, .ref bs), (1, .ref (ax 0)), (2, .ref (ar 0)), (3, .ref (ao 0)), (4, .int x.1), (5, .int q99.1), (6, .int q105.1)]) rfl ?_
        refine j_aload_n (pc := 618) C d_La_law_618 rfl 2 rfl ?_
        obtain ⟨q106, eq106, hf⟩ := ob hf
        refine j_callVi (pc := 619) C (rest := []) (ws' := wX g ax am bd ad ++ (wM g am q99.2.1.1 q99.2.1.2 ++ (wD g bd q99.2.2.1.1 q99.2.2.1.2 ++ (wD g ad q99.2.2.2.1.1 q99.2.2.2.1.2 ++ (wR g ar q106.2.1 q106.2.2.1 q106.2.2.2 ++ wO g ao q99.2.2.2.2))))) d_La_law_619 (c_Mo_thrown (g := g) (ar := ar) eq106) cv_Mo_thrown tw1107 66 rfl rfl (cut_blk [wX g ax am bd ad, wM g am q99.2.1.1 q99.2.1.2, wD g bd q99.2.2.1.1 q99.2.2.1.2, wD g ad q99.2.2.2.1.1 q99.2.2.2.1.2, wR g ar q105.2.1 q105.2.2.1 q105.2.2.2, wO g ao q99.2.2.2.2] [wX g ax am bd ad, wM g am q99.2.1.1 q99.2.1.2, wD g bd q99.2.2.1.1 q99.2.2.1.2, wD g ad q99.2.2.2.1.1 q99.2.2.2.1.2, wR g ar q106.2.1 q106.2.2.1 q106.2.2.2, wO g ao q99.2.2.2.2] [0, 1, 2, 3, 5] [4] rfl rfl rfl rfl rfl rfl rfl) rfl rfl (Nat.le_of_ble_eq_true rfl) (kc2 := 104 + j + 1) (ks2 := 19341 + 6 * j + 6) (by refine ⟨⟨by decide, by decide⟩, ⟨?_, ?_⟩, ?_, ?_⟩ <;> (try dsimp only [room_1]) <;> omega) ?_
        refine j_iload (pc := 622) C d_La_law_622 5 rfl ?_
        refine j_icmp_eq (pc := 624) C d_La_law_624 (tgt := 629) rfl (fun h107 => ?_) (fun h107 => ?_)
        · rw [if_pos h107] at hf
          refine j_iload (pc := 629) C d_La_law_629 5 rfl ?_
          refine j_if_ne (pc := 631) C d_La_law_631 (tgt := 646) rfl (fun h108 => ?_) (fun h108 => ?_)
          · rw [if_neg h108] at hf
            refine j_goto (pc := 646) C d_La_law_646 (tgt := 817) rfl ?_
            refine j_iinc (pc := 817) C d_La_law_817 4 rfl (v := x.1 + 4) (iv ci_4) [1, 2, 3, 4, 0, 5, 6] (by decide) (lc' := [(0, .ref bs), (1, .ref (ax 0)), (2, .ref (ar 0)), (3, .ref (ao 0)), (4, .int (x.1 + 4)), (5, .int q99.1), (6, .int q105.1)]) rfl ?_
            refine j_goto (pc := 820) C d_La_law_820 (tgt := 23) rfl ?_
            refine j_lc C (lc' := [(0, .ref bs), (1, .ref (ax 0)), (2, .ref (ar 0)), (3, .ref (ao 0)), (4, .int (x.1 + 4))]) [0, 1, 2, 3, 4] rfl ?_
            exact j_widen C (by omega) (by omega) (k23_ih (x.1 + 4, q99.2.1, q99.2.2.1, q99.2.2.2.1, q106.2, q99.2.2.2.2) hf (j + 1) bd ad hi.1 hi.2)
          · rw [if_pos h108] at hf
            refine j_aload_n (pc := 634) C d_La_law_634 rfl 3 rfl ?_
            refine j_iconst (pc := 635) C d_La_law_635 ck_0 ?_
            refine j_lald (pc := 636) C d_La_law_636 103 (inb_in (by decide)) (x := q99.2.2.2.2 0) rfl rfl ?_
            refine j_iload (pc := 637) C d_La_law_637 6 rfl ?_
            refine j_i2l (pc := 639) C d_La_law_639 rfl ?_
            refine j_lcmp (pc := 640) C d_La_law_640 ?_
            refine j_if_eq (pc := 641) C d_La_law_641 (tgt := 646) rfl (fun h110 => ?_) (fun h110 => ?_)
            · rw [if_pos h110] at hf
              refine j_goto (pc := 646) C d_La_law_646 (tgt := 817) rfl ?_
              refine j_iinc (pc := 817) C d_La_law_817 4 rfl (v := x.1 + 4) (iv ci_4) [1, 2, 3, 4, 0, 5, 6] (by decide) (lc' := [(0, .ref bs), (1, .ref (ax 0)), (2, .ref (ar 0)), (3, .ref (ao 0)), (4, .int (x.1 + 4)), (5, .int q99.1), (6, .int q105.1)]) rfl ?_
              refine j_goto (pc := 820) C d_La_law_820 (tgt := 23) rfl ?_
              refine j_lc C (lc' := [(0, .ref bs), (1, .ref (ax 0)), (2, .ref (ar 0)), (3, .ref (ao 0)), (4, .int (x.1 + 4))]) [0, 1, 2, 3, 4] rfl ?_
              exact j_widen C (by omega) (by omega) (k23_ih (x.1 + 4, q99.2.1, q99.2.2.1, q99.2.2.2.1, q106.2, q99.2.2.2.2) hf (j + 1) bd ad hi.1 hi.2)
            · rw [if_neg h110] at hf
              refine j_iconst (pc := 644) C d_La_law_644 ck_0 ?_
              exact absurd hf (by decide)
        · rw [if_neg h107] at hf
          refine j_iconst (pc := 627) C d_La_law_627 ck_0 ?_
          exact absurd hf (by decide)
      · refine j_callH (pc := 579) C (n := 4) (rest := []) (ws' := wX g ax am ad bd ++ (wM g am q99.2.1.1 q99.2.1.2 ++ (wD g ad q99.2.2.1.1 q99.2.2.1.2 ++ (wD g bd q99.2.2.2.1.1 q99.2.2.2.1.2 ++ (wR g ar x.2.2.2.2.1.1 x.2.2.2.2.1.2.1 x.2.2.2.2.1.2.2 ++ wO g ao q99.2.2.2.2))))) d_La_law_579 (by have h := c_La_rename (g := g) (ax := ax) (am := am) (ad := ad) (bd := bd) (ao := ao) eq99; rw [swq_neg hs] at h; exact h) cw_La_rename cv_La_rename.1 cv_La_rename.2 (by decide +kernel) tw776 (cut_blk [wX g ax am ad bd, wM g am x.2.1.1 x.2.1.2, wD g ad x.2.2.1.1 x.2.2.1.2, wD g bd x.2.2.2.1.1 x.2.2.2.1.2, wR g ar x.2.2.2.2.1.1 x.2.2.2.2.1.2.1 x.2.2.2.2.1.2.2, wO g ao x.2.2.2.2.2] [wX g ax am ad bd, wM g am q99.2.1.1 q99.2.1.2, wD g ad q99.2.2.1.1 q99.2.2.1.2, wD g bd q99.2.2.2.1.1 q99.2.2.2.1.2, wR g ar x.2.2.2.2.1.1 x.2.2.2.2.1.2.1 x.2.2.2.2.1.2.2, wO g ao q99.2.2.2.2] [4] [0, 1, 2, 3, 5] rfl rfl rfl rfl rfl rfl rfl) rfl rfl (Nat.le_of_ble_eq_true rfl) (kc2 := 104 + j + 1) (ks2 := 19341 + 6 * j + 6) (by refine ⟨⟨by decide, by decide⟩, ⟨?_, ?_⟩, ?_, ?_⟩ <;> (try dsimp only [room_1]) <;> omega) ?_
        refine j_istore (pc := 582) C d_La_law_582 [1, 2, 3, 4, 5, 0] (by decide) (lc' := [(0, .ref bs), (1, .ref (ax 0)), (2, .ref (ar 0)), (3, .ref (ao 0)), (4, .int x.1), (5, .int q99.1)]) rfl ?_
        refine j_aload_n (pc := 584) C d_La_law_584 rfl 2 rfl ?_
        refine j_aload_n (pc := 585) C d_La_law_585 rfl 0 rfl ?_
        refine j_iload (pc := 586) C d_La_law_586 4 rfl ?_
        refine j_iconst (pc := 588) C d_La_law_588 ck_1 ?_
        refine j_iadd (pc := 589) C d_La_law_589 ?_
        obtain ⟨b100, hf⟩ := og hf
        refine j_sld (pc := 590) CL d_La_law_590 (inb_in b100) ?_
        refine j_aload_n (pc := 591) C d_La_law_591 rfl 0 rfl ?_
        refine j_iload (pc := 592) C d_La_law_592 4 rfl ?_
        refine j_iconst (pc := 594) C d_La_law_594 ck_2 ?_
        refine j_iadd (pc := 595) C d_La_law_595 ?_
        obtain ⟨b101, hf⟩ := og hf
        refine j_sld (pc := 596) CL d_La_law_596 (inb_in b101) ?_
        refine j_i2l (pc := 597) C d_La_law_597 rfl ?_
        refine j_bipush (pc := 598) C d_La_law_598 cb_32 ?_
        refine j_lshl (pc := 600) C d_La_law_600 ?_
        refine j_topl C (fun v102 ev102 => ?_)
        replace hf := ov ev102 hf
        refine j_aload_n (pc := 601) C d_La_law_601 rfl 0 rfl ?_
        refine j_iload (pc := 602) C d_La_law_602 4 rfl ?_
        refine j_iconst (pc := 604) C d_La_law_604 ck_3 ?_
        refine j_iadd (pc := 605) C d_La_law_605 ?_
        obtain ⟨b103, hf⟩ := og hf
        refine j_sld (pc := 606) CL d_La_law_606 (inb_in b103) ?_
        refine j_i2l (pc := 607) C d_La_law_607 rfl ?_
        refine j_ldc2 (pc := 608) C d_La_law_608 tw1377 ?_
        refine j_land (pc := 611) C d_La_law_611 ?_
        refine j_topl C (fun v104 ev104 => ?_)
        replace hf := ov ev104 hf
        refine j_lor (pc := 612) C d_La_law_612 ?_
        obtain ⟨q105, eq105, hf⟩ := ob hf
        refine j_callVi (pc := 613) C (rest := []) (ws' := wX g ax am ad bd ++ (wM g am q99.2.1.1 q99.2.1.2 ++ (wD g ad q99.2.2.1.1 q99.2.2.1.2 ++ (wD g bd q99.2.2.2.1.1 q99.2.2.2.1.2 ++ (wR g ar q105.2.1 q105.2.2.1 q105.2.2.2 ++ wO g ao q99.2.2.2.2))))) d_La_law_613 (c_Mo_rename (g := g) (ar := ar) eq105) cv_Mo_rename tw1282 66 rfl rfl (cut_blk [wX g ax am ad bd, wM g am q99.2.1.1 q99.2.1.2, wD g ad q99.2.2.1.1 q99.2.2.1.2, wD g bd q99.2.2.2.1.1 q99.2.2.2.1.2, wR g ar x.2.2.2.2.1.1 x.2.2.2.2.1.2.1 x.2.2.2.2.1.2.2, wO g ao q99.2.2.2.2] [wX g ax am ad bd, wM g am q99.2.1.1 q99.2.1.2, wD g ad q99.2.2.1.1 q99.2.2.1.2, wD g bd q99.2.2.2.1.1 q99.2.2.2.1.2, wR g ar q105.2.1 q105.2.2.1 q105.2.2.2, wO g ao q99.2.2.2.2] [0, 1, 2, 3, 5] [4] rfl rfl rfl rfl rfl rfl rfl) rfl rfl (Nat.le_of_ble_eq_true rfl) (kc2 := 104 + j + 1) (ks2 := 19341 + 6 * j + 6) (by refine ⟨⟨by decide, by decide⟩, ⟨?_, ?_⟩, ?_, ?_⟩ <;> (try dsimp only [room_1]) <;> omega) ?_
        refine j_istore (pc := 616) C d_La_law_616 [1, 2, 3, 4, 5, 6, 0] (by decide) (lc' := [(0, .ref bs), (1, .ref (ax 0)), (2, .ref (ar 0)), (3, .ref (ao 0)), (4, .int x.1), (5, .int q99.1), (6, .int q105.1)]) rfl ?_
        refine j_aload_n (pc := 618) C d_La_law_618 rfl 2 rfl ?_
        obtain ⟨q106, eq106, hf⟩ := ob hf
        refine j_callVi (pc := 619) C (rest := []) (ws' := wX g ax am ad bd ++ (wM g am q99.2.1.1 q99.2.1.2 ++ (wD g ad q99.2.2.1.1 q99.2.2.1.2 ++ (wD g bd q99.2.2.2.1.1 q99.2.2.2.1.2 ++ (wR g ar q106.2.1 q106.2.2.1 q106.2.2.2 ++ wO g ao q99.2.2.2.2))))) d_La_law_619 (c_Mo_thrown (g := g) (ar := ar) eq106) cv_Mo_thrown tw1107 66 rfl rfl (cut_blk [wX g ax am ad bd, wM g am q99.2.1.1 q99.2.1.2, wD g ad q99.2.2.1.1 q99.2.2.1.2, wD g bd q99.2.2.2.1.1 q99.2.2.2.1.2, wR g ar q105.2.1 q105.2.2.1 q105.2.2.2, wO g ao q99.2.2.2.2] [wX g ax am ad bd, wM g am q99.2.1.1 q99.2.1.2, wD g ad q99.2.2.1.1 q99.2.2.1.2, wD g bd q99.2.2.2.1.1 q99.2.2.2.1.2, wR g ar q106.2.1 q106.2.2.1 q106.2.2.2, wO g ao q99.2.2.2.2] [0, 1, 2, 3, 5] [4] rfl rfl rfl rfl rfl rfl rfl) rfl rfl (Nat.le_of_ble_eq_true rfl) (kc2 := 104 + j + 1) (ks2 := 19341 + 6 * j + 6) (by refine ⟨⟨by decide, by decide⟩, ⟨?_, ?_⟩, ?_, ?_⟩ <;> (try dsimp only [room_1]) <;> omega) ?_
        refine j_iload (pc := 622) C d_La_law_622 5 rfl ?_
        refine j_icmp_eq (pc := 624) C d_La_law_624 (tgt := 629) rfl (fun h107 => ?_) (fun h107 => ?_)
        · rw [if_pos h107] at hf
          refine j_iload (pc := 629) C d_La_law_629 5 rfl ?_
          refine j_if_ne (pc := 631) C d_La_law_631 (tgt := 646) rfl (fun h108 => ?_) (fun h108 => ?_)
          · rw [if_neg h108] at hf
            refine j_goto (pc := 646) C d_La_law_646 (tgt := 817) rfl ?_
            refine j_iinc (pc := 817) C d_La_law_817 4 rfl (v := x.1 + 4) (iv ci_4) [1, 2, 3, 4, 0, 5, 6] (by decide) (lc' := [(0, .ref bs), (1, .ref (ax 0)), (2, .ref (ar 0)), (3, .ref (ao 0)), (4, .int (x.1 + 4)), (5, .int q99.1), (6, .int q105.1)]) rfl ?_
            refine j_goto (pc := 820) C d_La_law_820 (tgt := 23) rfl ?_
            refine j_lc C (lc' := [(0, .ref bs), (1, .ref (ax 0)), (2, .ref (ar 0)), (3, .ref (ao 0)), (4, .int (x.1 + 4))]) [0, 1, 2, 3, 4] rfl ?_
            exact j_widen C (by omega) (by omega) (k23_ih (x.1 + 4, q99.2.1, q99.2.2.1, q99.2.2.2.1, q106.2, q99.2.2.2.2) hf (j + 1) ad bd hi.1 hi.2)
          · rw [if_pos h108] at hf
            refine j_aload_n (pc := 634) C d_La_law_634 rfl 3 rfl ?_
            refine j_iconst (pc := 635) C d_La_law_635 ck_0 ?_
            refine j_lald (pc := 636) C d_La_law_636 103 (inb_in (by decide)) (x := q99.2.2.2.2 0) rfl rfl ?_
            refine j_iload (pc := 637) C d_La_law_637 6 rfl ?_
            refine j_i2l (pc := 639) C d_La_law_639 rfl ?_
            refine j_lcmp (pc := 640) C d_La_law_640 ?_
            refine j_if_eq (pc := 641) C d_La_law_641 (tgt := 646) rfl (fun h110 => ?_) (fun h110 => ?_)
            · rw [if_pos h110] at hf
              refine j_goto (pc := 646) C d_La_law_646 (tgt := 817) rfl ?_
              refine j_iinc (pc := 817) C d_La_law_817 4 rfl (v := x.1 + 4) (iv ci_4) [1, 2, 3, 4, 0, 5, 6] (by decide) (lc' := [(0, .ref bs), (1, .ref (ax 0)), (2, .ref (ar 0)), (3, .ref (ao 0)), (4, .int (x.1 + 4)), (5, .int q99.1), (6, .int q105.1)]) rfl ?_
              refine j_goto (pc := 820) C d_La_law_820 (tgt := 23) rfl ?_
              refine j_lc C (lc' := [(0, .ref bs), (1, .ref (ax 0)), (2, .ref (ar 0)), (3, .ref (ao 0)), (4, .int (x.1 + 4))]) [0, 1, 2, 3, 4] rfl ?_
              exact j_widen C (by omega) (by omega) (k23_ih (x.1 + 4, q99.2.1, q99.2.2.1, q99.2.2.2.1, q106.2, q99.2.2.2.2) hf (j + 1) ad bd hi.1 hi.2)
            · rw [if_neg h110] at hf
              refine j_iconst (pc := 644) C d_La_law_644 ck_0 ?_
              exact absurd hf (by decide)
        · rw [if_neg h107] at hf
          refine j_iconst (pc := 627) C d_La_law_627 ck_0 ?_
          exact absurd hf (by decide)
    rw [if_neg h93] at hf
    refine j_case (pc := 39) C d_La_law_39 (z := 12) (off := 610) (tgt := 649) (by decide) rfl (fun h111 => ?_) (fun h111 => ?_)
    · rw [if_pos h111] at hf
      refine j_aload_n (pc := 649) C d_La_law_649 rfl 1 rfl ?_
      refine j_aload_n (pc := 650) C d_La_law_650 rfl 0 rfl ?_
      refine j_iload (pc := 651) C d_La_law_651 4 rfl ?_
      refine j_iconst (pc := 653) C d_La_law_653 ck_1 ?_
      refine j_iadd (pc := 654) C d_La_law_654 ?_
      obtain ⟨b112, hf⟩ := og hf
      refine j_sld (pc := 655) CL d_La_law_655 (inb_in b112) ?_
      refine j_aload_n (pc := 656) C d_La_law_656 rfl 3 rfl ?_
      obtain ⟨q113, eq113, hf⟩ := ob hf
      by_cases hs : q113.1 = 0
      · refine j_callH (pc := 657) C (n := 3) (rest := []) (ws' := wX g ax am bd ad ++ (wM g am q113.2.1.1 q113.2.1.2 ++ (wD g bd q113.2.2.1.1 q113.2.2.1.2 ++ (wD g ad q113.2.2.2.1.1 q113.2.2.2.1.2 ++ (wR g ar x.2.2.2.2.1.1 x.2.2.2.2.1.2.1 x.2.2.2.2.1.2.2 ++ wO g ao q113.2.2.2.2))))) d_La_law_657 (by have h := c_La_inline (g := g) (ax := ax) (am := am) (ad := ad) (bd := bd) (ao := ao) eq113; rw [swq_pos hs] at h; exact h) cw_La_inline cv_La_inline.1 cv_La_inline.2 (by decide +kernel) tw827 (cut_blk [wX g ax am ad bd, wM g am x.2.1.1 x.2.1.2, wD g ad x.2.2.1.1 x.2.2.1.2, wD g bd x.2.2.2.1.1 x.2.2.2.1.2, wR g ar x.2.2.2.2.1.1 x.2.2.2.2.1.2.1 x.2.2.2.2.1.2.2, wO g ao x.2.2.2.2.2] [wX g ax am bd ad, wM g am q113.2.1.1 q113.2.1.2, wD g bd q113.2.2.1.1 q113.2.2.1.2, wD g ad q113.2.2.2.1.1 q113.2.2.2.1.2, wR g ar x.2.2.2.2.1.1 x.2.2.2.2.1.2.1 x.2.2.2.2.1.2.2, wO g ao q113.2.2.2.2] [4] [0, 1, 2, 3, 5] rfl rfl rfl rfl rfl rfl rfl) rfl rfl (Nat.le_of_ble_eq_true rfl) (kc2 := 104 + j + 1) (ks2 := 19341 + 6 * j + 6) (by refine ⟨⟨by decide, by decide⟩, ⟨?_, ?_⟩, ?_, ?_⟩ <;> (try dsimp only [room_1]) <;> omega) ?_
        refine j_istore (pc := 660) C d_La_law_660 [1, 2, 3, 4, 5, 0] (by decide) (lc' := [(0, .ref bs), (1, .ref (ax 0)), (2, .ref (ar 0)), (3, .ref (ao 0)), (4, .int x.1), (5, .int q113.1)]) rfl ?_
        refine j_aload_n (pc := 662) C d_La_law_662 rfl 2 rfl ?_
        refine j_aload_n (pc := 663) C d_La_law_663 rfl 0 rfl ?_
        refine j_iload (pc := 664) C d_La_law_664 4 rfl ?_
        refine j_iconst (pc := 666) C d_La_law_666 ck_1 ?_
        refine j_iadd (pc := 667) C d_La_law_667 ?_
        obtain ⟨b114, hf⟩ := og hf
        refine j_sld (pc := 668) CL d_La_law_668 (inb_in b114) ?_
        obtain ⟨q115, eq115, hf⟩ := ob hf
        refine j_callVi (pc := 669) C (rest := []) (ws' := wX g ax am bd ad ++ (wM g am q113.2.1.1 q113.2.1.2 ++ (wD g bd q113.2.2.1.1 q113.2.2.1.2 ++ (wD g ad q113.2.2.2.1.1 q113.2.2.2.1.2 ++ (wR g ar q115.2.1 q115.2.2.1 q115.2.2.2 ++ wO g ao q113.2.2.2.2))))) d_La_law_669 (c_Mo_inline (g := g) (ar := ar) eq115) cv_Mo_inline tw1306 66 rfl rfl (cut_blk [wX g ax am bd ad, wM g am q113.2.1.1 q113.2.1.2, wD g bd q113.2.2.1.1 q113.2.2.1.2, wD g ad q113.2.2.2.1.1 q113.2.2.2.1.2, wR g ar x.2.2.2.2.1.1 x.2.2.2.2.1.2.1 x.2.2.2.2.1.2.2, wO g ao q113.2.2.2.2] [wX g ax am bd ad, wM g am q113.2.1.1 q113.2.1.2, wD g bd q113.2.2.1.1 q113.2.2.1.2, wD g ad q113.2.2.2.1.1 q113.2.2.2.1.2, wR g ar q115.2.1 q115.2.2.1 q115.2.2.2, wO g ao q113.2.2.2.2] [0, 1, 2, 3, 5] [4] rfl rfl rfl rfl rfl rfl rfl) rfl rfl (Nat.le_of_ble_eq_true rfl) (kc2 := 104 + j + 1) (ks2 := 19341 + 6 * j + 6) (by refine ⟨⟨by decide, by decide⟩, ⟨?_, ?_⟩, ?_, ?_⟩ <;> (try dsimp only [room_1]) <;> omega) ?_
        refine j_istore (pc := 672) C d_La_law_672 [1, 2, 3, 4, 5, 6, 0] (by decide) (lc' := [(0, .ref bs), (1, .ref (ax 0)), (2, .ref (ar 0)), (3, .ref (ao 0)), (4, .int x.1), (5, .int q113.1), (6, .int q115.1)]) rfl ?_
        refine j_aload_n (pc := 674) C d_La_law_674 rfl 2 rfl ?_
        obtain ⟨q116, eq116, hf⟩ := ob hf
        refine j_callVi (pc := 675) C (rest := []) (ws' := wX g ax am bd ad ++ (wM g am q113.2.1.1 q113.2.1.2 ++ (wD g bd q113.2.2.1.1 q113.2.2.1.2 ++ (wD g ad q113.2.2.2.1.1 q113.2.2.2.1.2 ++ (wR g ar q116.2.1 q116.2.2.1 q116.2.2.2 ++ wO g ao q113.2.2.2.2))))) d_La_law_675 (c_Mo_thrown (g := g) (ar := ar) eq116) cv_Mo_thrown tw1107 66 rfl rfl (cut_blk [wX g ax am bd ad, wM g am q113.2.1.1 q113.2.1.2, wD g bd q113.2.2.1.1 q113.2.2.1.2, wD g ad q113.2.2.2.1.1 q113.2.2.2.1.2, wR g ar q115.2.1 q115.2.2.1 q115.2.2.2, wO g ao q113.2.2.2.2] [wX g ax am bd ad, wM g am q113.2.1.1 q113.2.1.2, wD g bd q113.2.2.1.1 q113.2.2.1.2, wD g ad q113.2.2.2.1.1 q113.2.2.2.1.2, wR g ar q116.2.1 q116.2.2.1 q116.2.2.2, wO g ao q113.2.2.2.2] [0, 1, 2, 3, 5] [4] rfl rfl rfl rfl rfl rfl rfl) rfl rfl (Nat.le_of_ble_eq_true rfl) (kc2 := 104 + j + 1) (ks2 := 19341 + 6 * j + 6) (by refine ⟨⟨by decide, by decide⟩, ⟨?_, ?_⟩, ?_, ?_⟩ <;> (try dsimp only [room_1]) <;> omega) ?_
        refine j_iload (pc := 678) C d_La_law_678 5 rfl ?_
        refine j_icmp_eq (pc := 680) C d_La_law_680 (tgt := 685) rfl (fun h117 => ?_) (fun h117 => ?_)
        · rw [if_pos h117] at hf
          refine j_iload (pc := 685) C d_La_law_685 5 rfl ?_
          refine j_if_ne (pc := 687) C d_La_law_687 (tgt := 702) rfl (fun h118 => ?_) (fun h118 => ?_)
          · rw [if_neg h118] at hf
            refine j_goto (pc := 702) C d_La_law_702 (tgt := 817) rfl ?_
            refine j_iinc (pc := 817) C d_La_law_817 4 rfl (v := x.1 + 4) (iv ci_4) [1, 2, 3, 4, 0, 5, 6] (by decide) (lc' := [(0, .ref bs), (1, .ref (ax 0)), (2, .ref (ar 0)), (3, .ref (ao 0)), (4, .int (x.1 + 4)), (5, .int q113.1), (6, .int q115.1)]) rfl ?_
            refine j_goto (pc := 820) C d_La_law_820 (tgt := 23) rfl ?_
            refine j_lc C (lc' := [(0, .ref bs), (1, .ref (ax 0)), (2, .ref (ar 0)), (3, .ref (ao 0)), (4, .int (x.1 + 4))]) [0, 1, 2, 3, 4] rfl ?_
            exact j_widen C (by omega) (by omega) (k23_ih (x.1 + 4, q113.2.1, q113.2.2.1, q113.2.2.2.1, q116.2, q113.2.2.2.2) hf (j + 1) bd ad hi.1 hi.2)
          · rw [if_pos h118] at hf
            refine j_aload_n (pc := 690) C d_La_law_690 rfl 3 rfl ?_
            refine j_iconst (pc := 691) C d_La_law_691 ck_0 ?_
            refine j_lald (pc := 692) C d_La_law_692 103 (inb_in (by decide)) (x := q113.2.2.2.2 0) rfl rfl ?_
            refine j_iload (pc := 693) C d_La_law_693 6 rfl ?_
            refine j_i2l (pc := 695) C d_La_law_695 rfl ?_
            refine j_lcmp (pc := 696) C d_La_law_696 ?_
            refine j_if_eq (pc := 697) C d_La_law_697 (tgt := 702) rfl (fun h120 => ?_) (fun h120 => ?_)
            · rw [if_pos h120] at hf
              refine j_goto (pc := 702) C d_La_law_702 (tgt := 817) rfl ?_
              refine j_iinc (pc := 817) C d_La_law_817 4 rfl (v := x.1 + 4) (iv ci_4) [1, 2, 3, 4, 0, 5, 6] (by decide) (lc' := [(0, .ref bs), (1, .ref (ax 0)), (2, .ref (ar 0)), (3, .ref (ao 0)), (4, .int (x.1 + 4)), (5, .int q113.1), (6, .int q115.1)]) rfl ?_
              refine j_goto (pc := 820) C d_La_law_820 (tgt := 23) rfl ?_
              refine j_lc C (lc' := [(0, .ref bs), (1, .ref (ax 0)), (2, .ref (ar 0)), (3, .ref (ao 0)), (4, .int (x.1 + 4))]) [0, 1, 2, 3, 4] rfl ?_
              exact j_widen C (by omega) (by omega) (k23_ih (x.1 + 4, q113.2.1, q113.2.2.1, q113.2.2.2.1, q116.2, q113.2.2.2.2) hf (j + 1) bd ad hi.1 hi.2)
            · rw [if_neg h120] at hf
              refine j_iconst (pc := 700) C d_La_law_700 ck_0 ?_
              exact absurd hf (by decide)
        · rw [if_neg h117] at hf
          refine j_iconst (pc := 683) C d_La_law_683 ck_0 ?_
          exact absurd hf (by decide)
      · refine j_callH (pc := 657) C (n := 3) (rest := []) (ws' := wX g ax am ad bd ++ (wM g am q113.2.1.1 q113.2.1.2 ++ (wD g ad q113.2.2.1.1 q113.2.2.1.2 ++ (wD g bd q113.2.2.2.1.1 q113.2.2.2.1.2 ++ (wR g ar x.2.2.2.2.1.1 x.2.2.2.2.1.2.1 x.2.2.2.2.1.2.2 ++ wO g ao q113.2.2.2.2))))) d_La_law_657 (by have h := c_La_inline (g := g) (ax := ax) (am := am) (ad := ad) (bd := bd) (ao := ao) eq113; rw [swq_neg hs] at h; exact h) cw_La_inline cv_La_inline.1 cv_La_inline.2 (by decide +kernel) tw827 (cut_blk [wX g ax am ad bd, wM g am x.2.1.1 x.2.1.2, wD g ad x.2.2.1.1 x.2.2.1.2, wD g bd x.2.2.2.1.1 x.2.2.2.1.2, wR g ar x.2.2.2.2.1.1 x.2.2.2.2.1.2.1 x.2.2.2.2.1.2.2, wO g ao x.2.2.2.2.2] [wX g ax am ad bd, wM g am q113.2.1.1 q113.2.1.2, wD g ad q113.2.2.1.1 q113.2.2.1.2, wD g bd q113.2.2.2.1.1 q113.2.2.2.1.2, wR g ar x.2.2.2.2.1.1 x.2.2.2.2.1.2.1 x.2.2.2.2.1.2.2, wO g ao q113.2.2.2.2] [4] [0, 1, 2, 3, 5] rfl rfl rfl rfl rfl rfl rfl) rfl rfl (Nat.le_of_ble_eq_true rfl) (kc2 := 104 + j + 1) (ks2 := 19341 + 6 * j + 6) (by refine ⟨⟨by decide, by decide⟩, ⟨?_, ?_⟩, ?_, ?_⟩ <;> (try dsimp only [room_1]) <;> omega) ?_
        refine j_istore (pc := 660) C d_La_law_660 [1, 2, 3, 4, 5, 0] (by decide) (lc' := [(0, .ref bs), (1, .ref (ax 0)), (2, .ref (ar 0)), (3, .ref (ao 0)), (4, .int x.1), (5, .int q113.1)]) rfl ?_
        refine j_aload_n (pc := 662) C d_La_law_662 rfl 2 rfl ?_
        refine j_aload_n (pc := 663) C d_La_law_663 rfl 0 rfl ?_
        refine j_iload (pc := 664) C d_La_law_664 4 rfl ?_
        refine j_iconst (pc := 666) C d_La_law_666 ck_1 ?_
        refine j_iadd (pc := 667) C d_La_law_667 ?_
        obtain ⟨b114, hf⟩ := og hf
        refine j_sld (pc := 668) CL d_La_law_668 (inb_in b114) ?_
        obtain ⟨q115, eq115, hf⟩ := ob hf
        refine j_callVi (pc := 669) C (rest := []) (ws' := wX g ax am ad bd ++ (wM g am q113.2.1.1 q113.2.1.2 ++ (wD g ad q113.2.2.1.1 q113.2.2.1.2 ++ (wD g bd q113.2.2.2.1.1 q113.2.2.2.1.2 ++ (wR g ar q115.2.1 q115.2.2.1 q115.2.2.2 ++ wO g ao q113.2.2.2.2))))) d_La_law_669 (c_Mo_inline (g := g) (ar := ar) eq115) cv_Mo_inline tw1306 66 rfl rfl (cut_blk [wX g ax am ad bd, wM g am q113.2.1.1 q113.2.1.2, wD g ad q113.2.2.1.1 q113.2.2.1.2, wD g bd q113.2.2.2.1.1 q113.2.2.2.1.2, wR g ar x.2.2.2.2.1.1 x.2.2.2.2.1.2.1 x.2.2.2.2.1.2.2, wO g ao q113.2.2.2.2] [wX g ax am ad bd, wM g am q113.2.1.1 q113.2.1.2, wD g ad q113.2.2.1.1 q113.2.2.1.2, wD g bd q113.2.2.2.1.1 q113.2.2.2.1.2, wR g ar q115.2.1 q115.2.2.1 q115.2.2.2, wO g ao q113.2.2.2.2] [0, 1, 2, 3, 5] [4] rfl rfl rfl rfl rfl rfl rfl) rfl rfl (Nat.le_of_ble_eq_true rfl) (kc2 := 104 + j + 1) (ks2 := 19341 + 6 * j + 6) (by refine ⟨⟨by decide, by decide⟩, ⟨?_, ?_⟩, ?_, ?_⟩ <;> (try dsimp only [room_1]) <;> omega) ?_
        refine j_istore (pc := 672) C d_La_law_672 [1, 2, 3, 4, 5, 6, 0] (by decide) (lc' := [(0, .ref bs), (1, .ref (ax 0)), (2, .ref (ar 0)), (3, .ref (ao 0)), (4, .int x.1), (5, .int q113.1), (6, .int q115.1)]) rfl ?_
        refine j_aload_n (pc := 674) C d_La_law_674 rfl 2 rfl ?_
        obtain ⟨q116, eq116, hf⟩ := ob hf
        refine j_callVi (pc := 675) C (rest := []) (ws' := wX g ax am ad bd ++ (wM g am q113.2.1.1 q113.2.1.2 ++ (wD g ad q113.2.2.1.1 q113.2.2.1.2 ++ (wD g bd q113.2.2.2.1.1 q113.2.2.2.1.2 ++ (wR g ar q116.2.1 q116.2.2.1 q116.2.2.2 ++ wO g ao q113.2.2.2.2))))) d_La_law_675 (c_Mo_thrown (g := g) (ar := ar) eq116) cv_Mo_thrown tw1107 66 rfl rfl (cut_blk [wX g ax am ad bd, wM g am q113.2.1.1 q113.2.1.2, wD g ad q113.2.2.1.1 q113.2.2.1.2, wD g bd q113.2.2.2.1.1 q113.2.2.2.1.2, wR g ar q115.2.1 q115.2.2.1 q115.2.2.2, wO g ao q113.2.2.2.2] [wX g ax am ad bd, wM g am q113.2.1.1 q113.2.1.2, wD g ad q113.2.2.1.1 q113.2.2.1.2, wD g bd q113.2.2.2.1.1 q113.2.2.2.1.2, wR g ar q116.2.1 q116.2.2.1 q116.2.2.2, wO g ao q113.2.2.2.2] [0, 1, 2, 3, 5] [4] rfl rfl rfl rfl rfl rfl rfl) rfl rfl (Nat.le_of_ble_eq_true rfl) (kc2 := 104 + j + 1) (ks2 := 19341 + 6 * j + 6) (by refine ⟨⟨by decide, by decide⟩, ⟨?_, ?_⟩, ?_, ?_⟩ <;> (try dsimp only [room_1]) <;> omega) ?_
        refine j_iload (pc := 678) C d_La_law_678 5 rfl ?_
        refine j_icmp_eq (pc := 680) C d_La_law_680 (tgt := 685) rfl (fun h117 => ?_) (fun h117 => ?_)
        · rw [if_pos h117] at hf
          refine j_iload (pc := 685) C d_La_law_685 5 rfl ?_
          refine j_if_ne (pc := 687) C d_La_law_687 (tgt := 702) rfl (fun h118 => ?_) (fun h118 => ?_)
          · rw [if_neg h118] at hf
            refine j_goto (pc := 702) C d_La_law_702 (tgt := 817) rfl ?_
            refine j_iinc (pc := 817) C d_La_law_817 4 rfl (v := x.1 + 4) (iv ci_4) [1, 2, 3, 4, 0, 5, 6] (by decide) (lc' := [(0, .ref bs), (1, .ref (ax 0)), (2, .ref (ar 0)), (3, .ref (ao 0)), (4, .int (x.1 + 4)), (5, .int q113.1), (6, .int q115.1)]) rfl ?_
            refine j_goto (pc := 820) C d_La_law_820 (tgt := 23) rfl ?_
            refine j_lc C (lc' := [(0, .ref bs), (1, .ref (ax 0)), (2, .ref (ar 0)), (3, .ref (ao 0)), (4, .int (x.1 + 4))]) [0, 1, 2, 3, 4] rfl ?_
            exact j_widen C (by omega) (by omega) (k23_ih (x.1 + 4, q113.2.1, q113.2.2.1, q113.2.2.2.1, q116.2, q113.2.2.2.2) hf (j + 1) ad bd hi.1 hi.2)
          · rw [if_pos h118] at hf
            refine j_aload_n (pc := 690) C d_La_law_690 rfl 3 rfl ?_
            refine j_iconst (pc := 691) C d_La_law_691 ck_0 ?_
            refine j_lald (pc := 692) C d_La_law_692 103 (inb_in (by decide)) (x := q113.2.2.2.2 0) rfl rfl ?_
            refine j_iload (pc := 693) C d_La_law_693 6 rfl ?_
            refine j_i2l (pc := 695) C d_La_law_695 rfl ?_
            refine j_lcmp (pc := 696) C d_La_law_696 ?_
            refine j_if_eq (pc := 697) C d_La_law_697 (tgt := 702) rfl (fun h120 => ?_) (fun h120 => ?_)
            · rw [if_pos h120] at hf
              refine j_goto (pc := 702) C d_La_law_702 (tgt := 817) rfl ?_
              refine j_iinc (pc := 817) C d_La_law_817 4 rfl (v := x.1 + 4) (iv ci_4) [1, 2, 3, 4, 0, 5, 6] (by decide) (lc' := [(0, .ref bs), (1, .ref (ax 0)), (2, .ref (ar 0)), (3, .ref (ao 0)), (4, .int (x.1 + 4)), (5, .int q113.1), (6, .int q115.1)]) rfl ?_
              refine j_goto (pc := 820) C d_La_law_820 (tgt := 23) rfl ?_
              refine j_lc C (lc' := [(0, .ref bs), (1, .ref (ax 0)), (2, .ref (ar 0)), (3, .ref (ao 0)), (4, .int (x.1 + 4))]) [0, 1, 2, 3, 4] rfl ?_
              exact j_widen C (by omega) (by omega) (k23_ih (x.1 + 4, q113.2.1, q113.2.2.1, q113.2.2.2.1, q116.2, q113.2.2.2.2) hf (j + 1) ad bd hi.1 hi.2)
            · rw [if_neg h120] at hf
              refine j_iconst (pc := 700) C d_La_law_700 ck_0 ?_
              exact absurd hf (by decide)
        · rw [if_neg h117] at hf
          refine j_iconst (pc := 683) C d_La_law_683 ck_0 ?_
          exact absurd hf (by decide)
    rw [if_neg h111] at hf
    refine j_case (pc := 39) C d_La_law_39 (z := 13) (off := 666) (tgt := 705) (by decide) rfl (fun h121 => ?_) (fun h121 => ?_)
    · rw [if_pos h121] at hf
      refine j_aload_n (pc := 705) C d_La_law_705 rfl 1 rfl ?_
      refine j_aload_n (pc := 706) C d_La_law_706 rfl 0 rfl ?_
      refine j_iload (pc := 707) C d_La_law_707 4 rfl ?_
      refine j_iconst (pc := 709) C d_La_law_709 ck_1 ?_
      refine j_iadd (pc := 710) C d_La_law_710 ?_
      obtain ⟨b122, hf⟩ := og hf
      refine j_sld (pc := 711) CL d_La_law_711 (inb_in b122) ?_
      refine j_aload_n (pc := 712) C d_La_law_712 rfl 3 rfl ?_
      obtain ⟨q123, eq123, hf⟩ := ob hf
      refine j_callH (pc := 713) C (n := 3) (rest := []) (ws' := wX g ax am ad bd ++ (wM g am q123.2.1.1 q123.2.1.2 ++ (wD g ad q123.2.2.1.1 q123.2.2.1.2 ++ (wD g bd q123.2.2.2.1.1 q123.2.2.2.1.2 ++ (wR g ar x.2.2.2.2.1.1 x.2.2.2.2.1.2.1 x.2.2.2.2.1.2.2 ++ wO g ao q123.2.2.2.2))))) d_La_law_713 (c_La_run (g := g) (ax := ax) (am := am) (ad := ad) (bd := bd) (ao := ao) eq123) cw_La_run cv_La_run.1 cv_La_run.2 (by decide +kernel) tw873 (cut_blk [wX g ax am ad bd, wM g am x.2.1.1 x.2.1.2, wD g ad x.2.2.1.1 x.2.2.1.2, wD g bd x.2.2.2.1.1 x.2.2.2.1.2, wR g ar x.2.2.2.2.1.1 x.2.2.2.2.1.2.1 x.2.2.2.2.1.2.2, wO g ao x.2.2.2.2.2] [wX g ax am ad bd, wM g am q123.2.1.1 q123.2.1.2, wD g ad q123.2.2.1.1 q123.2.2.1.2, wD g bd q123.2.2.2.1.1 q123.2.2.2.1.2, wR g ar x.2.2.2.2.1.1 x.2.2.2.2.1.2.1 x.2.2.2.2.1.2.2, wO g ao q123.2.2.2.2] [4] [0, 1, 2, 3, 5] rfl rfl rfl rfl rfl rfl rfl) rfl rfl (Nat.le_of_ble_eq_true rfl) (kc2 := 104 + j + 1) (ks2 := 19341 + 6 * j + 6) (by refine ⟨⟨by decide, by decide⟩, ⟨?_, ?_⟩, ?_, ?_⟩ <;> (try dsimp only [room_1]) <;> omega) ?_
      refine j_istore (pc := 716) C d_La_law_716 [1, 2, 3, 4, 5, 0] (by decide) (lc' := [(0, .ref bs), (1, .ref (ax 0)), (2, .ref (ar 0)), (3, .ref (ao 0)), (4, .int x.1), (5, .int q123.1)]) rfl ?_
      refine j_aload_n (pc := 718) C d_La_law_718 rfl 2 rfl ?_
      refine j_aload_n (pc := 719) C d_La_law_719 rfl 0 rfl ?_
      refine j_iload (pc := 720) C d_La_law_720 4 rfl ?_
      refine j_iconst (pc := 722) C d_La_law_722 ck_1 ?_
      refine j_iadd (pc := 723) C d_La_law_723 ?_
      obtain ⟨b124, hf⟩ := og hf
      refine j_sld (pc := 724) CL d_La_law_724 (inb_in b124) ?_
      obtain ⟨q125, eq125, hf⟩ := ob hf
      refine j_callVi (pc := 725) C (rest := []) (ws' := wX g ax am ad bd ++ (wM g am q123.2.1.1 q123.2.1.2 ++ (wD g ad q123.2.2.1.1 q123.2.2.1.2 ++ (wD g bd q123.2.2.2.1.1 q123.2.2.2.1.2 ++ (wR g ar q125.2.1 q125.2.2.1 q125.2.2.2 ++ wO g ao q123.2.2.2.2))))) d_La_law_725 (c_Mo_run (g := g) (ar := ar) eq125) cv_Mo_run tw1318 66 rfl rfl (cut_blk [wX g ax am ad bd, wM g am q123.2.1.1 q123.2.1.2, wD g ad q123.2.2.1.1 q123.2.2.1.2, wD g bd q123.2.2.2.1.1 q123.2.2.2.1.2, wR g ar x.2.2.2.2.1.1 x.2.2.2.2.1.2.1 x.2.2.2.2.1.2.2, wO g ao q123.2.2.2.2] [wX g ax am ad bd, wM g am q123.2.1.1 q123.2.1.2, wD g ad q123.2.2.1.1 q123.2.2.1.2, wD g bd q123.2.2.2.1.1 q123.2.2.2.1.2, wR g ar q125.2.1 q125.2.2.1 q125.2.2.2, wO g ao q123.2.2.2.2] [0, 1, 2, 3, 5] [4] rfl rfl rfl rfl rfl rfl rfl) rfl rfl (Nat.le_of_ble_eq_true rfl) (kc2 := 104 + j + 1) (ks2 := 19341 + 6 * j + 6) (by refine ⟨⟨by decide, by decide⟩, ⟨?_, ?_⟩, ?_, ?_⟩ <;> (try dsimp only [room_1]) <;> omega) ?_
      refine j_istore (pc := 728) C d_La_law_728 [1, 2, 3, 4, 5, 6, 0] (by decide) (lc' := [(0, .ref bs), (1, .ref (ax 0)), (2, .ref (ar 0)), (3, .ref (ao 0)), (4, .int x.1), (5, .int q123.1), (6, .int q125.1)]) rfl ?_
      refine j_aload_n (pc := 730) C d_La_law_730 rfl 2 rfl ?_
      obtain ⟨q126, eq126, hf⟩ := ob hf
      refine j_callVi (pc := 731) C (rest := []) (ws' := wX g ax am ad bd ++ (wM g am q123.2.1.1 q123.2.1.2 ++ (wD g ad q123.2.2.1.1 q123.2.2.1.2 ++ (wD g bd q123.2.2.2.1.1 q123.2.2.2.1.2 ++ (wR g ar q126.2.1 q126.2.2.1 q126.2.2.2 ++ wO g ao q123.2.2.2.2))))) d_La_law_731 (c_Mo_thrown (g := g) (ar := ar) eq126) cv_Mo_thrown tw1107 66 rfl rfl (cut_blk [wX g ax am ad bd, wM g am q123.2.1.1 q123.2.1.2, wD g ad q123.2.2.1.1 q123.2.2.1.2, wD g bd q123.2.2.2.1.1 q123.2.2.2.1.2, wR g ar q125.2.1 q125.2.2.1 q125.2.2.2, wO g ao q123.2.2.2.2] [wX g ax am ad bd, wM g am q123.2.1.1 q123.2.1.2, wD g ad q123.2.2.1.1 q123.2.2.1.2, wD g bd q123.2.2.2.1.1 q123.2.2.2.1.2, wR g ar q126.2.1 q126.2.2.1 q126.2.2.2, wO g ao q123.2.2.2.2] [0, 1, 2, 3, 5] [4] rfl rfl rfl rfl rfl rfl rfl) rfl rfl (Nat.le_of_ble_eq_true rfl) (kc2 := 104 + j + 1) (ks2 := 19341 + 6 * j + 6) (by refine ⟨⟨by decide, by decide⟩, ⟨?_, ?_⟩, ?_, ?_⟩ <;> (try dsimp only [room_1]) <;> omega) ?_
      refine j_iload (pc := 734) C d_La_law_734 5 rfl ?_
      refine j_icmp_eq (pc := 736) C d_La_law_736 (tgt := 741) rfl (fun h127 => ?_) (fun h127 => ?_)
      · rw [if_pos h127] at hf
        refine j_iload (pc := 741) C d_La_law_741 5 rfl ?_
        refine j_if_ne (pc := 743) C d_La_law_743 (tgt := 758) rfl (fun h128 => ?_) (fun h128 => ?_)
        · rw [if_neg h128] at hf
          refine j_goto (pc := 758) C d_La_law_758 (tgt := 817) rfl ?_
          refine j_iinc (pc := 817) C d_La_law_817 4 rfl (v := x.1 + 4) (iv ci_4) [1, 2, 3, 4, 0, 5, 6] (by decide) (lc' := [(0, .ref bs), (1, .ref (ax 0)), (2, .ref (ar 0)), (3, .ref (ao 0)), (4, .int (x.1 + 4)), (5, .int q123.1), (6, .int q125.1)]) rfl ?_
          refine j_goto (pc := 820) C d_La_law_820 (tgt := 23) rfl ?_
          refine j_lc C (lc' := [(0, .ref bs), (1, .ref (ax 0)), (2, .ref (ar 0)), (3, .ref (ao 0)), (4, .int (x.1 + 4))]) [0, 1, 2, 3, 4] rfl ?_
          exact j_widen C (by omega) (by omega) (k23_ih (x.1 + 4, q123.2.1, q123.2.2.1, q123.2.2.2.1, q126.2, q123.2.2.2.2) hf (j + 1) ad bd hi.1 hi.2)
        · rw [if_pos h128] at hf
          refine j_aload_n (pc := 746) C d_La_law_746 rfl 3 rfl ?_
          refine j_iconst (pc := 747) C d_La_law_747 ck_0 ?_
          refine j_lald (pc := 748) C d_La_law_748 103 (inb_in (by decide)) (x := q123.2.2.2.2 0) rfl rfl ?_
          refine j_iload (pc := 749) C d_La_law_749 6 rfl ?_
          refine j_i2l (pc := 751) C d_La_law_751 rfl ?_
          refine j_lcmp (pc := 752) C d_La_law_752 ?_
          refine j_if_eq (pc := 753) C d_La_law_753 (tgt := 758) rfl (fun h130 => ?_) (fun h130 => ?_)
          · rw [if_pos h130] at hf
            refine j_goto (pc := 758) C d_La_law_758 (tgt := 817) rfl ?_
            refine j_iinc (pc := 817) C d_La_law_817 4 rfl (v := x.1 + 4) (iv ci_4) [1, 2, 3, 4, 0, 5, 6] (by decide) (lc' := [(0, .ref bs), (1, .ref (ax 0)), (2, .ref (ar 0)), (3, .ref (ao 0)), (4, .int (x.1 + 4)), (5, .int q123.1), (6, .int q125.1)]) rfl ?_
            refine j_goto (pc := 820) C d_La_law_820 (tgt := 23) rfl ?_
            refine j_lc C (lc' := [(0, .ref bs), (1, .ref (ax 0)), (2, .ref (ar 0)), (3, .ref (ao 0)), (4, .int (x.1 + 4))]) [0, 1, 2, 3, 4] rfl ?_
            exact j_widen C (by omega) (by omega) (k23_ih (x.1 + 4, q123.2.1, q123.2.2.1, q123.2.2.2.1, q126.2, q123.2.2.2.2) hf (j + 1) ad bd hi.1 hi.2)
          · rw [if_neg h130] at hf
            refine j_iconst (pc := 756) C d_La_law_756 ck_0 ?_
            exact absurd hf (by decide)
      · rw [if_neg h127] at hf
        refine j_iconst (pc := 739) C d_La_law_739 ck_0 ?_
        exact absurd hf (by decide)
    rw [if_neg h121] at hf
    refine j_case (pc := 39) C d_La_law_39 (z := 14) (off := 722) (tgt := 761) (by decide) rfl (fun h131 => ?_) (fun h131 => ?_)
    · rw [if_pos h131] at hf
      refine j_aload_n (pc := 761) C d_La_law_761 rfl 1 rfl ?_
      refine j_aload_n (pc := 762) C d_La_law_762 rfl 0 rfl ?_
      refine j_iload (pc := 763) C d_La_law_763 4 rfl ?_
      refine j_iconst (pc := 765) C d_La_law_765 ck_1 ?_
      refine j_iadd (pc := 766) C d_La_law_766 ?_
      obtain ⟨b132, hf⟩ := og hf
      refine j_sld (pc := 767) CL d_La_law_767 (inb_in b132) ?_
      refine j_aload_n (pc := 768) C d_La_law_768 rfl 3 rfl ?_
      obtain ⟨q133, eq133, hf⟩ := ob hf
      refine j_callH (pc := 769) C (n := 3) (rest := []) (ws' := wX g ax am ad bd ++ (wM g am q133.2.1.1 q133.2.1.2 ++ (wD g ad q133.2.2.1.1 q133.2.2.1.2 ++ (wD g bd q133.2.2.2.1.1 q133.2.2.2.1.2 ++ (wR g ar x.2.2.2.2.1.1 x.2.2.2.2.1.2.1 x.2.2.2.2.1.2.2 ++ wO g ao q133.2.2.2.2))))) d_La_law_769 (c_La_output (g := g) (ax := ax) (am := am) (ad := ad) (bd := bd) (ao := ao) eq133) cw_La_output cv_La_output.1 cv_La_output.2 (by decide +kernel) tw923 (cut_blk [wX g ax am ad bd, wM g am x.2.1.1 x.2.1.2, wD g ad x.2.2.1.1 x.2.2.1.2, wD g bd x.2.2.2.1.1 x.2.2.2.1.2, wR g ar x.2.2.2.2.1.1 x.2.2.2.2.1.2.1 x.2.2.2.2.1.2.2, wO g ao x.2.2.2.2.2] [wX g ax am ad bd, wM g am q133.2.1.1 q133.2.1.2, wD g ad q133.2.2.1.1 q133.2.2.1.2, wD g bd q133.2.2.2.1.1 q133.2.2.2.1.2, wR g ar x.2.2.2.2.1.1 x.2.2.2.2.1.2.1 x.2.2.2.2.1.2.2, wO g ao q133.2.2.2.2] [4] [0, 1, 2, 3, 5] rfl rfl rfl rfl rfl rfl rfl) rfl rfl (Nat.le_of_ble_eq_true rfl) (kc2 := 104 + j + 1) (ks2 := 19341 + 6 * j + 6) (by refine ⟨⟨by decide, by decide⟩, ⟨?_, ?_⟩, ?_, ?_⟩ <;> (try dsimp only [room_1]) <;> omega) ?_
      refine j_istore (pc := 772) C d_La_law_772 [1, 2, 3, 4, 5, 0] (by decide) (lc' := [(0, .ref bs), (1, .ref (ax 0)), (2, .ref (ar 0)), (3, .ref (ao 0)), (4, .int x.1), (5, .int q133.1)]) rfl ?_
      refine j_aload_n (pc := 774) C d_La_law_774 rfl 2 rfl ?_
      refine j_aload_n (pc := 775) C d_La_law_775 rfl 0 rfl ?_
      refine j_iload (pc := 776) C d_La_law_776 4 rfl ?_
      refine j_iconst (pc := 778) C d_La_law_778 ck_1 ?_
      refine j_iadd (pc := 779) C d_La_law_779 ?_
      obtain ⟨b134, hf⟩ := og hf
      refine j_sld (pc := 780) CL d_La_law_780 (inb_in b134) ?_
      obtain ⟨q135, eq135, hf⟩ := ob hf
      refine j_callVi (pc := 781) C (rest := []) (ws' := wX g ax am ad bd ++ (wM g am q133.2.1.1 q133.2.1.2 ++ (wD g ad q133.2.2.1.1 q133.2.2.1.2 ++ (wD g bd q133.2.2.2.1.1 q133.2.2.2.1.2 ++ (wR g ar q135.2.1 q135.2.2.1 q135.2.2.2 ++ wO g ao q133.2.2.2.2))))) d_La_law_781 (c_Mo_output (g := g) (ar := ar) eq135) cv_Mo_output tw1373 66 rfl rfl (cut_blk [wX g ax am ad bd, wM g am q133.2.1.1 q133.2.1.2, wD g ad q133.2.2.1.1 q133.2.2.1.2, wD g bd q133.2.2.2.1.1 q133.2.2.2.1.2, wR g ar x.2.2.2.2.1.1 x.2.2.2.2.1.2.1 x.2.2.2.2.1.2.2, wO g ao q133.2.2.2.2] [wX g ax am ad bd, wM g am q133.2.1.1 q133.2.1.2, wD g ad q133.2.2.1.1 q133.2.2.1.2, wD g bd q133.2.2.2.1.1 q133.2.2.2.1.2, wR g ar q135.2.1 q135.2.2.1 q135.2.2.2, wO g ao q133.2.2.2.2] [0, 1, 2, 3, 5] [4] rfl rfl rfl rfl rfl rfl rfl) rfl rfl (Nat.le_of_ble_eq_true rfl) (kc2 := 104 + j + 1) (ks2 := 19341 + 6 * j + 6) (by refine ⟨⟨by decide, by decide⟩, ⟨?_, ?_⟩, ?_, ?_⟩ <;> (try dsimp only [room_1]) <;> omega) ?_
      refine j_istore (pc := 784) C d_La_law_784 [1, 2, 3, 4, 5, 6, 0] (by decide) (lc' := [(0, .ref bs), (1, .ref (ax 0)), (2, .ref (ar 0)), (3, .ref (ao 0)), (4, .int x.1), (5, .int q133.1), (6, .int q135.1)]) rfl ?_
      refine j_aload_n (pc := 786) C d_La_law_786 rfl 2 rfl ?_
      obtain ⟨q136, eq136, hf⟩ := ob hf
      refine j_callVi (pc := 787) C (rest := []) (ws' := wX g ax am ad bd ++ (wM g am q133.2.1.1 q133.2.1.2 ++ (wD g ad q133.2.2.1.1 q133.2.2.1.2 ++ (wD g bd q133.2.2.2.1.1 q133.2.2.2.1.2 ++ (wR g ar q136.2.1 q136.2.2.1 q136.2.2.2 ++ wO g ao q133.2.2.2.2))))) d_La_law_787 (c_Mo_thrown (g := g) (ar := ar) eq136) cv_Mo_thrown tw1107 66 rfl rfl (cut_blk [wX g ax am ad bd, wM g am q133.2.1.1 q133.2.1.2, wD g ad q133.2.2.1.1 q133.2.2.1.2, wD g bd q133.2.2.2.1.1 q133.2.2.2.1.2, wR g ar q135.2.1 q135.2.2.1 q135.2.2.2, wO g ao q133.2.2.2.2] [wX g ax am ad bd, wM g am q133.2.1.1 q133.2.1.2, wD g ad q133.2.2.1.1 q133.2.2.1.2, wD g bd q133.2.2.2.1.1 q133.2.2.2.1.2, wR g ar q136.2.1 q136.2.2.1 q136.2.2.2, wO g ao q133.2.2.2.2] [0, 1, 2, 3, 5] [4] rfl rfl rfl rfl rfl rfl rfl) rfl rfl (Nat.le_of_ble_eq_true rfl) (kc2 := 104 + j + 1) (ks2 := 19341 + 6 * j + 6) (by refine ⟨⟨by decide, by decide⟩, ⟨?_, ?_⟩, ?_, ?_⟩ <;> (try dsimp only [room_1]) <;> omega) ?_
      refine j_iload (pc := 790) C d_La_law_790 5 rfl ?_
      refine j_icmp_eq (pc := 792) C d_La_law_792 (tgt := 797) rfl (fun h137 => ?_) (fun h137 => ?_)
      · rw [if_pos h137] at hf
        refine j_iload (pc := 797) C d_La_law_797 5 rfl ?_
        refine j_if_ne (pc := 799) C d_La_law_799 (tgt := 814) rfl (fun h138 => ?_) (fun h138 => ?_)
        · rw [if_neg h138] at hf
          refine j_goto (pc := 814) C d_La_law_814 (tgt := 817) rfl ?_
          refine j_iinc (pc := 817) C d_La_law_817 4 rfl (v := x.1 + 4) (iv ci_4) [1, 2, 3, 4, 0, 5, 6] (by decide) (lc' := [(0, .ref bs), (1, .ref (ax 0)), (2, .ref (ar 0)), (3, .ref (ao 0)), (4, .int (x.1 + 4)), (5, .int q133.1), (6, .int q135.1)]) rfl ?_
          refine j_goto (pc := 820) C d_La_law_820 (tgt := 23) rfl ?_
          refine j_lc C (lc' := [(0, .ref bs), (1, .ref (ax 0)), (2, .ref (ar 0)), (3, .ref (ao 0)), (4, .int (x.1 + 4))]) [0, 1, 2, 3, 4] rfl ?_
          exact j_widen C (by omega) (by omega) (k23_ih (x.1 + 4, q133.2.1, q133.2.2.1, q133.2.2.2.1, q136.2, q133.2.2.2.2) hf (j + 1) ad bd hi.1 hi.2)
        · rw [if_pos h138] at hf
          refine j_aload_n (pc := 802) C d_La_law_802 rfl 3 rfl ?_
          refine j_iconst (pc := 803) C d_La_law_803 ck_0 ?_
          refine j_lald (pc := 804) C d_La_law_804 103 (inb_in (by decide)) (x := q133.2.2.2.2 0) rfl rfl ?_
          refine j_iload (pc := 805) C d_La_law_805 6 rfl ?_
          refine j_i2l (pc := 807) C d_La_law_807 rfl ?_
          refine j_lcmp (pc := 808) C d_La_law_808 ?_
          refine j_if_eq (pc := 809) C d_La_law_809 (tgt := 814) rfl (fun h140 => ?_) (fun h140 => ?_)
          · rw [if_pos h140] at hf
            refine j_goto (pc := 814) C d_La_law_814 (tgt := 817) rfl ?_
            refine j_iinc (pc := 817) C d_La_law_817 4 rfl (v := x.1 + 4) (iv ci_4) [1, 2, 3, 4, 0, 5, 6] (by decide) (lc' := [(0, .ref bs), (1, .ref (ax 0)), (2, .ref (ar 0)), (3, .ref (ao 0)), (4, .int (x.1 + 4)), (5, .int q133.1), (6, .int q135.1)]) rfl ?_
            refine j_goto (pc := 820) C d_La_law_820 (tgt := 23) rfl ?_
            refine j_lc C (lc' := [(0, .ref bs), (1, .ref (ax 0)), (2, .ref (ar 0)), (3, .ref (ao 0)), (4, .int (x.1 + 4))]) [0, 1, 2, 3, 4] rfl ?_
            exact j_widen C (by omega) (by omega) (k23_ih (x.1 + 4, q133.2.1, q133.2.2.1, q133.2.2.2.1, q136.2, q133.2.2.2.2) hf (j + 1) ad bd hi.1 hi.2)
          · rw [if_neg h140] at hf
            refine j_iconst (pc := 812) C d_La_law_812 ck_0 ?_
            exact absurd hf (by decide)
      · rw [if_neg h137] at hf
        refine j_iconst (pc := 795) C d_La_law_795 ck_0 ?_
        exact absurd hf (by decide)
    rw [if_neg h131] at hf
    have ih3 := ine 0 (by decide) h3
    have ih11 := ine 1 (by decide) h11
    have ih17 := ine 2 (by decide) h17
    have ih28 := ine 3 (by decide) h28
    have ih37 := ine 4 (by decide) h37
    have ih41 := ine 5 (by decide) h41
    have ih51 := ine 6 (by decide) h51
    have ih55 := ine 7 (by decide) h55
    have ih67 := ine 8 (by decide) h67
    have ih71 := ine 9 (by decide) h71
    have ih81 := ine 10 (by decide) h81
    have ih93 := ine 11 (by decide) h93
    have ih111 := ine 12 (by decide) h111
    have ih121 := ine 13 (by decide) h121
    have ih131 := ine 14 (by decide) h131
    refine j_dflt C d_La_law_39 (tgt := 817) (by omega) rfl ?_
    refine j_iinc (pc := 817) C d_La_law_817 4 rfl (v := x.1 + 4) (iv ci_4) [1, 2, 3, 4, 0] (by decide) (lc' := [(0, .ref bs), (1, .ref (ax 0)), (2, .ref (ar 0)), (3, .ref (ao 0)), (4, .int (x.1 + 4))]) rfl ?_
    refine j_goto (pc := 820) C d_La_law_820 (tgt := 23) rfl ?_
    exact j_widen C (by omega) (by omega) (k23_ih (x.1 + 4, x.2.1, x.2.2.1, x.2.2.2.1, x.2.2.2.2.1, x.2.2.2.2.2) hf (j + 1) ad bd hi.1 hi.2)
