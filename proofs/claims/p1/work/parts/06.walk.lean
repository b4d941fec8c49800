theorem ck_m1 : Int32.ofInt (-1) = -1 := by decide
theorem ck_0 : Int32.ofInt 0 = 0 := by decide
theorem ck_1 : Int32.ofInt 1 = 1 := by decide
theorem ck_2 : Int32.ofInt 2 = 2 := by decide
theorem ck_3 : Int32.ofInt 3 = 3 := by decide
theorem ck_4 : Int32.ofInt 4 = 4 := by decide
theorem ck_5 : Int32.ofInt 5 = 5 := by decide
theorem cl_0 : Int64.ofNat ((0 : Fin 2) : Nat) = 0 := by decide
theorem cl_1 : Int64.ofNat ((1 : Fin 2) : Nat) = 1 := by decide
theorem cb_m2 : (Int8.ofInt (-2)).toInt32 = (-2) := by decide
theorem cb_6 : (Int8.ofInt 6).toInt32 = 6 := by decide
theorem cb_7 : (Int8.ofInt 7).toInt32 = 7 := by decide
theorem cb_8 : (Int8.ofInt 8).toInt32 = 8 := by decide
theorem cb_9 : (Int8.ofInt 9).toInt32 = 9 := by decide
theorem cb_10 : (Int8.ofInt 10).toInt32 = 10 := by decide
theorem cb_11 : (Int8.ofInt 11).toInt32 = 11 := by decide
theorem cb_12 : (Int8.ofInt 12).toInt32 = 12 := by decide
theorem cb_13 : (Int8.ofInt 13).toInt32 = 13 := by decide
theorem cb_15 : (Int8.ofInt 15).toInt32 = 15 := by decide
theorem cb_26 : (Int8.ofInt 26).toInt32 = 26 := by decide
theorem cb_31 : (Int8.ofInt 31).toInt32 = 31 := by decide
theorem cb_32 : (Int8.ofInt 32).toInt32 = 32 := by decide
theorem cb_40 : (Int8.ofInt 40).toInt32 = 40 := by decide
theorem cb_41 : (Int8.ofInt 41).toInt32 = 41 := by decide
theorem cb_42 : (Int8.ofInt 42).toInt32 = 42 := by decide
theorem cb_43 : (Int8.ofInt 43).toInt32 = 43 := by decide
theorem cb_44 : (Int8.ofInt 44).toInt32 = 44 := by decide
theorem cb_45 : (Int8.ofInt 45).toInt32 = 45 := by decide
theorem cb_48 : (Int8.ofInt 48).toInt32 = 48 := by decide
theorem cb_57 : (Int8.ofInt 57).toInt32 = 57 := by decide
theorem cb_59 : (Int8.ofInt 59).toInt32 = 59 := by decide
theorem cb_60 : (Int8.ofInt 60).toInt32 = 60 := by decide
theorem cb_61 : (Int8.ofInt 61).toInt32 = 61 := by decide
theorem cb_96 : (Int8.ofInt 96).toInt32 = 96 := by decide
theorem cb_97 : (Int8.ofInt 97).toInt32 = 97 := by decide
theorem cb_100 : (Int8.ofInt 100).toInt32 = 100 := by decide
theorem cb_122 : (Int8.ofInt 122).toInt32 = 122 := by decide
theorem cb_123 : (Int8.ofInt 123).toInt32 = 123 := by decide
theorem cb_125 : (Int8.ofInt 125).toInt32 = 125 := by decide
theorem cb_126 : (Int8.ofInt 126).toInt32 = 126 := by decide
theorem cs_240 : (Int16.ofInt 240).toInt32 = 240 := by decide
theorem cs_300 : (Int16.ofInt 300).toInt32 = 300 := by decide
theorem iv {x a b : Int32} (h : a = b) : x + a = x + b := by rw [h]
theorem ci_m1 : Int32.ofInt (-1) = (-1) := by decide
theorem ci_1 : Int32.ofInt 1 = 1 := by decide
theorem ci_4 : Int32.ofInt 4 = 4 := by decide
theorem id_m1 {x : Int32} : x + Int32.ofInt (-1) = x - 1 := by rw [ci_m1, Int32.sub_eq_add_neg]
def fsD_0 (ad : Nat → Nat) (I : Nat → Int32) : List Value := [.ref (ad 1), .ref (ad 3), .ref (ad 8), .ref (ad 12), .ref (ad 20), .ref (ad 23), .ref (ad 27), .ref (ad 28), .int (I 0), .ref (ad 29), .int (I 1), .int (I 2)]
theorem wD_o0 {g : GT} {ad : Nat → Nat} {A : Nat → Nat → Int32} {I : Nat → Int32} : (wD g ad A I)[0]? = some (ad 0, .inr (1, fsD_0 ad I)) := rfl
theorem wD_p0_8 {g : GT} {ad : Nat → Nat} {A : Nat → Nat → Int32} {I : Nat → Int32} {v : Int32} : (wD g ad A I).set 0 (ad 0, .inr (1, (fsD_0 ad I).set 8 (.int v))) = wD g ad A (va_up I 0 v) := rfl
theorem wD_p0_10 {g : GT} {ad : Nat → Nat} {A : Nat → Nat → Int32} {I : Nat → Int32} {v : Int32} : (wD g ad A I).set 0 (ad 0, .inr (1, (fsD_0 ad I).set 10 (.int v))) = wD g ad A (va_up I 1 v) := rfl
theorem wD_p0_11 {g : GT} {ad : Nat → Nat} {A : Nat → Nat → Int32} {I : Nat → Int32} {v : Int32} : (wD g ad A I).set 0 (ad 0, .inr (1, (fsD_0 ad I).set 11 (.int v))) = wD g ad A (va_up I 2 v) := rfl
def fsD_1 (ad : Nat → Nat) (I : Nat → Int32) : List Value := [.ref (ad 2), .int (I 3)]
theorem wD_o1 {g : GT} {ad : Nat → Nat} {A : Nat → Nat → Int32} {I : Nat → Int32} : (wD g ad A I)[1]? = some (ad 1, .inr (6, fsD_1 ad I)) := rfl
theorem wD_p1_1 {g : GT} {ad : Nat → Nat} {A : Nat → Nat → Int32} {I : Nat → Int32} {v : Int32} : (wD g ad A I).set 1 (ad 1, .inr (6, (fsD_1 ad I).set 1 (.int v))) = wD g ad A (va_up I 3 v) := rfl
theorem wD_a2 {g : GT} {ad : Nat → Nat} {A : Nat → Nat → Int32} {I : Nat → Int32} : (wD g ad A I)[2]? = some (ad 2, .inl (g_C g, 240, .inl (A 2))) := rfl
theorem wD_s2 {g : GT} {ad : Nat → Nat} {A : Nat → Nat → Int32} {I : Nat → Int32} {F : Nat → Int32} : (wD g ad A I).set 2 (ad 2, .inl (g_C g, 240, .inl F)) = wD g ad (va_up A 2 F) I := rfl
def fsD_3 (ad : Nat → Nat) (I : Nat → Int32) : List Value := [.ref (ad 4), .ref (ad 5), .ref (ad 6), .ref (ad 7), .int (I 4)]
theorem wD_o3 {g : GT} {ad : Nat → Nat} {A : Nat → Nat → Int32} {I : Nat → Int32} : (wD g ad A I)[3]? = some (ad 3, .inr (7, fsD_3 ad I)) := rfl
theorem wD_p3_4 {g : GT} {ad : Nat → Nat} {A : Nat → Nat → Int32} {I : Nat → Int32} {v : Int32} : (wD g ad A I).set 3 (ad 3, .inr (7, (fsD_3 ad I).set 4 (.int v))) = wD g ad A (va_up I 4 v) := rfl
theorem wD_a4 {g : GT} {ad : Nat → Nat} {A : Nat → Nat → Int32} {I : Nat → Int32} : (wD g ad A I)[4]? = some (ad 4, .inl (g_I g, 240, .inl (A 4))) := rfl
theorem wD_s4 {g : GT} {ad : Nat → Nat} {A : Nat → Nat → Int32} {I : Nat → Int32} {F : Nat → Int32} : (wD g ad A I).set 4 (ad 4, .inl (g_I g, 240, .inl F)) = wD g ad (va_up A 4 F) I := rfl
theorem wD_a5 {g : GT} {ad : Nat → Nat} {A : Nat → Nat → Int32} {I : Nat → Int32} : (wD g ad A I)[5]? = some (ad 5, .inl (g_I g, 240, .inl (A 5))) := rfl
theorem wD_s5 {g : GT} {ad : Nat → Nat} {A : Nat → Nat → Int32} {I : Nat → Int32} {F : Nat → Int32} : (wD g ad A I).set 5 (ad 5, .inl (g_I g, 240, .inl F)) = wD g ad (va_up A 5 F) I := rfl
theorem wD_a6 {g : GT} {ad : Nat → Nat} {A : Nat → Nat → Int32} {I : Nat → Int32} : (wD g ad A I)[6]? = some (ad 6, .inl (g_I g, 240, .inl (A 6))) := rfl
theorem wD_s6 {g : GT} {ad : Nat → Nat} {A : Nat → Nat → Int32} {I : Nat → Int32} {F : Nat → Int32} : (wD g ad A I).set 6 (ad 6, .inl (g_I g, 240, .inl F)) = wD g ad (va_up A 6 F) I := rfl
theorem wD_a7 {g : GT} {ad : Nat → Nat} {A : Nat → Nat → Int32} {I : Nat → Int32} : (wD g ad A I)[7]? = some (ad 7, .inl (g_I g, 240, .inl (A 7))) := rfl
theorem wD_s7 {g : GT} {ad : Nat → Nat} {A : Nat → Nat → Int32} {I : Nat → Int32} {F : Nat → Int32} : (wD g ad A I).set 7 (ad 7, .inl (g_I g, 240, .inl F)) = wD g ad (va_up A 7 F) I := rfl
def fsD_8 (ad : Nat → Nat) (I : Nat → Int32) : List Value := [.ref (ad 9), .ref (ad 10), .ref (ad 11), .int (I 5), .ref (ad 3)]
theorem wD_o8 {g : GT} {ad : Nat → Nat} {A : Nat → Nat → Int32} {I : Nat → Int32} : (wD g ad A I)[8]? = some (ad 8, .inr (2, fsD_8 ad I)) := rfl
theorem wD_p8_3 {g : GT} {ad : Nat → Nat} {A : Nat → Nat → Int32} {I : Nat → Int32} {v : Int32} : (wD g ad A I).set 8 (ad 8, .inr (2, (fsD_8 ad I).set 3 (.int v))) = wD g ad A (va_up I 5 v) := rfl
theorem wD_a9 {g : GT} {ad : Nat → Nat} {A : Nat → Nat → Int32} {I : Nat → Int32} : (wD g ad A I)[9]? = some (ad 9, .inl (g_I g, 4, .inl (A 9))) := rfl
theorem wD_s9 {g : GT} {ad : Nat → Nat} {A : Nat → Nat → Int32} {I : Nat → Int32} {F : Nat → Int32} : (wD g ad A I).set 9 (ad 9, .inl (g_I g, 4, .inl F)) = wD g ad (va_up A 9 F) I := rfl
theorem wD_a10 {g : GT} {ad : Nat → Nat} {A : Nat → Nat → Int32} {I : Nat → Int32} : (wD g ad A I)[10]? = some (ad 10, .inl (g_I g, 4, .inl (A 10))) := rfl
theorem wD_s10 {g : GT} {ad : Nat → Nat} {A : Nat → Nat → Int32} {I : Nat → Int32} {F : Nat → Int32} : (wD g ad A I).set 10 (ad 10, .inl (g_I g, 4, .inl F)) = wD g ad (va_up A 10 F) I := rfl
theorem wD_a11 {g : GT} {ad : Nat → Nat} {A : Nat → Nat → Int32} {I : Nat → Int32} : (wD g ad A I)[11]? = some (ad 11, .inl (g_I g, 4, .inl (A 11))) := rfl
theorem wD_s11 {g : GT} {ad : Nat → Nat} {A : Nat → Nat → Int32} {I : Nat → Int32} {F : Nat → Int32} : (wD g ad A I).set 11 (ad 11, .inl (g_I g, 4, .inl F)) = wD g ad (va_up A 11 F) I := rfl
def fsD_12 (ad : Nat → Nat) (I : Nat → Int32) : List Value := [.ref (ad 13), .ref (ad 14), .ref (ad 15), .ref (ad 16), .ref (ad 17), .ref (ad 18), .ref (ad 19), .ref (ad 3), .ref (ad 8)]
theorem wD_o12 {g : GT} {ad : Nat → Nat} {A : Nat → Nat → Int32} {I : Nat → Int32} : (wD g ad A I)[12]? = some (ad 12, .inr (5, fsD_12 ad I)) := rfl
theorem wD_a13 {g : GT} {ad : Nat → Nat} {A : Nat → Nat → Int32} {I : Nat → Int32} : (wD g ad A I)[13]? = some (ad 13, .inl (g_I g, 240, .inl (A 13))) := rfl
theorem wD_s13 {g : GT} {ad : Nat → Nat} {A : Nat → Nat → Int32} {I : Nat → Int32} {F : Nat → Int32} : (wD g ad A I).set 13 (ad 13, .inl (g_I g, 240, .inl F)) = wD g ad (va_up A 13 F) I := rfl
theorem wD_a14 {g : GT} {ad : Nat → Nat} {A : Nat → Nat → Int32} {I : Nat → Int32} : (wD g ad A I)[14]? = some (ad 14, .inl (g_I g, 240, .inl (A 14))) := rfl
theorem wD_s14 {g : GT} {ad : Nat → Nat} {A : Nat → Nat → Int32} {I : Nat → Int32} {F : Nat → Int32} : (wD g ad A I).set 14 (ad 14, .inl (g_I g, 240, .inl F)) = wD g ad (va_up A 14 F) I := rfl
theorem wD_a15 {g : GT} {ad : Nat → Nat} {A : Nat → Nat → Int32} {I : Nat → Int32} : (wD g ad A I)[15]? = some (ad 15, .inl (g_I g, 240, .inl (A 15))) := rfl
theorem wD_s15 {g : GT} {ad : Nat → Nat} {A : Nat → Nat → Int32} {I : Nat → Int32} {F : Nat → Int32} : (wD g ad A I).set 15 (ad 15, .inl (g_I g, 240, .inl F)) = wD g ad (va_up A 15 F) I := rfl
theorem wD_a16 {g : GT} {ad : Nat → Nat} {A : Nat → Nat → Int32} {I : Nat → Int32} : (wD g ad A I)[16]? = some (ad 16, .inl (g_I g, 240, .inl (A 16))) := rfl
theorem wD_s16 {g : GT} {ad : Nat → Nat} {A : Nat → Nat → Int32} {I : Nat → Int32} {F : Nat → Int32} : (wD g ad A I).set 16 (ad 16, .inl (g_I g, 240, .inl F)) = wD g ad (va_up A 16 F) I := rfl
theorem wD_a17 {g : GT} {ad : Nat → Nat} {A : Nat → Nat → Int32} {I : Nat → Int32} : (wD g ad A I)[17]? = some (ad 17, .inl (g_I g, 240, .inl (A 17))) := rfl
theorem wD_s17 {g : GT} {ad : Nat → Nat} {A : Nat → Nat → Int32} {I : Nat → Int32} {F : Nat → Int32} : (wD g ad A I).set 17 (ad 17, .inl (g_I g, 240, .inl F)) = wD g ad (va_up A 17 F) I := rfl
theorem wD_a18 {g : GT} {ad : Nat → Nat} {A : Nat → Nat → Int32} {I : Nat → Int32} : (wD g ad A I)[18]? = some (ad 18, .inl (g_I g, 240, .inl (A 18))) := rfl
theorem wD_s18 {g : GT} {ad : Nat → Nat} {A : Nat → Nat → Int32} {I : Nat → Int32} {F : Nat → Int32} : (wD g ad A I).set 18 (ad 18, .inl (g_I g, 240, .inl F)) = wD g ad (va_up A 18 F) I := rfl
theorem wD_a19 {g : GT} {ad : Nat → Nat} {A : Nat → Nat → Int32} {I : Nat → Int32} : (wD g ad A I)[19]? = some (ad 19, .inl (g_I g, 240, .inl (A 19))) := rfl
theorem wD_s19 {g : GT} {ad : Nat → Nat} {A : Nat → Nat → Int32} {I : Nat → Int32} {F : Nat → Int32} : (wD g ad A I).set 19 (ad 19, .inl (g_I g, 240, .inl F)) = wD g ad (va_up A 19 F) I := rfl
def fsD_20 (ad : Nat → Nat) (I : Nat → Int32) : List Value := [.ref (ad 21), .ref (ad 22), .int (I 6)]
theorem wD_o20 {g : GT} {ad : Nat → Nat} {A : Nat → Nat → Int32} {I : Nat → Int32} : (wD g ad A I)[20]? = some (ad 20, .inr (0, fsD_20 ad I)) := rfl
theorem wD_p20_2 {g : GT} {ad : Nat → Nat} {A : Nat → Nat → Int32} {I : Nat → Int32} {v : Int32} : (wD g ad A I).set 20 (ad 20, .inr (0, (fsD_20 ad I).set 2 (.int v))) = wD g ad A (va_up I 6 v) := rfl
theorem wD_a21 {g : GT} {ad : Nat → Nat} {A : Nat → Nat → Int32} {I : Nat → Int32} : (wD g ad A I)[21]? = some (ad 21, .inl (g_I g, 240, .inl (A 21))) := rfl
theorem wD_s21 {g : GT} {ad : Nat → Nat} {A : Nat → Nat → Int32} {I : Nat → Int32} {F : Nat → Int32} : (wD g ad A I).set 21 (ad 21, .inl (g_I g, 240, .inl F)) = wD g ad (va_up A 21 F) I := rfl
theorem wD_a22 {g : GT} {ad : Nat → Nat} {A : Nat → Nat → Int32} {I : Nat → Int32} : (wD g ad A I)[22]? = some (ad 22, .inl (g_I g, 240, .inl (A 22))) := rfl
theorem wD_s22 {g : GT} {ad : Nat → Nat} {A : Nat → Nat → Int32} {I : Nat → Int32} {F : Nat → Int32} : (wD g ad A I).set 22 (ad 22, .inl (g_I g, 240, .inl F)) = wD g ad (va_up A 22 F) I := rfl
def fsD_23 (ad : Nat → Nat) (I : Nat → Int32) : List Value := [.int (I 7), .int (I 8), .int (I 9), .ref (ad 24), .ref (ad 25), .ref (ad 26), .ref (ad 3), .ref (ad 12), .ref (ad 8), .ref (ad 20)]
theorem wD_o23 {g : GT} {ad : Nat → Nat} {A : Nat → Nat → Int32} {I : Nat → Int32} : (wD g ad A I)[23]? = some (ad 23, .inr (3, fsD_23 ad I)) := rfl
theorem wD_p23_0 {g : GT} {ad : Nat → Nat} {A : Nat → Nat → Int32} {I : Nat → Int32} {v : Int32} : (wD g ad A I).set 23 (ad 23, .inr (3, (fsD_23 ad I).set 0 (.int v))) = wD g ad A (va_up I 7 v) := rfl
theorem wD_p23_1 {g : GT} {ad : Nat → Nat} {A : Nat → Nat → Int32} {I : Nat → Int32} {v : Int32} : (wD g ad A I).set 23 (ad 23, .inr (3, (fsD_23 ad I).set 1 (.int v))) = wD g ad A (va_up I 8 v) := rfl
theorem wD_p23_2 {g : GT} {ad : Nat → Nat} {A : Nat → Nat → Int32} {I : Nat → Int32} {v : Int32} : (wD g ad A I).set 23 (ad 23, .inr (3, (fsD_23 ad I).set 2 (.int v))) = wD g ad A (va_up I 9 v) := rfl
theorem wD_a24 {g : GT} {ad : Nat → Nat} {A : Nat → Nat → Int32} {I : Nat → Int32} : (wD g ad A I)[24]? = some (ad 24, .inl (g_I g, 4, .inl (A 24))) := rfl
theorem wD_s24 {g : GT} {ad : Nat → Nat} {A : Nat → Nat → Int32} {I : Nat → Int32} {F : Nat → Int32} : (wD g ad A I).set 24 (ad 24, .inl (g_I g, 4, .inl F)) = wD g ad (va_up A 24 F) I := rfl
theorem wD_a25 {g : GT} {ad : Nat → Nat} {A : Nat → Nat → Int32} {I : Nat → Int32} : (wD g ad A I)[25]? = some (ad 25, .inl (g_I g, 4, .inl (A 25))) := rfl
theorem wD_s25 {g : GT} {ad : Nat → Nat} {A : Nat → Nat → Int32} {I : Nat → Int32} {F : Nat → Int32} : (wD g ad A I).set 25 (ad 25, .inl (g_I g, 4, .inl F)) = wD g ad (va_up A 25 F) I := rfl
theorem wD_a26 {g : GT} {ad : Nat → Nat} {A : Nat → Nat → Int32} {I : Nat → Int32} : (wD g ad A I)[26]? = some (ad 26, .inl (g_I g, 4, .inl (A 26))) := rfl
theorem wD_s26 {g : GT} {ad : Nat → Nat} {A : Nat → Nat → Int32} {I : Nat → Int32} {F : Nat → Int32} : (wD g ad A I).set 26 (ad 26, .inl (g_I g, 4, .inl F)) = wD g ad (va_up A 26 F) I := rfl
theorem wD_a27 {g : GT} {ad : Nat → Nat} {A : Nat → Nat → Int32} {I : Nat → Int32} : (wD g ad A I)[27]? = some (ad 27, .inl (g_I g, 5, .inl (A 27))) := rfl
theorem wD_s27 {g : GT} {ad : Nat → Nat} {A : Nat → Nat → Int32} {I : Nat → Int32} {F : Nat → Int32} : (wD g ad A I).set 27 (ad 27, .inl (g_I g, 5, .inl F)) = wD g ad (va_up A 27 F) I := rfl
theorem wD_a28 {g : GT} {ad : Nat → Nat} {A : Nat → Nat → Int32} {I : Nat → Int32} : (wD g ad A I)[28]? = some (ad 28, .inl (g_I g, 4, .inl (A 28))) := rfl
theorem wD_s28 {g : GT} {ad : Nat → Nat} {A : Nat → Nat → Int32} {I : Nat → Int32} {F : Nat → Int32} : (wD g ad A I).set 28 (ad 28, .inl (g_I g, 4, .inl F)) = wD g ad (va_up A 28 F) I := rfl
theorem wD_a29 {g : GT} {ad : Nat → Nat} {A : Nat → Nat → Int32} {I : Nat → Int32} : (wD g ad A I)[29]? = some (ad 29, .inl (g_I g, 244, .inl (A 29))) := rfl
theorem wD_s29 {g : GT} {ad : Nat → Nat} {A : Nat → Nat → Int32} {I : Nat → Int32} {F : Nat → Int32} : (wD g ad A I).set 29 (ad 29, .inl (g_I g, 244, .inl F)) = wD g ad (va_up A 29 F) I := rfl
def fsM_0 (ad : Nat → Nat) (I : Nat → Int32) : List Value := [.ref (ad 1), .int (I 0), .int (I 1), .ref (ad 2), .ref (ad 3), .int (I 2), .ref (ad 4), .int (I 3), .int (I 4), .int (I 5), .int (I 6)]
theorem wM_o0 {g : GT} {ad : Nat → Nat} {A : Nat → Nat → Int32} {I : Nat → Int32} : (wM g ad A I)[0]? = some (ad 0, .inr (4, fsM_0 ad I)) := rfl
theorem wM_p0_1 {g : GT} {ad : Nat → Nat} {A : Nat → Nat → Int32} {I : Nat → Int32} {v : Int32} : (wM g ad A I).set 0 (ad 0, .inr (4, (fsM_0 ad I).set 1 (.int v))) = wM g ad A (va_up I 0 v) := rfl
theorem wM_p0_2 {g : GT} {ad : Nat → Nat} {A : Nat → Nat → Int32} {I : Nat → Int32} {v : Int32} : (wM g ad A I).set 0 (ad 0, .inr (4, (fsM_0 ad I).set 2 (.int v))) = wM g ad A (va_up I 1 v) := rfl
theorem wM_p0_5 {g : GT} {ad : Nat → Nat} {A : Nat → Nat → Int32} {I : Nat → Int32} {v : Int32} : (wM g ad A I).set 0 (ad 0, .inr (4, (fsM_0 ad I).set 5 (.int v))) = wM g ad A (va_up I 2 v) := rfl
theorem wM_p0_7 {g : GT} {ad : Nat → Nat} {A : Nat → Nat → Int32} {I : Nat → Int32} {v : Int32} : (wM g ad A I).set 0 (ad 0, .inr (4, (fsM_0 ad I).set 7 (.int v))) = wM g ad A (va_up I 3 v) := rfl
theorem wM_p0_8 {g : GT} {ad : Nat → Nat} {A : Nat → Nat → Int32} {I : Nat → Int32} {v : Int32} : (wM g ad A I).set 0 (ad 0, .inr (4, (fsM_0 ad I).set 8 (.int v))) = wM g ad A (va_up I 4 v) := rfl
theorem wM_p0_9 {g : GT} {ad : Nat → Nat} {A : Nat → Nat → Int32} {I : Nat → Int32} {v : Int32} : (wM g ad A I).set 0 (ad 0, .inr (4, (fsM_0 ad I).set 9 (.int v))) = wM g ad A (va_up I 5 v) := rfl
theorem wM_p0_10 {g : GT} {ad : Nat → Nat} {A : Nat → Nat → Int32} {I : Nat → Int32} {v : Int32} : (wM g ad A I).set 0 (ad 0, .inr (4, (fsM_0 ad I).set 10 (.int v))) = wM g ad A (va_up I 6 v) := rfl
theorem wM_a1 {g : GT} {ad : Nat → Nat} {A : Nat → Nat → Int32} {I : Nat → Int32} : (wM g ad A I)[1]? = some (ad 1, .inl (g_I g, 32, .inl (A 1))) := rfl
theorem wM_s1 {g : GT} {ad : Nat → Nat} {A : Nat → Nat → Int32} {I : Nat → Int32} {F : Nat → Int32} : (wM g ad A I).set 1 (ad 1, .inl (g_I g, 32, .inl F)) = wM g ad (va_up A 1 F) I := rfl
theorem wM_a2 {g : GT} {ad : Nat → Nat} {A : Nat → Nat → Int32} {I : Nat → Int32} : (wM g ad A I)[2]? = some (ad 2, .inl (g_I g, 1920, .inl (A 2))) := rfl
theorem wM_s2 {g : GT} {ad : Nat → Nat} {A : Nat → Nat → Int32} {I : Nat → Int32} {F : Nat → Int32} : (wM g ad A I).set 2 (ad 2, .inl (g_I g, 1920, .inl F)) = wM g ad (va_up A 2 F) I := rfl
theorem wM_a3 {g : GT} {ad : Nat → Nat} {A : Nat → Nat → Int32} {I : Nat → Int32} : (wM g ad A I)[3]? = some (ad 3, .inl (g_I g, 960, .inl (A 3))) := rfl
theorem wM_s3 {g : GT} {ad : Nat → Nat} {A : Nat → Nat → Int32} {I : Nat → Int32} {F : Nat → Int32} : (wM g ad A I).set 3 (ad 3, .inl (g_I g, 960, .inl F)) = wM g ad (va_up A 3 F) I := rfl
theorem wM_a4 {g : GT} {ad : Nat → Nat} {A : Nat → Nat → Int32} {I : Nat → Int32} : (wM g ad A I)[4]? = some (ad 4, .inl (g_I g, 8, .inl (A 4))) := rfl
theorem wM_s4 {g : GT} {ad : Nat → Nat} {A : Nat → Nat → Int32} {I : Nat → Int32} {F : Nat → Int32} : (wM g ad A I).set 4 (ad 4, .inl (g_I g, 8, .inl F)) = wM g ad (va_up A 4 F) I := rfl
def fsR_0 (ad : Nat → Nat) (I : Nat → Int32) : List Value := [.ref (ad 1), .int (I 0), .ref (ad 2), .int (I 1), .ref (ad 3), .int (I 2), .ref (ad 4), .int (I 3), .ref (ad 5), .ref (ad 6), .ref (ad 7), .ref (ad 8), .ref (ad 9), .ref (ad 10), .ref (ad 11), .ref (ad 12), .ref (ad 13), .ref (ad 14), .ref (ad 15), .int (I 4), .ref (ad 16), .ref (ad 17), .ref (ad 18), .ref (ad 19), .int (I 5), .ref (ad 20), .int (I 6), .int (I 7), .ref (ad 21), .int (I 8), .ref (ad 22), .ref (ad 23), .int (I 9), .int (I 10), .int (I 11), .ref (ad 24), .ref (ad 25), .ref (ad 26), .ref (ad 27), .int (I 12), .ref (ad 28), .ref (ad 29), .ref (ad 30), .ref (ad 31), .ref (ad 32), .ref (ad 33), .ref (ad 34), .ref (ad 35), .int (I 13), .int (I 14), .int (I 15), .int (I 16), .ref (ad 36), .int (I 17)]
theorem wR_o0 {g : GT} {ad : Nat → Nat} {A : Nat → Nat → Int32} {I : Nat → Int32} {J : Nat → Nat → Int64} : (wR g ad A I J)[0]? = some (ad 0, .inr (9, fsR_0 ad I)) := rfl
theorem wR_p0_1 {g : GT} {ad : Nat → Nat} {A : Nat → Nat → Int32} {I : Nat → Int32} {J : Nat → Nat → Int64} {v : Int32} : (wR g ad A I J).set 0 (ad 0, .inr (9, (fsR_0 ad I).set 1 (.int v))) = wR g ad A (va_up I 0 v) J := rfl
theorem wR_p0_3 {g : GT} {ad : Nat → Nat} {A : Nat → Nat → Int32} {I : Nat → Int32} {J : Nat → Nat → Int64} {v : Int32} : (wR g ad A I J).set 0 (ad 0, .inr (9, (fsR_0 ad I).set 3 (.int v))) = wR g ad A (va_up I 1 v) J := rfl
theorem wR_p0_5 {g : GT} {ad : Nat → Nat} {A : Nat → Nat → Int32} {I : Nat → Int32} {J : Nat → Nat → Int64} {v : Int32} : (wR g ad A I J).set 0 (ad 0, .inr (9, (fsR_0 ad I).set 5 (.int v))) = wR g ad A (va_up I 2 v) J := rfl
theorem wR_p0_7 {g : GT} {ad : Nat → Nat} {A : Nat → Nat → Int32} {I : Nat → Int32} {J : Nat → Nat → Int64} {v : Int32} : (wR g ad A I J).set 0 (ad 0, .inr (9, (fsR_0 ad I).set 7 (.int v))) = wR g ad A (va_up I 3 v) J := rfl
theorem wR_p0_19 {g : GT} {ad : Nat → Nat} {A : Nat → Nat → Int32} {I : Nat → Int32} {J : Nat → Nat → Int64} {v : Int32} : (wR g ad A I J).set 0 (ad 0, .inr (9, (fsR_0 ad I).set 19 (.int v))) = wR g ad A (va_up I 4 v) J := rfl
theorem wR_p0_24 {g : GT} {ad : Nat → Nat} {A : Nat → Nat → Int32} {I : Nat → Int32} {J : Nat → Nat → Int64} {v : Int32} : (wR g ad A I J).set 0 (ad 0, .inr (9, (fsR_0 ad I).set 24 (.int v))) = wR g ad A (va_up I 5 v) J := rfl
theorem wR_p0_26 {g : GT} {ad : Nat → Nat} {A : Nat → Nat → Int32} {I : Nat → Int32} {J : Nat → Nat → Int64} {v : Int32} : (wR g ad A I J).set 0 (ad 0, .inr (9, (fsR_0 ad I).set 26 (.int v))) = wR g ad A (va_up I 6 v) J := rfl
theorem wR_p0_27 {g : GT} {ad : Nat → Nat} {A : Nat → Nat → Int32} {I : Nat → Int32} {J : Nat → Nat → Int64} {v : Int32} : (wR g ad A I J).set 0 (ad 0, .inr (9, (fsR_0 ad I).set 27 (.int v))) = wR g ad A (va_up I 7 v) J := rfl
theorem wR_p0_29 {g : GT} {ad : Nat → Nat} {A : Nat → Nat → Int32} {I : Nat → Int32} {J : Nat → Nat → Int64} {v : Int32} : (wR g ad A I J).set 0 (ad 0, .inr (9, (fsR_0 ad I).set 29 (.int v))) = wR g ad A (va_up I 8 v) J := rfl
theorem wR_p0_32 {g : GT} {ad : Nat → Nat} {A : Nat → Nat → Int32} {I : Nat → Int32} {J : Nat → Nat → Int64} {v : Int32} : (wR g ad A I J).set 0 (ad 0, .inr (9, (fsR_0 ad I).set 32 (.int v))) = wR g ad A (va_up I 9 v) J := rfl
theorem wR_p0_33 {g : GT} {ad : Nat → Nat} {A : Nat → Nat → Int32} {I : Nat → Int32} {J : Nat → Nat → Int64} {v : Int32} : (wR g ad A I J).set 0 (ad 0, .inr (9, (fsR_0 ad I).set 33 (.int v))) = wR g ad A (va_up I 10 v) J := rfl
theorem wR_p0_34 {g : GT} {ad : Nat → Nat} {A : Nat → Nat → Int32} {I : Nat → Int32} {J : Nat → Nat → Int64} {v : Int32} : (wR g ad A I J).set 0 (ad 0, .inr (9, (fsR_0 ad I).set 34 (.int v))) = wR g ad A (va_up I 11 v) J := rfl
theorem wR_p0_39 {g : GT} {ad : Nat → Nat} {A : Nat → Nat → Int32} {I : Nat → Int32} {J : Nat → Nat → Int64} {v : Int32} : (wR g ad A I J).set 0 (ad 0, .inr (9, (fsR_0 ad I).set 39 (.int v))) = wR g ad A (va_up I 12 v) J := rfl
theorem wR_p0_48 {g : GT} {ad : Nat → Nat} {A : Nat → Nat → Int32} {I : Nat → Int32} {J : Nat → Nat → Int64} {v : Int32} : (wR g ad A I J).set 0 (ad 0, .inr (9, (fsR_0 ad I).set 48 (.int v))) = wR g ad A (va_up I 13 v) J := rfl
theorem wR_p0_49 {g : GT} {ad : Nat → Nat} {A : Nat → Nat → Int32} {I : Nat → Int32} {J : Nat → Nat → Int64} {v : Int32} : (wR g ad A I J).set 0 (ad 0, .inr (9, (fsR_0 ad I).set 49 (.int v))) = wR g ad A (va_up I 14 v) J := rfl
theorem wR_p0_50 {g : GT} {ad : Nat → Nat} {A : Nat → Nat → Int32} {I : Nat → Int32} {J : Nat → Nat → Int64} {v : Int32} : (wR g ad A I J).set 0 (ad 0, .inr (9, (fsR_0 ad I).set 50 (.int v))) = wR g ad A (va_up I 15 v) J := rfl
theorem wR_p0_51 {g : GT} {ad : Nat → Nat} {A : Nat → Nat → Int32} {I : Nat → Int32} {J : Nat → Nat → Int64} {v : Int32} : (wR g ad A I J).set 0 (ad 0, .inr (9, (fsR_0 ad I).set 51 (.int v))) = wR g ad A (va_up I 16 v) J := rfl
theorem wR_p0_53 {g : GT} {ad : Nat → Nat} {A : Nat → Nat → Int32} {I : Nat → Int32} {J : Nat → Nat → Int64} {v : Int32} : (wR g ad A I J).set 0 (ad 0, .inr (9, (fsR_0 ad I).set 53 (.int v))) = wR g ad A (va_up I 17 v) J := rfl
theorem wR_a1 {g : GT} {ad : Nat → Nat} {A : Nat → Nat → Int32} {I : Nat → Int32} {J : Nat → Nat → Int64} : (wR g ad A I J)[1]? = some (ad 1, .inl (g_J g, 6, .inr (.inl (J 1)))) := rfl
theorem wR_s1 {g : GT} {ad : Nat → Nat} {A : Nat → Nat → Int32} {I : Nat → Int32} {J : Nat → Nat → Int64} {F : Nat → Int64} : (wR g ad A I J).set 1 (ad 1, .inl (g_J g, 6, .inr (.inl F))) = wR g ad A I (va_up J 1 F) := rfl
theorem wR_a2 {g : GT} {ad : Nat → Nat} {A : Nat → Nat → Int32} {I : Nat → Int32} {J : Nat → Nat → Int64} : (wR g ad A I J)[2]? = some (ad 2, .inl (g_I g, 240, .inl (A 2))) := rfl
theorem wR_s2 {g : GT} {ad : Nat → Nat} {A : Nat → Nat → Int32} {I : Nat → Int32} {J : Nat → Nat → Int64} {F : Nat → Int32} : (wR g ad A I J).set 2 (ad 2, .inl (g_I g, 240, .inl F)) = wR g ad (va_up A 2 F) I J := rfl
theorem wR_a3 {g : GT} {ad : Nat → Nat} {A : Nat → Nat → Int32} {I : Nat → Int32} {J : Nat → Nat → Int64} : (wR g ad A I J)[3]? = some (ad 3, .inl (g_I g, 240, .inl (A 3))) := rfl
theorem wR_s3 {g : GT} {ad : Nat → Nat} {A : Nat → Nat → Int32} {I : Nat → Int32} {J : Nat → Nat → Int64} {F : Nat → Int32} : (wR g ad A I J).set 3 (ad 3, .inl (g_I g, 240, .inl F)) = wR g ad (va_up A 3 F) I J := rfl
theorem wR_a4 {g : GT} {ad : Nat → Nat} {A : Nat → Nat → Int32} {I : Nat → Int32} {J : Nat → Nat → Int64} : (wR g ad A I J)[4]? = some (ad 4, .inl (g_I g, 240, .inl (A 4))) := rfl
theorem wR_s4 {g : GT} {ad : Nat → Nat} {A : Nat → Nat → Int32} {I : Nat → Int32} {J : Nat → Nat → Int64} {F : Nat → Int32} : (wR g ad A I J).set 4 (ad 4, .inl (g_I g, 240, .inl F)) = wR g ad (va_up A 4 F) I J := rfl
theorem wR_a5 {g : GT} {ad : Nat → Nat} {A : Nat → Nat → Int32} {I : Nat → Int32} {J : Nat → Nat → Int64} : (wR g ad A I J)[5]? = some (ad 5, .inl (g_I g, 240, .inl (A 5))) := rfl
theorem wR_s5 {g : GT} {ad : Nat → Nat} {A : Nat → Nat → Int32} {I : Nat → Int32} {J : Nat → Nat → Int64} {F : Nat → Int32} : (wR g ad A I J).set 5 (ad 5, .inl (g_I g, 240, .inl F)) = wR g ad (va_up A 5 F) I J := rfl
theorem wR_a6 {g : GT} {ad : Nat → Nat} {A : Nat → Nat → Int32} {I : Nat → Int32} {J : Nat → Nat → Int64} : (wR g ad A I J)[6]? = some (ad 6, .inl (g_I g, 240, .inl (A 6))) := rfl
theorem wR_s6 {g : GT} {ad : Nat → Nat} {A : Nat → Nat → Int32} {I : Nat → Int32} {J : Nat → Nat → Int64} {F : Nat → Int32} : (wR g ad A I J).set 6 (ad 6, .inl (g_I g, 240, .inl F)) = wR g ad (va_up A 6 F) I J := rfl
theorem wR_a7 {g : GT} {ad : Nat → Nat} {A : Nat → Nat → Int32} {I : Nat → Int32} {J : Nat → Nat → Int64} : (wR g ad A I J)[7]? = some (ad 7, .inl (g_I g, 240, .inl (A 7))) := rfl
theorem wR_s7 {g : GT} {ad : Nat → Nat} {A : Nat → Nat → Int32} {I : Nat → Int32} {J : Nat → Nat → Int64} {F : Nat → Int32} : (wR g ad A I J).set 7 (ad 7, .inl (g_I g, 240, .inl F)) = wR g ad (va_up A 7 F) I J := rfl
theorem wR_a8 {g : GT} {ad : Nat → Nat} {A : Nat → Nat → Int32} {I : Nat → Int32} {J : Nat → Nat → Int64} : (wR g ad A I J)[8]? = some (ad 8, .inl (g_J g, 240, .inr (.inl (J 8)))) := rfl
theorem wR_s8 {g : GT} {ad : Nat → Nat} {A : Nat → Nat → Int32} {I : Nat → Int32} {J : Nat → Nat → Int64} {F : Nat → Int64} : (wR g ad A I J).set 8 (ad 8, .inl (g_J g, 240, .inr (.inl F))) = wR g ad A I (va_up J 8 F) := rfl
theorem wR_a9 {g : GT} {ad : Nat → Nat} {A : Nat → Nat → Int32} {I : Nat → Int32} {J : Nat → Nat → Int64} : (wR g ad A I J)[9]? = some (ad 9, .inl (g_I g, 240, .inl (A 9))) := rfl
theorem wR_s9 {g : GT} {ad : Nat → Nat} {A : Nat → Nat → Int32} {I : Nat → Int32} {J : Nat → Nat → Int64} {F : Nat → Int32} : (wR g ad A I J).set 9 (ad 9, .inl (g_I g, 240, .inl F)) = wR g ad (va_up A 9 F) I J := rfl
theorem wR_a10 {g : GT} {ad : Nat → Nat} {A : Nat → Nat → Int32} {I : Nat → Int32} {J : Nat → Nat → Int64} : (wR g ad A I J)[10]? = some (ad 10, .inl (g_I g, 240, .inl (A 10))) := rfl
theorem wR_s10 {g : GT} {ad : Nat → Nat} {A : Nat → Nat → Int32} {I : Nat → Int32} {J : Nat → Nat → Int64} {F : Nat → Int32} : (wR g ad A I J).set 10 (ad 10, .inl (g_I g, 240, .inl F)) = wR g ad (va_up A 10 F) I J := rfl
theorem wR_a11 {g : GT} {ad : Nat → Nat} {A : Nat → Nat → Int32} {I : Nat → Int32} {J : Nat → Nat → Int64} : (wR g ad A I J)[11]? = some (ad 11, .inl (g_I g, 240, .inl (A 11))) := rfl
theorem wR_s11 {g : GT} {ad : Nat → Nat} {A : Nat → Nat → Int32} {I : Nat → Int32} {J : Nat → Nat → Int64} {F : Nat → Int32} : (wR g ad A I J).set 11 (ad 11, .inl (g_I g, 240, .inl F)) = wR g ad (va_up A 11 F) I J := rfl
theorem wR_a12 {g : GT} {ad : Nat → Nat} {A : Nat → Nat → Int32} {I : Nat → Int32} {J : Nat → Nat → Int64} : (wR g ad A I J)[12]? = some (ad 12, .inl (g_I g, 240, .inl (A 12))) := rfl
theorem wR_s12 {g : GT} {ad : Nat → Nat} {A : Nat → Nat → Int32} {I : Nat → Int32} {J : Nat → Nat → Int64} {F : Nat → Int32} : (wR g ad A I J).set 12 (ad 12, .inl (g_I g, 240, .inl F)) = wR g ad (va_up A 12 F) I J := rfl
theorem wR_a13 {g : GT} {ad : Nat → Nat} {A : Nat → Nat → Int32} {I : Nat → Int32} {J : Nat → Nat → Int64} : (wR g ad A I J)[13]? = some (ad 13, .inl (g_I g, 240, .inl (A 13))) := rfl
theorem wR_s13 {g : GT} {ad : Nat → Nat} {A : Nat → Nat → Int32} {I : Nat → Int32} {J : Nat → Nat → Int64} {F : Nat → Int32} : (wR g ad A I J).set 13 (ad 13, .inl (g_I g, 240, .inl F)) = wR g ad (va_up A 13 F) I J := rfl
theorem wR_a14 {g : GT} {ad : Nat → Nat} {A : Nat → Nat → Int32} {I : Nat → Int32} {J : Nat → Nat → Int64} : (wR g ad A I J)[14]? = some (ad 14, .inl (g_I g, 240, .inl (A 14))) := rfl
theorem wR_s14 {g : GT} {ad : Nat → Nat} {A : Nat → Nat → Int32} {I : Nat → Int32} {J : Nat → Nat → Int64} {F : Nat → Int32} : (wR g ad A I J).set 14 (ad 14, .inl (g_I g, 240, .inl F)) = wR g ad (va_up A 14 F) I J := rfl
theorem wR_a15 {g : GT} {ad : Nat → Nat} {A : Nat → Nat → Int32} {I : Nat → Int32} {J : Nat → Nat → Int64} : (wR g ad A I J)[15]? = some (ad 15, .inl (g_I g, 240, .inl (A 15))) := rfl
theorem wR_s15 {g : GT} {ad : Nat → Nat} {A : Nat → Nat → Int32} {I : Nat → Int32} {J : Nat → Nat → Int64} {F : Nat → Int32} : (wR g ad A I J).set 15 (ad 15, .inl (g_I g, 240, .inl F)) = wR g ad (va_up A 15 F) I J := rfl
theorem wR_a16 {g : GT} {ad : Nat → Nat} {A : Nat → Nat → Int32} {I : Nat → Int32} {J : Nat → Nat → Int64} : (wR g ad A I J)[16]? = some (ad 16, .inl (g_I g, 122, .inl (A 16))) := rfl
theorem wR_s16 {g : GT} {ad : Nat → Nat} {A : Nat → Nat → Int32} {I : Nat → Int32} {J : Nat → Nat → Int64} {F : Nat → Int32} : (wR g ad A I J).set 16 (ad 16, .inl (g_I g, 122, .inl F)) = wR g ad (va_up A 16 F) I J := rfl
theorem wR_a17 {g : GT} {ad : Nat → Nat} {A : Nat → Nat → Int32} {I : Nat → Int32} {J : Nat → Nat → Int64} : (wR g ad A I J)[17]? = some (ad 17, .inl (g_I g, 122, .inl (A 17))) := rfl
theorem wR_s17 {g : GT} {ad : Nat → Nat} {A : Nat → Nat → Int32} {I : Nat → Int32} {J : Nat → Nat → Int64} {F : Nat → Int32} : (wR g ad A I J).set 17 (ad 17, .inl (g_I g, 122, .inl F)) = wR g ad (va_up A 17 F) I J := rfl
theorem wR_a18 {g : GT} {ad : Nat → Nat} {A : Nat → Nat → Int32} {I : Nat → Int32} {J : Nat → Nat → Int64} : (wR g ad A I J)[18]? = some (ad 18, .inl (g_I g, 122, .inl (A 18))) := rfl
theorem wR_s18 {g : GT} {ad : Nat → Nat} {A : Nat → Nat → Int32} {I : Nat → Int32} {J : Nat → Nat → Int64} {F : Nat → Int32} : (wR g ad A I J).set 18 (ad 18, .inl (g_I g, 122, .inl F)) = wR g ad (va_up A 18 F) I J := rfl
theorem wR_a19 {g : GT} {ad : Nat → Nat} {A : Nat → Nat → Int32} {I : Nat → Int32} {J : Nat → Nat → Int64} : (wR g ad A I J)[19]? = some (ad 19, .inl (g_I g, 122, .inl (A 19))) := rfl
theorem wR_s19 {g : GT} {ad : Nat → Nat} {A : Nat → Nat → Int32} {I : Nat → Int32} {J : Nat → Nat → Int64} {F : Nat → Int32} : (wR g ad A I J).set 19 (ad 19, .inl (g_I g, 122, .inl F)) = wR g ad (va_up A 19 F) I J := rfl
theorem wR_a20 {g : GT} {ad : Nat → Nat} {A : Nat → Nat → Int32} {I : Nat → Int32} {J : Nat → Nat → Int64} : (wR g ad A I J)[20]? = some (ad 20, .inl (g_I g, 400, .inl (A 20))) := rfl
theorem wR_s20 {g : GT} {ad : Nat → Nat} {A : Nat → Nat → Int32} {I : Nat → Int32} {J : Nat → Nat → Int64} {F : Nat → Int32} : (wR g ad A I J).set 20 (ad 20, .inl (g_I g, 400, .inl F)) = wR g ad (va_up A 20 F) I J := rfl
theorem wR_a21 {g : GT} {ad : Nat → Nat} {A : Nat → Nat → Int32} {I : Nat → Int32} {J : Nat → Nat → Int64} : (wR g ad A I J)[21]? = some (ad 21, .inl (g_I g, 5, .inl (A 21))) := rfl
theorem wR_s21 {g : GT} {ad : Nat → Nat} {A : Nat → Nat → Int32} {I : Nat → Int32} {J : Nat → Nat → Int64} {F : Nat → Int32} : (wR g ad A I J).set 21 (ad 21, .inl (g_I g, 5, .inl F)) = wR g ad (va_up A 21 F) I J := rfl
theorem wR_a22 {g : GT} {ad : Nat → Nat} {A : Nat → Nat → Int32} {I : Nat → Int32} {J : Nat → Nat → Int64} : (wR g ad A I J)[22]? = some (ad 22, .inl (g_I g, 5, .inl (A 22))) := rfl
theorem wR_s22 {g : GT} {ad : Nat → Nat} {A : Nat → Nat → Int32} {I : Nat → Int32} {J : Nat → Nat → Int64} {F : Nat → Int32} : (wR g ad A I J).set 22 (ad 22, .inl (g_I g, 5, .inl F)) = wR g ad (va_up A 22 F) I J := rfl
theorem wR_a23 {g : GT} {ad : Nat → Nat} {A : Nat → Nat → Int32} {I : Nat → Int32} {J : Nat → Nat → Int64} : (wR g ad A I J)[23]? = some (ad 23, .inl (g_Z g, 5, .inl (A 23))) := rfl
theorem wR_s23 {g : GT} {ad : Nat → Nat} {A : Nat → Nat → Int32} {I : Nat → Int32} {J : Nat → Nat → Int64} {F : Nat → Int32} : (wR g ad A I J).set 23 (ad 23, .inl (g_Z g, 5, .inl F)) = wR g ad (va_up A 23 F) I J := rfl
theorem wR_a24 {g : GT} {ad : Nat → Nat} {A : Nat → Nat → Int32} {I : Nat → Int32} {J : Nat → Nat → Int64} : (wR g ad A I J)[24]? = some (ad 24, .inl (g_I g, 700, .inl (A 24))) := rfl
theorem wR_s24 {g : GT} {ad : Nat → Nat} {A : Nat → Nat → Int32} {I : Nat → Int32} {J : Nat → Nat → Int64} {F : Nat → Int32} : (wR g ad A I J).set 24 (ad 24, .inl (g_I g, 700, .inl F)) = wR g ad (va_up A 24 F) I J := rfl
theorem wR_a25 {g : GT} {ad : Nat → Nat} {A : Nat → Nat → Int32} {I : Nat → Int32} {J : Nat → Nat → Int64} : (wR g ad A I J)[25]? = some (ad 25, .inl (g_I g, 700, .inl (A 25))) := rfl
theorem wR_s25 {g : GT} {ad : Nat → Nat} {A : Nat → Nat → Int32} {I : Nat → Int32} {J : Nat → Nat → Int64} {F : Nat → Int32} : (wR g ad A I J).set 25 (ad 25, .inl (g_I g, 700, .inl F)) = wR g ad (va_up A 25 F) I J := rfl
theorem wR_a26 {g : GT} {ad : Nat → Nat} {A : Nat → Nat → Int32} {I : Nat → Int32} {J : Nat → Nat → Int64} : (wR g ad A I J)[26]? = some (ad 26, .inl (g_I g, 122, .inl (A 26))) := rfl
theorem wR_s26 {g : GT} {ad : Nat → Nat} {A : Nat → Nat → Int32} {I : Nat → Int32} {J : Nat → Nat → Int64} {F : Nat → Int32} : (wR g ad A I J).set 26 (ad 26, .inl (g_I g, 122, .inl F)) = wR g ad (va_up A 26 F) I J := rfl
theorem wR_a27 {g : GT} {ad : Nat → Nat} {A : Nat → Nat → Int32} {I : Nat → Int32} {J : Nat → Nat → Int64} : (wR g ad A I J)[27]? = some (ad 27, .inl (g_I g, 240, .inl (A 27))) := rfl
theorem wR_s27 {g : GT} {ad : Nat → Nat} {A : Nat → Nat → Int32} {I : Nat → Int32} {J : Nat → Nat → Int64} {F : Nat → Int32} : (wR g ad A I J).set 27 (ad 27, .inl (g_I g, 240, .inl F)) = wR g ad (va_up A 27 F) I J := rfl
theorem wR_a28 {g : GT} {ad : Nat → Nat} {A : Nat → Nat → Int32} {I : Nat → Int32} {J : Nat → Nat → Int64} : (wR g ad A I J)[28]? = some (ad 28, .inl (g_I g, 64, .inl (A 28))) := rfl
theorem wR_s28 {g : GT} {ad : Nat → Nat} {A : Nat → Nat → Int32} {I : Nat → Int32} {J : Nat → Nat → Int64} {F : Nat → Int32} : (wR g ad A I J).set 28 (ad 28, .inl (g_I g, 64, .inl F)) = wR g ad (va_up A 28 F) I J := rfl
theorem wR_a29 {g : GT} {ad : Nat → Nat} {A : Nat → Nat → Int32} {I : Nat → Int32} {J : Nat → Nat → Int64} : (wR g ad A I J)[29]? = some (ad 29, .inl (g_I g, 64, .inl (A 29))) := rfl
theorem wR_s29 {g : GT} {ad : Nat → Nat} {A : Nat → Nat → Int32} {I : Nat → Int32} {J : Nat → Nat → Int64} {F : Nat → Int32} : (wR g ad A I J).set 29 (ad 29, .inl (g_I g, 64, .inl F)) = wR g ad (va_up A 29 F) I J := rfl
theorem wR_a30 {g : GT} {ad : Nat → Nat} {A : Nat → Nat → Int32} {I : Nat → Int32} {J : Nat → Nat → Int64} : (wR g ad A I J)[30]? = some (ad 30, .inl (g_I g, 6, .inl (A 30))) := rfl
theorem wR_s30 {g : GT} {ad : Nat → Nat} {A : Nat → Nat → Int32} {I : Nat → Int32} {J : Nat → Nat → Int64} {F : Nat → Int32} : (wR g ad A I J).set 30 (ad 30, .inl (g_I g, 6, .inl F)) = wR g ad (va_up A 30 F) I J := rfl
theorem wR_a31 {g : GT} {ad : Nat → Nat} {A : Nat → Nat → Int32} {I : Nat → Int32} {J : Nat → Nat → Int64} : (wR g ad A I J)[31]? = some (ad 31, .inl (g_I g, 6, .inl (A 31))) := rfl
theorem wR_s31 {g : GT} {ad : Nat → Nat} {A : Nat → Nat → Int32} {I : Nat → Int32} {J : Nat → Nat → Int64} {F : Nat → Int32} : (wR g ad A I J).set 31 (ad 31, .inl (g_I g, 6, .inl F)) = wR g ad (va_up A 31 F) I J := rfl
theorem wR_a32 {g : GT} {ad : Nat → Nat} {A : Nat → Nat → Int32} {I : Nat → Int32} {J : Nat → Nat → Int64} : (wR g ad A I J)[32]? = some (ad 32, .inl (g_I g, 6, .inl (A 32))) := rfl
theorem wR_s32 {g : GT} {ad : Nat → Nat} {A : Nat → Nat → Int32} {I : Nat → Int32} {J : Nat → Nat → Int64} {F : Nat → Int32} : (wR g ad A I J).set 32 (ad 32, .inl (g_I g, 6, .inl F)) = wR g ad (va_up A 32 F) I J := rfl
theorem wR_a33 {g : GT} {ad : Nat → Nat} {A : Nat → Nat → Int32} {I : Nat → Int32} {J : Nat → Nat → Int64} : (wR g ad A I J)[33]? = some (ad 33, .inl (g_I g, 768, .inl (A 33))) := rfl
theorem wR_s33 {g : GT} {ad : Nat → Nat} {A : Nat → Nat → Int32} {I : Nat → Int32} {J : Nat → Nat → Int64} {F : Nat → Int32} : (wR g ad A I J).set 33 (ad 33, .inl (g_I g, 768, .inl F)) = wR g ad (va_up A 33 F) I J := rfl
theorem wR_a34 {g : GT} {ad : Nat → Nat} {A : Nat → Nat → Int32} {I : Nat → Int32} {J : Nat → Nat → Int64} : (wR g ad A I J)[34]? = some (ad 34, .inl (g_I g, 9, .inl (A 34))) := rfl
theorem wR_s34 {g : GT} {ad : Nat → Nat} {A : Nat → Nat → Int32} {I : Nat → Int32} {J : Nat → Nat → Int64} {F : Nat → Int32} : (wR g ad A I J).set 34 (ad 34, .inl (g_I g, 9, .inl F)) = wR g ad (va_up A 34 F) I J := rfl
theorem wR_a35 {g : GT} {ad : Nat → Nat} {A : Nat → Nat → Int32} {I : Nat → Int32} {J : Nat → Nat → Int64} : (wR g ad A I J)[35]? = some (ad 35, .inl (g_I g, 2000, .inl (A 35))) := rfl
theorem wR_s35 {g : GT} {ad : Nat → Nat} {A : Nat → Nat → Int32} {I : Nat → Int32} {J : Nat → Nat → Int64} {F : Nat → Int32} : (wR g ad A I J).set 35 (ad 35, .inl (g_I g, 2000, .inl F)) = wR g ad (va_up A 35 F) I J := rfl
theorem wR_a36 {g : GT} {ad : Nat → Nat} {A : Nat → Nat → Int32} {I : Nat → Int32} {J : Nat → Nat → Int64} : (wR g ad A I J)[36]? = some (ad 36, .inl (g_I g, 32, .inl (A 36))) := rfl
theorem wR_s36 {g : GT} {ad : Nat → Nat} {A : Nat → Nat → Int32} {I : Nat → Int32} {J : Nat → Nat → Int64} {F : Nat → Int32} : (wR g ad A I J).set 36 (ad 36, .inl (g_I g, 32, .inl F)) = wR g ad (va_up A 36 F) I J := rfl
theorem cv_Gr_readExpression : CV y_Gr_readExpression b_Gr_readExpression 2 (some .boolean) 1 := ⟨⟨tw529, tw9, by decide +kernel⟩, tw528, (sw_ (q := (y_Gr_readExpression, 10)) (by decide +kernel) (by decide +kernel))⟩
abbrev rmE (n : Nat) : Room := { frames := 6 * n, cells := 0, slots := 0, locals := 175 * n }
def EP (g : GT) (ad : Nat → Nat) (n : Nat) (E : Int32 × DS → Option (Int32 × DS)) : Prop := ∀ (x q : Int32 × DS), E x = some q → MI g y_Gr_readExpression b_Gr_readExpression 2 (some .boolean) (rmE n) [.ref (ad 23), .int x.1] (wD g ad x.2.1 x.2.2) q.1 (wD g ad q.2.1 q.2.2)
abbrev rm_Gr_readCall (n : Nat) : Room := { frames := 6 * n + 2, cells := 0, slots := 0, locals := 175 * n + 35 }
abbrev rm_Gr_readFactor (n : Nat) : Room := { frames := 6 * n + 3, cells := 0, slots := 0, locals := 175 * n + 70 }
abbrev rm_Gr_readTerm (n : Nat) : Room := { frames := 6 * n + 4, cells := 0, slots := 0, locals := 175 * n + 105 }
abbrev rm_Gr_readSum (n : Nat) : Room := { frames := 6 * n + 5, cells := 0, slots := 0, locals := 175 * n + 140 }
abbrev rm_Gr_readExpression (n : Nat) : Room := rmE (n + 1)
abbrev rm_X_isAllowed : Room := { frames := 0, cells := 0, slots := 0, locals := 0 }
theorem cv_X_isAllowed : CS y_X_isAllowed b_X_isAllowed 1 (some .boolean) 1 := ⟨⟨tw333, tw1, by decide +kernel⟩, tw332⟩
set_option maxHeartbeats 4000000 in
set_option maxRecDepth 100000 in
theorem c_X_isAllowed {g : GT} {a0 : Int32} {q : Int32} (hf : f_X_isAllowed a0 = some q) : MI g y_X_isAllowed b_X_isAllowed 1 (some .boolean) rm_X_isAllowed [.int a0] ([]) q ([]) := by
  refine MI.of (by decide) (Nat.le_of_ble_eq_true rfl) (fun 𝒥 C => ?_)
  unfold f_X_isAllowed at hf
  change 𝒥 0 0 ([]) [(0, .int a0)] [] 0
  refine j_iload_n (pc := 0) C d_X_isAllowed_0 rfl 0 rfl ?_
  refine j_bipush (pc := 1) C d_X_isAllowed_1 cb_32 ?_
  refine j_icmp_lt (pc := 3) C d_X_isAllowed_3 (tgt := 16) rfl (fun h1 => ?_) (fun h1 => ?_)
  · rw [if_pos h1] at hf
    refine j_iconst (pc := 16) C d_X_isAllowed_16 ck_0 ?_
    cases hf
    exact j_zret (pc := 17) C d_X_isAllowed_17 rfl ⟨rfl, rfl⟩ (Nat.le_of_ble_eq_true rfl) (Nat.le_of_ble_eq_true rfl)
  · rw [if_neg h1] at hf
    refine j_iload_n (pc := 6) C d_X_isAllowed_6 rfl 0 rfl ?_
    refine j_bipush (pc := 7) C d_X_isAllowed_7 cb_126 ?_
    refine j_icmp_gt (pc := 9) C d_X_isAllowed_9 (tgt := 16) rfl (fun h2 => ?_) (fun h2 => ?_)
    · rw [if_pos h2] at hf
      refine j_iconst (pc := 16) C d_X_isAllowed_16 ck_0 ?_
      cases hf
      exact j_zret (pc := 17) C d_X_isAllowed_17 rfl ⟨rfl, rfl⟩ (Nat.le_of_ble_eq_true rfl) (Nat.le_of_ble_eq_true rfl)
    · rw [if_neg h2] at hf
      refine j_iconst (pc := 12) C d_X_isAllowed_12 ck_1 ?_
      refine j_goto (pc := 13) C d_X_isAllowed_13 (tgt := 17) rfl ?_
      cases hf
      exact j_zret (pc := 17) C d_X_isAllowed_17 rfl ⟨rfl, rfl⟩ (Nat.le_of_ble_eq_true rfl) (Nat.le_of_ble_eq_true rfl)
abbrev rm_Te_add : Room := { frames := 0, cells := 0, slots := 0, locals := 0 }
theorem cv_Te_add : CV y_Te_add b_Te_add 2 none 1 := ⟨⟨tw337, tw4, by decide +kernel⟩, tw335, tw336⟩
set_option maxHeartbeats 4000000 in
set_option maxRecDepth 100000 in
theorem c_Te_add {g : GT} {ad : Nat → Nat} {a1 : Int32} {d : DS} {q : DS} (hf : f_Te_add a1 d = some q) : MV g y_Te_add b_Te_add 2 none rm_Te_add [.ref (ad 1), .int a1] (wD g ad d.1 d.2) (wD g ad q.1 q.2) := by
  refine MV.of (by decide) (Nat.le_of_ble_eq_true rfl) (fun 𝒥 C => ?_)
  unfold f_Te_add at hf
  change 𝒥 0 0 (wD g ad d.1 d.2) [(0, .ref (ad 1)), (1, .int a1)] [] 0
  refine j_aload_n (pc := 0) C d_Te_add_0 rfl 0 rfl ?_
  refine j_get (pc := 1) C d_Te_add_1 1 1 wD_o1 rfl (v := .int (d.2 3)) rfl (by decide) tw92 ?_
  refine j_sipush (pc := 4) C d_Te_add_4 cs_240 ?_
  refine j_icmp_ge (pc := 7) C d_Te_add_7 (tgt := 30) rfl (fun h1 => ?_) (fun h1 => ?_)
  · rw [if_pos h1] at hf
    cases hf
    exact j_vret (pc := 30) C d_Te_add_30 ⟨rfl, rfl⟩ (Nat.le_of_ble_eq_true rfl) (Nat.le_of_ble_eq_true rfl)
  · rw [if_neg h1] at hf
    refine j_aload_n (pc := 10) C d_Te_add_10 rfl 0 rfl ?_
    refine j_get (pc := 11) C d_Te_add_11 1 0 wD_o1 rfl (v := .ref (ad 2)) rfl (by decide) tw89 ?_
    refine j_aload_n (pc := 14) C d_Te_add_14 rfl 0 rfl ?_
    refine j_get (pc := 15) C d_Te_add_15 1 1 wD_o1 rfl (v := .int (d.2 3)) rfl (by decide) tw92 ?_
    refine j_iload_n (pc := 18) C d_Te_add_18 rfl 1 rfl ?_
    obtain ⟨b2, hf⟩ := og hf
    refine j_cast (pc := 19) C d_Te_add_19 2 (inb_in b2) wD_a2 (ws' := wD g ad (va_up d.1 2 (upd (d.1 2) (d.2 3).toNatClampNeg (vp_nar .char a1))) d.2) wD_s2 ?_
    refine j_aload_n (pc := 20) C d_Te_add_20 rfl 0 rfl ?_
    refine j_dup (pc := 21) C d_Te_add_21 rfl ?_
    refine j_get (pc := 22) C d_Te_add_22 1 1 wD_o1 rfl (v := .int (d.2 3)) rfl (by decide) tw92 ?_
    refine j_iconst (pc := 25) C d_Te_add_25 ck_1 ?_
    refine j_iadd (pc := 26) C d_Te_add_26 ?_
    refine j_put (pc := 27) C d_Te_add_27 1 1 wD_o1 rfl (by decide) tw92 pd_I rfl rfl rfl (Nat.le_of_ble_eq_true rfl) (ws' := wD g ad (va_up d.1 2 (upd (d.1 2) (d.2 3).toNatClampNeg (vp_nar .char a1))) (va_up d.2 3 ((d.2 3) + 1))) wD_p1_1 ?_
    cases hf
    exact j_vret (pc := 30) C d_Te_add_30 ⟨rfl, rfl⟩ (Nat.le_of_ble_eq_true rfl) (Nat.le_of_ble_eq_true rfl)
abbrev rm_X_type : Room := { frames := 1, cells := 0, slots := 0, locals := 21 }
theorem cv_X_type : CV y_X_type b_X_type 2 (some .boolean) 1 := ⟨⟨tw330, tw1, by decide +kernel⟩, tw328, tw329⟩
set_option maxHeartbeats 4000000 in
set_option maxRecDepth 100000 in
theorem c_X_type {g : GT} {ax : Nat → Nat} {am : Nat → Nat} {ad : Nat → Nat} {bd : Nat → Nat} {a1 : Int32} {k : DS} {d : DS} {b : DS} {q : Int32 × DS × DS × DS} (hf : f_X_type a1 k d b = some q) : MI g y_X_type b_X_type 2 (some .boolean) rm_X_type [.ref (ax 0), .int a1] (wX g ax am ad bd ++ (wM g am k.1 k.2 ++ (wD g ad d.1 d.2 ++ wD g bd b.1 b.2))) q.1 (wX g ax am ad bd ++ (wM g am q.2.1.1 q.2.1.2 ++ (wD g ad q.2.2.1.1 q.2.2.1.2 ++ wD g bd q.2.2.2.1 q.2.2.2.2))) := by
  refine MI.of (by decide) (Nat.le_of_ble_eq_true rfl) (fun 𝒥 C => ?_)
  unfold f_X_type at hf
  change 𝒥 0 0 (wX g ax am ad bd ++ (wM g am k.1 k.2 ++ (wD g ad d.1 d.2 ++ wD g bd b.1 b.2))) [(0, .ref (ax 0)), (1, .int a1)] [] 0
  refine j_iload_n (pc := 0) C d_X_type_0 rfl 1 rfl ?_
  obtain ⟨q1, eq1, hf⟩ := ob hf
  refine j_callSi (pc := 1) C (rest := []) d_X_type_1 (c_X_isAllowed (g := g)  eq1) cv_X_isAllowed tw331 cut_none rfl rfl (Nat.le_of_ble_eq_true rfl) (kc2 := 0) (ks2 := 0) (by decide) ?_
  refine j_if_eq (pc := 4) C d_X_type_4 (tgt := 23) rfl (fun h2 => ?_) (fun h2 => ?_)
  · rw [if_pos h2] at hf
    refine j_iconst (pc := 23) C d_X_type_23 ck_0 ?_
    cases hf
    exact j_zret (pc := 24) C d_X_type_24 rfl ⟨rfl, rfl⟩ (Nat.le_of_ble_eq_true rfl) (Nat.le_of_ble_eq_true rfl)
  · rw [if_neg h2] at hf
    refine j_aload_n (pc := 7) C d_X_type_7 rfl 0 rfl ?_
    refine j_get (pc := 8) C d_X_type_8 0 1 rfl rfl (v := .ref (ad 0)) rfl (by decide) tw318 ?_
    refine j_get (pc := 11) C d_X_type_11 6 0 rfl rfl (v := .ref (ad 1)) rfl (by decide) tw270 ?_
    refine j_get (pc := 14) C d_X_type_14 7 1 rfl rfl (v := .int (d.2 3)) rfl (by decide) tw94 ?_
    refine j_sipush (pc := 17) C d_X_type_17 cs_240 ?_
    refine j_icmp_lt (pc := 20) C d_X_type_20 (tgt := 25) rfl (fun h3 => ?_) (fun h3 => ?_)
    · rw [if_pos h3] at hf
      refine j_aload_n (pc := 25) C d_X_type_25 rfl 0 rfl ?_
      refine j_get (pc := 26) C d_X_type_26 0 1 rfl rfl (v := .ref (ad 0)) rfl (by decide) tw318 ?_
      refine j_get (pc := 29) C d_X_type_29 6 0 rfl rfl (v := .ref (ad 1)) rfl (by decide) tw270 ?_
      refine j_iload_n (pc := 32) C d_X_type_32 rfl 1 rfl ?_
      obtain ⟨q4, eq4, hf⟩ := ob hf
      refine j_callVv (pc := 33) C (rest := []) d_X_type_33 (c_Te_add (g := g) (ad := ad) eq4) cv_Te_add tw334 7 rfl rfl (cut_blk [wX g ax am ad bd, wM g am k.1 k.2, wD g ad d.1 d.2, wD g bd b.1 b.2] [wX g ax am ad bd, wM g am k.1 k.2, wD g ad q4.1 q4.2, wD g bd b.1 b.2] [0, 1, 3] [2] rfl rfl rfl rfl rfl rfl rfl) rfl rfl (Nat.le_of_ble_eq_true rfl) (kc2 := 0) (ks2 := 0) (by decide) ?_
      refine j_aload_n (pc := 36) C d_X_type_36 rfl 0 rfl ?_
      refine j_get (pc := 37) C d_X_type_37 0 1 rfl rfl (v := .ref (ad 0)) rfl (by decide) tw318 ?_
      refine j_iconst (pc := 40) C d_X_type_40 ck_0 ?_
      refine j_put (pc := 41) C d_X_type_41 6 11 rfl rfl (by decide) tw291 pd_Z rfl rfl rfl (Nat.le_of_ble_eq_true rfl) (ws' := wX g ax am ad bd ++ (wM g am k.1 k.2 ++ (wD g ad q4.1 (va_up q4.2 2 0) ++ wD g bd b.1 b.2))) rfl ?_
      refine j_iconst (pc := 44) C d_X_type_44 ck_1 ?_
      cases hf
      exact j_zret (pc := 45) C d_X_type_45 rfl ⟨rfl, rfl⟩ (Nat.le_of_ble_eq_true rfl) (Nat.le_of_ble_eq_true rfl)
    · rw [if_neg h3] at hf
      refine j_iconst (pc := 23) C d_X_type_23 ck_0 ?_
      cases hf
      exact j_zret (pc := 24) C d_X_type_24 rfl ⟨rfl, rfl⟩ (Nat.le_of_ble_eq_true rfl) (Nat.le_of_ble_eq_true rfl)
abbrev rm_X_lettersIn : Room := { frames := 0, cells := 0, slots := 0, locals := 0 }
theorem cv_X_lettersIn : CS y_X_lettersIn b_X_lettersIn 3 (some .int) 1 := ⟨⟨tw346, tw1, by decide +kernel⟩, tw345⟩
set_option maxHeartbeats 4000000 in
set_option maxRecDepth 100000 in
theorem c_X_lettersIn {g : GT} {a0 : Int32} {q : Int32} (hf : f_X_lettersIn a0 = some q) : MI g y_X_lettersIn b_X_lettersIn 3 (some .int) rm_X_lettersIn [.int a0] ([]) q ([]) := by
  refine MI.of (by decide) (Nat.le_of_ble_eq_true rfl) (fun 𝒥 C => ?_)
  have L4 : ∀ (n : Nat) (x : Int32 × Int32 × Int32), lpN (BX_lettersIn_4) n x = some q → 𝒥 0 0 ([]) [(0, .int x.1), (1, .int x.2.1), (2, .int x.2.2)] [] 4 := by
    refine lp_ind (fun k4 k4_ih x hf => ?_)
    unfold BX_lettersIn_4 at hf
    refine j_iload_n (pc := 4) C d_X_lettersIn_4 rfl 2 rfl ?_
    refine j_if_le (pc := 5) C d_X_lettersIn_5 (tgt := 18) rfl (fun h1 => ?_) (fun h1 => ?_)
    · rw [if_pos h1] at hf
      refine j_iload_n (pc := 18) C d_X_lettersIn_18 rfl 1 rfl ?_
      cases hf
      exact j_iret (pc := 19) C d_X_lettersIn_19 ⟨rfl, rfl⟩ (Nat.le_of_ble_eq_true rfl) (Nat.le_of_ble_eq_true rfl)
    · rw [if_neg h1] at hf
      refine j_iinc (pc := 8) C d_X_lettersIn_8 1 rfl (v := x.2.1 + 1) (iv ci_1) [1, 0, 2] (by decide) (lc' := [(0, .int x.1), (1, .int (x.2.1 + 1)), (2, .int x.2.2)]) rfl ?_
      refine j_iload_n (pc := 11) C d_X_lettersIn_11 rfl 2 rfl ?_
      refine j_iconst (pc := 12) C d_X_lettersIn_12 ck_5 ?_
      refine j_ishr (pc := 13) C d_X_lettersIn_13 ?_
      refine j_istore_n (pc := 14) C d_X_lettersIn_14 rfl [1, 2, 0] (by decide) (lc' := [(0, .int x.1), (1, .int (x.2.1 + 1)), (2, .int (x.2.2 >>> (5 &&& 31)))]) rfl ?_
      refine j_goto (pc := 15) C d_X_lettersIn_15 (tgt := 4) rfl ?_
      exact k4_ih (x.1, x.2.1 + 1, x.2.2 >>> (5 &&& 31)) hf
  unfold f_X_lettersIn at hf
  change 𝒥 0 0 ([]) [(0, .int a0)] [] 0
  refine j_iconst (pc := 0) C d_X_lettersIn_0 ck_0 ?_
  refine j_istore_n (pc := 1) C d_X_lettersIn_1 rfl [1, 0] (by decide) (lc' := [(0, .int a0), (1, .int 0)]) rfl ?_
  refine j_iload_n (pc := 2) C d_X_lettersIn_2 rfl 0 rfl ?_
  refine j_istore_n (pc := 3) C d_X_lettersIn_3 rfl [1, 2, 0] (by decide) (lc' := [(0, .int a0), (1, .int 0), (2, .int a0)]) rfl ?_
  exact L4 100000 (a0, 0, a0) hf
abbrev rm_Te_addName : Room := { frames := 1, cells := 0, slots := 0, locals := 21 }
theorem cv_Te_addName : CV y_Te_addName b_Te_addName 3 none 1 := ⟨⟨tw350, tw4, by decide +kernel⟩, tw348, tw349⟩
set_option maxHeartbeats 4000000 in
set_option maxRecDepth 100000 in
theorem c_Te_addName {g : GT} {ad : Nat → Nat} {a1 : Int32} {d : DS} {q : DS} (hf : f_Te_addName a1 d = some q) : MV g y_Te_addName b_Te_addName 3 none rm_Te_addName [.ref (ad 1), .int a1] (wD g ad d.1 d.2) (wD g ad q.1 q.2) := by
  refine MV.of (by decide) (Nat.le_of_ble_eq_true rfl) (fun 𝒥 C => ?_)
  have L2 : ∀ (n : Nat) (x : Int32 × Int32 × DS), lpN (BTe_addName_2) n x = some q → 𝒥 0 0 (wD g ad x.2.2.1 x.2.2.2) [(0, .ref (ad 1)), (1, .int x.1), (2, .int x.2.1)] [] 2 := by
    refine lp_ind (fun k2 k2_ih x hf => ?_)
    unfold BTe_addName_2 at hf
    refine j_iload_n (pc := 2) C d_Te_addName_2 rfl 2 rfl ?_
    refine j_if_le (pc := 3) C d_Te_addName_3 (tgt := 25) rfl (fun h1 => ?_) (fun h1 => ?_)
    · rw [if_pos h1] at hf
      cases hf
      exact j_vret (pc := 25) C d_Te_addName_25 ⟨rfl, rfl⟩ (Nat.le_of_ble_eq_true rfl) (Nat.le_of_ble_eq_true rfl)
    · rw [if_neg h1] at hf
      refine j_aload_n (pc := 6) C d_Te_addName_6 rfl 0 rfl ?_
      refine j_bipush (pc := 7) C d_Te_addName_7 cb_96 ?_
      refine j_iload_n (pc := 9) C d_Te_addName_9 rfl 2 rfl ?_
      refine j_bipush (pc := 10) C d_Te_addName_10 cb_31 ?_
      refine j_iand (pc := 12) C d_Te_addName_12 ?_
      refine j_iadd (pc := 13) C d_Te_addName_13 ?_
      refine j_i2c (pc := 14) C d_Te_addName_14 rfl ?_
      refine j_topi C (fun v2 ev2 => ?_)
      replace hf := ov ev2 hf
      obtain ⟨q3, eq3, hf⟩ := ob hf
      refine j_callVv (pc := 15) C (rest := []) d_Te_addName_15 (c_Te_add (g := g) (ad := ad) eq3) cv_Te_add tw351 1 rfl rfl cut_same rfl rfl (Nat.le_of_ble_eq_true rfl) (kc2 := 0) (ks2 := 0) (by decide) ?_
      refine j_iload_n (pc := 18) C d_Te_addName_18 rfl 2 rfl ?_
      refine j_iconst (pc := 19) C d_Te_addName_19 ck_5 ?_
      refine j_ishr (pc := 20) C d_Te_addName_20 ?_
      refine j_istore_n (pc := 21) C d_Te_addName_21 rfl [1, 2, 0] (by decide) (lc' := [(0, .ref (ad 1)), (1, .int x.1), (2, .int (x.2.1 >>> (5 &&& 31)))]) rfl ?_
      refine j_goto (pc := 22) C d_Te_addName_22 (tgt := 2) rfl ?_
      exact k2_ih (x.1, x.2.1 >>> (5 &&& 31), q3) hf
  unfold f_Te_addName at hf
  change 𝒥 0 0 (wD g ad d.1 d.2) [(0, .ref (ad 1)), (1, .int a1)] [] 0
  refine j_iload_n (pc := 0) C d_Te_addName_0 rfl 1 rfl ?_
  refine j_istore_n (pc := 1) C d_Te_addName_1 rfl [1, 2, 0] (by decide) (lc' := [(0, .ref (ad 1)), (1, .int a1), (2, .int a1)]) rfl ?_
  exact L2 100000 (a1, a1, d) hf
abbrev rm_X_word : Room := { frames := 2, cells := 0, slots := 0, locals := 43 }
theorem cv_X_word : CV y_X_word b_X_word 2 (some .boolean) 1 := ⟨⟨tw341, tw1, by decide +kernel⟩, tw339, tw340⟩
set_option maxHeartbeats 4000000 in
set_option maxRecDepth 100000 in
theorem c_X_word {g : GT} {ax : Nat → Nat} {am : Nat → Nat} {ad : Nat → Nat} {bd : Nat → Nat} {a1 : Int32} {k : DS} {d : DS} {b : DS} {q : Int32 × DS × DS × DS} (hf : f_X_word a1 k d b = some q) : MI g y_X_word b_X_word 2 (some .boolean) rm_X_word [.ref (ax 0), .int a1] (wX g ax am ad bd ++ (wM g am k.1 k.2 ++ (wD g ad d.1 d.2 ++ wD g bd b.1 b.2))) q.1 (wX g ax am ad bd ++ (wM g am q.2.1.1 q.2.1.2 ++ (wD g ad q.2.2.1.1 q.2.2.1.2 ++ wD g bd q.2.2.2.1 q.2.2.2.2))) := by
  refine MI.of (by decide) (Nat.le_of_ble_eq_true rfl) (fun 𝒥 C => ?_)
  unfold f_X_word at hf
  change 𝒥 0 0 (wX g ax am ad bd ++ (wM g am k.1 k.2 ++ (wD g ad d.1 d.2 ++ wD g bd b.1 b.2))) [(0, .ref (ax 0)), (1, .int a1)] [] 0
  refine j_iload_n (pc := 0) C d_X_word_0 rfl 1 rfl ?_
  refine j_if_lt (pc := 1) C d_X_word_1 (tgt := 39) rfl (fun h1 => ?_) (fun h1 => ?_)
  · rw [if_pos h1] at hf
    refine j_iconst (pc := 39) C d_X_word_39 ck_0 ?_
    cases hf
    exact j_zret (pc := 40) C d_X_word_40 rfl ⟨rfl, rfl⟩ (Nat.le_of_ble_eq_true rfl) (Nat.le_of_ble_eq_true rfl)
  · rw [if_neg h1] at hf
    refine j_iload_n (pc := 4) C d_X_word_4 rfl 1 rfl ?_
    refine j_gets (pc := 5) C d_X_word_5 tw342 ?_
    refine j_tlen (pc := 8) C d_X_word_8 ?_
    refine j_icmp_ge (pc := 9) C d_X_word_9 (tgt := 39) rfl (fun h2 => ?_) (fun h2 => ?_)
    · rw [if_pos h2] at hf
      refine j_iconst (pc := 39) C d_X_word_39 ck_0 ?_
      cases hf
      exact j_zret (pc := 40) C d_X_word_40 rfl ⟨rfl, rfl⟩ (Nat.le_of_ble_eq_true rfl) (Nat.le_of_ble_eq_true rfl)
    · rw [if_neg h2] at hf
      refine j_aload_n (pc := 12) C d_X_word_12 rfl 0 rfl ?_
      refine j_get (pc := 13) C d_X_word_13 0 1 rfl rfl (v := .ref (ad 0)) rfl (by decide) tw318 ?_
      refine j_get (pc := 16) C d_X_word_16 6 0 rfl rfl (v := .ref (ad 1)) rfl (by decide) tw270 ?_
      refine j_get (pc := 19) C d_X_word_19 7 1 rfl rfl (v := .int (d.2 3)) rfl (by decide) tw94 ?_
      refine j_gets (pc := 22) C d_X_word_22 tw342 ?_
      refine j_iload_n (pc := 25) C d_X_word_25 rfl 1 rfl ?_
      obtain ⟨b3, hf⟩ := og hf
      refine j_tld (pc := 26) C d_X_word_26 (inb_in b3) ?_
      obtain ⟨q4, eq4, hf⟩ := ob hf
      refine j_callSi (pc := 27) C (rest := [.int (d.2 3)]) d_X_word_27 (c_X_lettersIn (g := g)  eq4) cv_X_lettersIn tw344 cut_none rfl rfl (Nat.le_of_ble_eq_true rfl) (kc2 := 0) (ks2 := 0) (by decide) ?_
      refine j_iadd (pc := 30) C d_X_word_30 ?_
      refine j_iconst (pc := 31) C d_X_word_31 ck_1 ?_
      refine j_iadd (pc := 32) C d_X_word_32 ?_
      refine j_sipush (pc := 33) C d_X_word_33 cs_240 ?_
      refine j_icmp_le (pc := 36) C d_X_word_36 (tgt := 41) rfl (fun h5 => ?_) (fun h5 => ?_)
      · rw [if_pos h5] at hf
        refine j_aload_n (pc := 41) C d_X_word_41 rfl 0 rfl ?_
        refine j_get (pc := 42) C d_X_word_42 0 1 rfl rfl (v := .ref (ad 0)) rfl (by decide) tw318 ?_
        refine j_get (pc := 45) C d_X_word_45 6 0 rfl rfl (v := .ref (ad 1)) rfl (by decide) tw270 ?_
        refine j_gets (pc := 48) C d_X_word_48 tw342 ?_
        refine j_iload_n (pc := 51) C d_X_word_51 rfl 1 rfl ?_
        obtain ⟨b6, hf⟩ := og hf
        refine j_tld (pc := 52) C d_X_word_52 (inb_in b6) ?_
        obtain ⟨q7, eq7, hf⟩ := ob hf
        refine j_callVv (pc := 53) C (rest := []) d_X_word_53 (c_Te_addName (g := g) (ad := ad) eq7) cv_Te_addName tw347 7 rfl rfl (cut_blk [wX g ax am ad bd, wM g am k.1 k.2, wD g ad d.1 d.2, wD g bd b.1 b.2] [wX g ax am ad bd, wM g am k.1 k.2, wD g ad q7.1 q7.2, wD g bd b.1 b.2] [0, 1, 3] [2] rfl rfl rfl rfl rfl rfl rfl) rfl rfl (Nat.le_of_ble_eq_true rfl) (kc2 := 0) (ks2 := 0) (by decide) ?_
        refine j_aload_n (pc := 56) C d_X_word_56 rfl 0 rfl ?_
        refine j_get (pc := 57) C d_X_word_57 0 1 rfl rfl (v := .ref (ad 0)) rfl (by decide) tw318 ?_
        refine j_get (pc := 60) C d_X_word_60 6 0 rfl rfl (v := .ref (ad 1)) rfl (by decide) tw270 ?_
        refine j_bipush (pc := 63) C d_X_word_63 cb_32 ?_
        obtain ⟨q8, eq8, hf⟩ := ob hf
        refine j_callVv (pc := 65) C (rest := []) d_X_word_65 (c_Te_add (g := g) (ad := ad) eq8) cv_Te_add tw334 7 rfl rfl (cut_blk [wX g ax am ad bd, wM g am k.1 k.2, wD g ad q7.1 q7.2, wD g bd b.1 b.2] [wX g ax am ad bd, wM g am k.1 k.2, wD g ad q8.1 q8.2, wD g bd b.1 b.2] [0, 1, 3] [2] rfl rfl rfl rfl rfl rfl rfl) rfl rfl (Nat.le_of_ble_eq_true rfl) (kc2 := 0) (ks2 := 0) (by decide) ?_
        refine j_aload_n (pc := 68) C d_X_word_68 rfl 0 rfl ?_
        refine j_get (pc := 69) C d_X_word_69 0 1 rfl rfl (v := .ref (ad 0)) rfl (by decide) tw318 ?_
        refine j_iconst (pc := 72) C d_X_word_72 ck_0 ?_
        refine j_put (pc := 73) C d_X_word_73 6 11 rfl rfl (by decide) tw291 pd_Z rfl rfl rfl (Nat.le_of_ble_eq_true rfl) (ws' := wX g ax am ad bd ++ (wM g am k.1 k.2 ++ (wD g ad q8.1 (va_up q8.2 2 0) ++ wD g bd b.1 b.2))) rfl ?_
        refine j_iconst (pc := 76) C d_X_word_76 ck_1 ?_
        cases hf
        exact j_zret (pc := 77) C d_X_word_77 rfl ⟨rfl, rfl⟩ (Nat.le_of_ble_eq_true rfl) (Nat.le_of_ble_eq_true rfl)
      · rw [if_neg h5] at hf
        refine j_iconst (pc := 39) C d_X_word_39 ck_0 ?_
        cases hf
        exact j_zret (pc := 40) C d_X_word_40 rfl ⟨rfl, rfl⟩ (Nat.le_of_ble_eq_true rfl) (Nat.le_of_ble_eq_true rfl)
abbrev rm_Te_putBefore : Room := { frames := 0, cells := 0, slots := 0, locals := 0 }
theorem cv_Te_putBefore : CV y_Te_putBefore b_Te_putBefore 4 none 2 := ⟨⟨tw712, tw4, by decide +kernel⟩, tw710, tw711⟩
set_option maxHeartbeats 4000000 in
set_option maxRecDepth 100000 in
theorem c_Te_putBefore {g : GT} {ad : Nat → Nat} {a1 : Int32} {a2 : Int32} {d : DS} {q : DS} (hf : f_Te_putBefore a1 a2 d = some q) : MV g y_Te_putBefore b_Te_putBefore 4 none rm_Te_putBefore [.ref (ad 1), .int a1, .int a2] (wD g ad d.1 d.2) (wD g ad q.1 q.2) := by
  refine MV.of (by decide) (Nat.le_of_ble_eq_true rfl) (fun 𝒥 C => ?_)
  have L5 : ∀ (n : Nat) (x : Int32 × Int32 × Int32 × DS), lpN (BTe_putBefore_5) n x = some q → 𝒥 0 0 (wD g ad x.2.2.2.1 x.2.2.2.2) [(0, .ref (ad 1)), (1, .int x.1), (2, .int x.2.1), (3, .int x.2.2.1)] [] 5 := by
    refine lp_ind (fun k5 k5_ih x hf => ?_)
    unfold BTe_putBefore_5 at hf
    refine j_iload_n (pc := 5) C d_Te_putBefore_5 rfl 3 rfl ?_
    refine j_iload_n (pc := 6) C d_Te_putBefore_6 rfl 1 rfl ?_
    refine j_icmp_le (pc := 7) C d_Te_putBefore_7 (tgt := 30) rfl (fun h1 => ?_) (fun h1 => ?_)
    · rw [if_pos h1] at hf
      refine j_aload_n (pc := 30) C d_Te_putBefore_30 rfl 0 rfl ?_
      refine j_get (pc := 31) C d_Te_putBefore_31 1 0 wD_o1 rfl (v := .ref (ad 2)) rfl (by decide) tw89 ?_
      refine j_iload_n (pc := 34) C d_Te_putBefore_34 rfl 1 rfl ?_
      refine j_iload_n (pc := 35) C d_Te_putBefore_35 rfl 2 rfl ?_
      obtain ⟨b2, hf⟩ := og hf
      refine j_cast (pc := 36) C d_Te_putBefore_36 2 (inb_in b2) wD_a2 (ws' := wD g ad (va_up x.2.2.2.1 2 (upd (x.2.2.2.1 2) x.1.toNatClampNeg (vp_nar .char x.2.1))) x.2.2.2.2) wD_s2 ?_
      refine j_aload_n (pc := 37) C d_Te_putBefore_37 rfl 0 rfl ?_
      refine j_dup (pc := 38) C d_Te_putBefore_38 rfl ?_
      refine j_get (pc := 39) C d_Te_putBefore_39 1 1 wD_o1 rfl (v := .int (x.2.2.2.2 3)) rfl (by decide) tw92 ?_
      refine j_iconst (pc := 42) C d_Te_putBefore_42 ck_1 ?_
      refine j_iadd (pc := 43) C d_Te_putBefore_43 ?_
      refine j_put (pc := 44) C d_Te_putBefore_44 1 1 wD_o1 rfl (by decide) tw92 pd_I rfl rfl rfl (Nat.le_of_ble_eq_true rfl) (ws' := wD g ad (va_up x.2.2.2.1 2 (upd (x.2.2.2.1 2) x.1.toNatClampNeg (vp_nar .char x.2.1))) (va_up x.2.2.2.2 3 ((x.2.2.2.2 3) + 1))) wD_p1_1 ?_
      cases hf
      exact j_vret (pc := 47) C d_Te_putBefore_47 ⟨rfl, rfl⟩ (Nat.le_of_ble_eq_true rfl) (Nat.le_of_ble_eq_true rfl)
    · rw [if_neg h1] at hf
      refine j_aload_n (pc := 10) C d_Te_putBefore_10 rfl 0 rfl ?_
      refine j_get (pc := 11) C d_Te_putBefore_11 1 0 wD_o1 rfl (v := .ref (ad 2)) rfl (by decide) tw89 ?_
      refine j_iload_n (pc := 14) C d_Te_putBefore_14 rfl 3 rfl ?_
      refine j_aload_n (pc := 15) C d_Te_putBefore_15 rfl 0 rfl ?_
      refine j_get (pc := 16) C d_Te_putBefore_16 1 0 wD_o1 rfl (v := .ref (ad 2)) rfl (by decide) tw89 ?_
      refine j_iload_n (pc := 19) C d_Te_putBefore_19 rfl 3 rfl ?_
      refine j_iconst (pc := 20) C d_Te_putBefore_20 ck_1 ?_
      refine j_isub (pc := 21) C d_Te_putBefore_21 ?_
      obtain ⟨b3, hf⟩ := og hf
      refine j_cald (pc := 22) C d_Te_putBefore_22 2 (inb_in b3) (x := x.2.2.2.1 2 (x.2.2.1 - 1).toNatClampNeg) wD_a2 rfl ?_
      obtain ⟨b4, hf⟩ := og hf
      refine j_cast (pc := 23) C d_Te_putBefore_23 2 (inb_in b4) wD_a2 (ws' := wD g ad (va_up x.2.2.2.1 2 (upd (x.2.2.2.1 2) x.2.2.1.toNatClampNeg (vp_nar .char (x.2.2.2.1 2 (x.2.2.1 - 1).toNatClampNeg)))) x.2.2.2.2) wD_s2 ?_
      refine j_iinc (pc := 24) C d_Te_putBefore_24 3 rfl (v := x.2.2.1 - 1) id_m1 [1, 2, 3, 0] (by decide) (lc' := [(0, .ref (ad 1)), (1, .int x.1), (2, .int x.2.1), (3, .int (x.2.2.1 - 1))]) rfl ?_
      refine j_goto (pc := 27) C d_Te_putBefore_27 (tgt := 5) rfl ?_
      exact k5_ih (x.1, x.2.1, x.2.2.1 - 1, ((va_up x.2.2.2.1 2 (upd (x.2.2.2.1 2) x.2.2.1.toNatClampNeg (vp_nar .char (x.2.2.2.1 2 (x.2.2.1 - 1).toNatClampNeg)))), x.2.2.2.2)) hf
  unfold f_Te_putBefore at hf
  change 𝒥 0 0 (wD g ad d.1 d.2) [(0, .ref (ad 1)), (1, .int a1), (2, .int a2)] [] 0
  refine j_aload_n (pc := 0) C d_Te_putBefore_0 rfl 0 rfl ?_
  refine j_get (pc := 1) C d_Te_putBefore_1 1 1 wD_o1 rfl (v := .int (d.2 3)) rfl (by decide) tw92 ?_
  refine j_istore_n (pc := 4) C d_Te_putBefore_4 rfl [1, 2, 3, 0] (by decide) (lc' := [(0, .ref (ad 1)), (1, .int a1), (2, .int a2), (3, .int (d.2 3))]) rfl ?_
  exact L5 100000 (a1, a2, d.2 3, d) hf
theorem xt_thr : ∀ w ∈ Bundle.throwableAtoms, xOk w := List.forall_mem_cons.mpr ⟨.inr (.inl tw11), List.forall_mem_cons.mpr ⟨.inr (.inl tw636), List.forall_mem_cons.mpr ⟨.inr (.inl tw645), List.forall_mem_cons.mpr ⟨.inr (.inl tw651), List.forall_mem_cons.mpr ⟨.inr (.inl tw654), List.forall_mem_cons.mpr ⟨.inr (.inl tw656), List.forall_mem_cons.mpr ⟨.inr (.inl tw637), List.forall_mem_cons.mpr ⟨.inr (.inl tw638), List.forall_mem_cons.mpr ⟨.inr (.inl tw31), List.forall_mem_cons.mpr ⟨.inr (.inl tw32), List.forall_mem_cons.mpr ⟨.inr (.inl tw639), List.forall_mem_cons.mpr ⟨.inr (.inl tw644), List.forall_mem_cons.mpr ⟨.inr (.inl tw652), List.forall_mem_cons.mpr ⟨.inr (.inl tw668), List.forall_mem_cons.mpr ⟨.inr (.inl tw626), List.forall_mem_cons.mpr ⟨.inr (.inl tw669), List.forall_mem_cons.mpr ⟨.inr (.inl tw628), List.forall_mem_cons.mpr ⟨.inr (.inl tw670), List.forall_mem_cons.mpr ⟨.inr (.inl tw630), List.forall_mem_cons.mpr ⟨.inr (.inl tw640), List.forall_mem_cons.mpr ⟨.inl (List.mem_of_getElem? (i := 2) rfl), List.forall_mem_cons.mpr ⟨.inr (.inl tw642), List.forall_mem_cons.mpr ⟨.inl (List.mem_of_getElem? (i := 3) rfl), List.forall_mem_cons.mpr ⟨.inr (.inl tw632), fun _ h => nomatch h⟩⟩⟩⟩⟩⟩⟩⟩⟩⟩⟩⟩⟩⟩⟩⟩⟩⟩⟩⟩⟩⟩⟩⟩
theorem xt_1 : XT "ProgramDesk" 60 62 1 ["java/lang/RuntimeException", "java/lang/Exception"] := ⟨List.forall_mem_append.mpr ⟨List.forall_mem_append.mpr ⟨xt_thr, List.forall_mem_append.mpr ⟨List.forall_mem_cons.mpr ⟨.inr (.inl tw658), List.forall_mem_cons.mpr ⟨.inr (.inl tw659), List.forall_mem_cons.mpr ⟨.inr (.inl tw660), List.forall_mem_cons.mpr ⟨.inr (.inl tw661), List.forall_mem_cons.mpr ⟨.inr (.inr xw617), fun _ h => nomatch h⟩⟩⟩⟩⟩, List.forall_mem_append.mpr ⟨List.forall_mem_cons.mpr ⟨.inr (.inl tw661), List.forall_mem_cons.mpr ⟨.inr (.inl tw662), List.forall_mem_cons.mpr ⟨.inr (.inl tw663), List.forall_mem_cons.mpr ⟨.inr (.inl tw664), List.forall_mem_cons.mpr ⟨.inr (.inr xw619), fun _ h => nomatch h⟩⟩⟩⟩⟩, List.forall_mem_cons.mpr ⟨.inr (.inl tw664), List.forall_mem_cons.mpr ⟨.inr (.inl tw665), List.forall_mem_cons.mpr ⟨.inr (.inl tw666), List.forall_mem_cons.mpr ⟨.inr (.inl tw637), List.forall_mem_cons.mpr ⟨.inr (.inr xw621), fun _ h => nomatch h⟩⟩⟩⟩⟩⟩⟩⟩, List.forall_mem_cons.mpr ⟨.inr (.inl tw657), List.forall_mem_cons.mpr ⟨.inr (.inl tw615), List.forall_mem_cons.mpr ⟨.inr (.inr xw616), List.forall_mem_cons.mpr ⟨.inr (.inl tw623), List.forall_mem_cons.mpr ⟨.inr (.inl tw624), List.forall_mem_cons.mpr ⟨.inr (.inl tw625), List.forall_mem_cons.mpr ⟨.inr (.inl tw627), List.forall_mem_cons.mpr ⟨.inr (.inl tw629), List.forall_mem_cons.mpr ⟨.inr (.inl tw631), List.forall_mem_cons.mpr ⟨.inl (List.mem_of_getElem? (i := 0) rfl), List.forall_mem_cons.mpr ⟨.inl (List.mem_of_getElem? (i := 1) rfl), List.forall_mem_cons.mpr ⟨.inr (.inl tw635), List.forall_mem_cons.mpr ⟨.inr (.inl tw634), List.forall_mem_cons.mpr ⟨.inr (.inl tw633), fun _ h => nomatch h⟩⟩⟩⟩⟩⟩⟩⟩⟩⟩⟩⟩⟩⟩⟩, tw614, tw14, by decide +kernel, by decide +kernel⟩
theorem xt_2 : XT "ProgramDesk" 63 65 2 ["java/lang/RuntimeException", "java/lang/Exception"] := ⟨List.forall_mem_append.mpr ⟨List.forall_mem_append.mpr ⟨xt_thr, List.forall_mem_append.mpr ⟨List.forall_mem_cons.mpr ⟨.inr (.inl tw689), List.forall_mem_cons.mpr ⟨.inr (.inl tw690), List.forall_mem_cons.mpr ⟨.inr (.inl tw691), List.forall_mem_cons.mpr ⟨.inr (.inl tw661), List.forall_mem_cons.mpr ⟨.inr (.inr xw617), fun _ h => nomatch h⟩⟩⟩⟩⟩, List.forall_mem_append.mpr ⟨List.forall_mem_cons.mpr ⟨.inr (.inl tw661), List.forall_mem_cons.mpr ⟨.inr (.inl tw662), List.forall_mem_cons.mpr ⟨.inr (.inl tw663), List.forall_mem_cons.mpr ⟨.inr (.inl tw664), List.forall_mem_cons.mpr ⟨.inr (.inr xw619), fun _ h => nomatch h⟩⟩⟩⟩⟩, List.forall_mem_cons.mpr ⟨.inr (.inl tw664), List.forall_mem_cons.mpr ⟨.inr (.inl tw665), List.forall_mem_cons.mpr ⟨.inr (.inl tw666), List.forall_mem_cons.mpr ⟨.inr (.inl tw637), List.forall_mem_cons.mpr ⟨.inr (.inr xw621), fun _ h => nomatch h⟩⟩⟩⟩⟩⟩⟩⟩, List.forall_mem_cons.mpr ⟨.inr (.inl tw688), List.forall_mem_cons.mpr ⟨.inr (.inl tw680), List.forall_mem_cons.mpr ⟨.inr (.inr xw681), List.forall_mem_cons.mpr ⟨.inr (.inl tw682), List.forall_mem_cons.mpr ⟨.inr (.inl tw648), List.forall_mem_cons.mpr ⟨.inr (.inl tw683), List.forall_mem_cons.mpr ⟨.inr (.inl tw684), List.forall_mem_cons.mpr ⟨.inr (.inl tw685), List.forall_mem_cons.mpr ⟨.inr (.inl tw686), List.forall_mem_cons.mpr ⟨.inl (List.mem_of_getElem? (i := 0) rfl), List.forall_mem_cons.mpr ⟨.inl (List.mem_of_getElem? (i := 1) rfl), List.forall_mem_cons.mpr ⟨.inr (.inl tw635), List.forall_mem_cons.mpr ⟨.inr (.inl tw634), List.forall_mem_cons.mpr ⟨.inr (.inl tw687), fun _ h => nomatch h⟩⟩⟩⟩⟩⟩⟩⟩⟩⟩⟩⟩⟩⟩⟩, tw679, tw15, by decide +kernel, by decide +kernel⟩
theorem xt_3 : XT "ProgramDesk" 66 68 3 ["java/lang/RuntimeException", "java/lang/Exception"] := ⟨List.forall_mem_append.mpr ⟨List.forall_mem_append.mpr ⟨xt_thr, List.forall_mem_append.mpr ⟨List.forall_mem_cons.mpr ⟨.inr (.inl tw704), List.forall_mem_cons.mpr ⟨.inr (.inl tw705), List.forall_mem_cons.mpr ⟨.inr (.inl tw706), List.forall_mem_cons.mpr ⟨.inr (.inl tw661), List.forall_mem_cons.mpr ⟨.inr (.inr xw617), fun _ h => nomatch h⟩⟩⟩⟩⟩, List.forall_mem_append.mpr ⟨List.forall_mem_cons.mpr ⟨.inr (.inl tw661), List.forall_mem_cons.mpr ⟨.inr (.inl tw662), List.forall_mem_cons.mpr ⟨.inr (.inl tw663), List.forall_mem_cons.mpr ⟨.inr (.inl tw664), List.forall_mem_cons.mpr ⟨.inr (.inr xw619), fun _ h => nomatch h⟩⟩⟩⟩⟩, List.forall_mem_cons.mpr ⟨.inr (.inl tw664), List.forall_mem_cons.mpr ⟨.inr (.inl tw665), List.forall_mem_cons.mpr ⟨.inr (.inl tw666), List.forall_mem_cons.mpr ⟨.inr (.inl tw637), List.forall_mem_cons.mpr ⟨.inr (.inr xw621), fun _ h => nomatch h⟩⟩⟩⟩⟩⟩⟩⟩, List.forall_mem_cons.mpr ⟨.inr (.inl tw703), List.forall_mem_cons.mpr ⟨.inr (.inl tw695), List.forall_mem_cons.mpr ⟨.inr (.inr xw696), List.forall_mem_cons.mpr ⟨.inr (.inl tw697), List.forall_mem_cons.mpr ⟨.inr (.inl tw647), List.forall_mem_cons.mpr ⟨.inr (.inl tw698), List.forall_mem_cons.mpr ⟨.inr (.inl tw699), List.forall_mem_cons.mpr ⟨.inr (.inl tw700), List.forall_mem_cons.mpr ⟨.inr (.inl tw701), List.forall_mem_cons.mpr ⟨.inl (List.mem_of_getElem? (i := 0) rfl), List.forall_mem_cons.mpr ⟨.inl (List.mem_of_getElem? (i := 1) rfl), List.forall_mem_cons.mpr ⟨.inr (.inl tw635), List.forall_mem_cons.mpr ⟨.inr (.inl tw634), List.forall_mem_cons.mpr ⟨.inr (.inl tw702), fun _ h => nomatch h⟩⟩⟩⟩⟩⟩⟩⟩⟩⟩⟩⟩⟩⟩⟩, tw694, tw16, by decide +kernel, by decide +kernel⟩
theorem xt_4 : XT "ProgramDesk" 93 95 4 ["java/lang/RuntimeException", "java/lang/Exception"] := ⟨List.forall_mem_append.mpr ⟨List.forall_mem_append.mpr ⟨xt_thr, List.forall_mem_append.mpr ⟨List.forall_mem_cons.mpr ⟨.inr (.inl tw749), List.forall_mem_cons.mpr ⟨.inr (.inl tw750), List.forall_mem_cons.mpr ⟨.inr (.inl tw751), List.forall_mem_cons.mpr ⟨.inr (.inl tw661), List.forall_mem_cons.mpr ⟨.inr (.inr xw617), fun _ h => nomatch h⟩⟩⟩⟩⟩, List.forall_mem_append.mpr ⟨List.forall_mem_cons.mpr ⟨.inr (.inl tw661), List.forall_mem_cons.mpr ⟨.inr (.inl tw662), List.forall_mem_cons.mpr ⟨.inr (.inl tw663), List.forall_mem_cons.mpr ⟨.inr (.inl tw664), List.forall_mem_cons.mpr ⟨.inr (.inr xw619), fun _ h => nomatch h⟩⟩⟩⟩⟩, List.forall_mem_cons.mpr ⟨.inr (.inl tw664), List.forall_mem_cons.mpr ⟨.inr (.inl tw665), List.forall_mem_cons.mpr ⟨.inr (.inl tw666), List.forall_mem_cons.mpr ⟨.inr (.inl tw637), List.forall_mem_cons.mpr ⟨.inr (.inr xw621), fun _ h => nomatch h⟩⟩⟩⟩⟩⟩⟩⟩, List.forall_mem_cons.mpr ⟨.inr (.inl tw748), List.forall_mem_cons.mpr ⟨.inr (.inl tw740), List.forall_mem_cons.mpr ⟨.inr (.inr xw741), List.forall_mem_cons.mpr ⟨.inr (.inl tw742), List.forall_mem_cons.mpr ⟨.inr (.inl tw650), List.forall_mem_cons.mpr ⟨.inr (.inl tw743), List.forall_mem_cons.mpr ⟨.inr (.inl tw744), List.forall_mem_cons.mpr ⟨.inr (.inl tw745), List.forall_mem_cons.mpr ⟨.inr (.inl tw746), List.forall_mem_cons.mpr ⟨.inl (List.mem_of_getElem? (i := 0) rfl), List.forall_mem_cons.mpr ⟨.inl (List.mem_of_getElem? (i := 1) rfl), List.forall_mem_cons.mpr ⟨.inr (.inl tw635), List.forall_mem_cons.mpr ⟨.inr (.inl tw634), List.forall_mem_cons.mpr ⟨.inr (.inl tw747), fun _ h => nomatch h⟩⟩⟩⟩⟩⟩⟩⟩⟩⟩⟩⟩⟩⟩⟩, tw739, tw23, by decide +kernel, by decide +kernel⟩
theorem xt_5 : XT "ProgramDesk" 141 143 5 ["java/lang/RuntimeException", "java/lang/Exception"] := ⟨List.forall_mem_append.mpr ⟨List.forall_mem_append.mpr ⟨xt_thr, List.forall_mem_append.mpr ⟨List.forall_mem_cons.mpr ⟨.inr (.inl tw818), List.forall_mem_cons.mpr ⟨.inr (.inl tw819), List.forall_mem_cons.mpr ⟨.inr (.inl tw820), List.forall_mem_cons.mpr ⟨.inr (.inl tw661), List.forall_mem_cons.mpr ⟨.inr (.inr xw617), fun _ h => nomatch h⟩⟩⟩⟩⟩, List.forall_mem_append.mpr ⟨List.forall_mem_cons.mpr ⟨.inr (.inl tw661), List.forall_mem_cons.mpr ⟨.inr (.inl tw662), List.forall_mem_cons.mpr ⟨.inr (.inl tw663), List.forall_mem_cons.mpr ⟨.inr (.inl tw664), List.forall_mem_cons.mpr ⟨.inr (.inr xw619), fun _ h => nomatch h⟩⟩⟩⟩⟩, List.forall_mem_cons.mpr ⟨.inr (.inl tw664), List.forall_mem_cons.mpr ⟨.inr (.inl tw665), List.forall_mem_cons.mpr ⟨.inr (.inl tw666), List.forall_mem_cons.mpr ⟨.inr (.inl tw637), List.forall_mem_cons.mpr ⟨.inr (.inr xw621), fun _ h => nomatch h⟩⟩⟩⟩⟩⟩⟩⟩, List.forall_mem_cons.mpr ⟨.inr (.inl tw817), List.forall_mem_cons.mpr ⟨.inr (.inl tw809), List.forall_mem_cons.mpr ⟨.inr (.inr xw810), List.forall_mem_cons.mpr ⟨.inr (.inl tw811), List.forall_mem_cons.mpr ⟨.inr (.inl tw649), List.forall_mem_cons.mpr ⟨.inr (.inl tw812), List.forall_mem_cons.mpr ⟨.inr (.inl tw813), List.forall_mem_cons.mpr ⟨.inr (.inl tw814), List.forall_mem_cons.mpr ⟨.inr (.inl tw815), List.forall_mem_cons.mpr ⟨.inl (List.mem_of_getElem? (i := 0) rfl), List.forall_mem_cons.mpr ⟨.inl (List.mem_of_getElem? (i := 1) rfl), List.forall_mem_cons.mpr ⟨.inr (.inl tw635), List.forall_mem_cons.mpr ⟨.inr (.inl tw634), List.forall_mem_cons.mpr ⟨.inr (.inl tw816), fun _ h => nomatch h⟩⟩⟩⟩⟩⟩⟩⟩⟩⟩⟩⟩⟩⟩⟩, tw808, tw24, by decide +kernel, by decide +kernel⟩
abbrev rm_X_insert : Room := { frames := 6, cells := 1, slots := 6, locals := 81 }
theorem cv_X_insert : CV y_X_insert b_X_insert 3 none 2 := ⟨⟨tw613, tw1, by decide +kernel⟩, tw611, tw612⟩
set_option maxHeartbeats 4000000 in
set_option maxRecDepth 100000 in
theorem c_X_insert {g : GT} {ax : Nat → Nat} {am : Nat → Nat} {ad : Nat → Nat} {bd : Nat → Nat} {a1 : Int32} {a2 : Int32} {k : DS} {d : DS} {b : DS} {q : Nat × DS × DS × DS} (hf : f_X_insert a1 a2 k d b = some q) : MX g y_X_insert b_X_insert 3 none rm_X_insert [.ref (ax 0), .int a1, .int a2] (wX g ax am ad bd ++ (wM g am k.1 k.2 ++ (wD g ad d.1 d.2 ++ wD g bd b.1 b.2))) q.1 none (wX g ax am ad bd ++ (wM g am q.2.1.1 q.2.1.2 ++ (wD g ad q.2.2.1.1 q.2.2.1.2 ++ wD g bd q.2.2.2.1 q.2.2.2.2))) := by
  refine MX.of (by decide) (Nat.le_of_ble_eq_true rfl) (fun 𝒥 CX => ?_)
  have C := CX.K
  unfold f_X_insert at hf
  change 𝒥 0 0 (wX g ax am ad bd ++ (wM g am k.1 k.2 ++ (wD g ad d.1 d.2 ++ wD g bd b.1 b.2))) [(0, .ref (ax 0)), (1, .int a1), (2, .int a2)] [] 0
  refine j_iload_n (pc := 0) C d_X_insert_0 rfl 2 rfl ?_
  obtain ⟨q1, eq1, hf⟩ := ob hf
  refine j_callSi (pc := 1) C (rest := []) d_X_insert_1 (c_X_isAllowed (g := g)  eq1) cv_X_isAllowed tw331 cut_none rfl rfl (Nat.le_of_ble_eq_true rfl) (kc2 := 0) (ks2 := 0) (by decide) ?_
  refine j_if_ne (pc := 4) C d_X_insert_4 (tgt := 15) rfl (fun h2 => ?_) (fun h2 => ?_)
  · rw [if_neg h2] at hf
    refine j_iload_n (pc := 15) C d_X_insert_15 rfl 1 rfl ?_
    refine j_if_lt (pc := 16) C d_X_insert_16 (tgt := 33) rfl (fun h3 => ?_) (fun h3 => ?_)
    · rw [if_pos h3] at hf
      cases hf
      exact j_throw (pc := 33) CX xt_2 d_X_insert_33 d_X_insert_36 d_X_insert_37 d_X_insert_40 ⟨by decide, rfl, rfl⟩ (by decide)
    · rw [if_neg h3] at hf
      refine j_iload_n (pc := 19) C d_X_insert_19 rfl 1 rfl ?_
      refine j_aload_n (pc := 20) C d_X_insert_20 rfl 0 rfl ?_
      refine j_get (pc := 21) C d_X_insert_21 0 1 rfl rfl (v := .ref (ad 0)) rfl (by decide) tw318 ?_
      refine j_get (pc := 24) C d_X_insert_24 6 0 rfl rfl (v := .ref (ad 1)) rfl (by decide) tw270 ?_
      refine j_get (pc := 27) C d_X_insert_27 7 1 rfl rfl (v := .int (d.2 3)) rfl (by decide) tw94 ?_
      refine j_icmp_le (pc := 30) C d_X_insert_30 (tgt := 41) rfl (fun h4 => ?_) (fun h4 => ?_)
      · rw [if_pos h4] at hf
        refine j_aload_n (pc := 41) C d_X_insert_41 rfl 0 rfl ?_
        refine j_get (pc := 42) C d_X_insert_42 0 1 rfl rfl (v := .ref (ad 0)) rfl (by decide) tw318 ?_
        refine j_get (pc := 45) C d_X_insert_45 6 0 rfl rfl (v := .ref (ad 1)) rfl (by decide) tw270 ?_
        refine j_get (pc := 48) C d_X_insert_48 7 1 rfl rfl (v := .int (d.2 3)) rfl (by decide) tw94 ?_
        refine j_sipush (pc := 51) C d_X_insert_51 cs_240 ?_
        refine j_icmp_lt (pc := 54) C d_X_insert_54 (tgt := 65) rfl (fun h5 => ?_) (fun h5 => ?_)
        · rw [if_pos h5] at hf
          refine j_aload_n (pc := 65) C d_X_insert_65 rfl 0 rfl ?_
          refine j_get (pc := 66) C d_X_insert_66 0 1 rfl rfl (v := .ref (ad 0)) rfl (by decide) tw318 ?_
          refine j_get (pc := 69) C d_X_insert_69 6 0 rfl rfl (v := .ref (ad 1)) rfl (by decide) tw270 ?_
          refine j_iload_n (pc := 72) C d_X_insert_72 rfl 1 rfl ?_
          refine j_iload_n (pc := 73) C d_X_insert_73 rfl 2 rfl ?_
          obtain ⟨q6, eq6, hf⟩ := ob hf
          refine j_callVv (pc := 74) C (rest := []) d_X_insert_74 (c_Te_putBefore (g := g) (ad := ad) eq6) cv_Te_putBefore tw709 7 rfl rfl (cut_blk [wX g ax am ad bd, wM g am k.1 k.2, wD g ad d.1 d.2, wD g bd b.1 b.2] [wX g ax am ad bd, wM g am k.1 k.2, wD g ad q6.1 q6.2, wD g bd b.1 b.2] [0, 1, 3] [2] rfl rfl rfl rfl rfl rfl rfl) rfl rfl (Nat.le_of_ble_eq_true rfl) (kc2 := 0) (ks2 := 0) (by decide) ?_
          refine j_aload_n (pc := 77) C d_X_insert_77 rfl 0 rfl ?_
          refine j_get (pc := 78) C d_X_insert_78 0 1 rfl rfl (v := .ref (ad 0)) rfl (by decide) tw318 ?_
          refine j_iconst (pc := 81) C d_X_insert_81 ck_0 ?_
          refine j_put (pc := 82) C d_X_insert_82 6 11 rfl rfl (by decide) tw291 pd_Z rfl rfl rfl (Nat.le_of_ble_eq_true rfl) (ws' := wX g ax am ad bd ++ (wM g am k.1 k.2 ++ (wD g ad q6.1 (va_up q6.2 2 0) ++ wD g bd b.1 b.2))) rfl ?_
          cases hf
          exact j_vret (pc := 85) C d_X_insert_85 ⟨rfl, rfl, rfl⟩ (Nat.le_of_ble_eq_true rfl) (Nat.le_of_ble_eq_true rfl)
        · rw [if_neg h5] at hf
          cases hf
          exact j_throw (pc := 57) CX xt_3 d_X_insert_57 d_X_insert_60 d_X_insert_61 d_X_insert_64 ⟨by decide, rfl, rfl⟩ (by decide)
      · rw [if_neg h4] at hf
        cases hf
        exact j_throw (pc := 33) CX xt_2 d_X_insert_33 d_X_insert_36 d_X_insert_37 d_X_insert_40 ⟨by decide, rfl, rfl⟩ (by decide)
  · rw [if_pos h2] at hf
    cases hf
    exact j_throw (pc := 7) CX xt_1 d_X_insert_7 d_X_insert_10 d_X_insert_11 d_X_insert_14 ⟨by decide, rfl, rfl⟩ (by decide)
abbrev rm_Te_takeOut : Room := { frames := 0, cells := 0, slots := 0, locals := 0 }
theorem cv_Te_takeOut : CV y_Te_takeOut b_Te_takeOut 4 none 2 := ⟨⟨tw723, tw4, by decide +kernel⟩, tw721, tw722⟩
set_option maxHeartbeats 4000000 in
set_option maxRecDepth 100000 in
theorem c_Te_takeOut {g : GT} {ad : Nat → Nat} {a1 : Int32} {a2 : Int32} {d : DS} {q : DS} (hf : f_Te_takeOut a1 a2 d = some q) : MV g y_Te_takeOut b_Te_takeOut 4 none rm_Te_takeOut [.ref (ad 1), .int a1, .int a2] (wD g ad d.1 d.2) (wD g ad q.1 q.2) := by
  refine MV.of (by decide) (Nat.le_of_ble_eq_true rfl) (fun 𝒥 C => ?_)
  have L4 : ∀ (n : Nat) (x : Int32 × Int32 × Int32 × DS), lpN (BTe_takeOut_4) n x = some q → 𝒥 0 0 (wD g ad x.2.2.2.1 x.2.2.2.2) [(0, .ref (ad 1)), (1, .int x.1), (2, .int x.2.1), (3, .int x.2.2.1)] [] 4 := by
    refine lp_ind (fun k4 k4_ih x hf => ?_)
    unfold BTe_takeOut_4 at hf
    refine j_iload_n (pc := 4) C d_Te_takeOut_4 rfl 3 rfl ?_
    refine j_aload_n (pc := 5) C d_Te_takeOut_5 rfl 0 rfl ?_
    refine j_get (pc := 6) C d_Te_takeOut_6 1 1 wD_o1 rfl (v := .int (x.2.2.2.2 3)) rfl (by decide) tw92 ?_
    refine j_icmp_ge (pc := 9) C d_Te_takeOut_9 (tgt := 32) rfl (fun h1 => ?_) (fun h1 => ?_)
    · rw [if_pos h1] at hf
      refine j_aload_n (pc := 32) C d_Te_takeOut_32 rfl 0 rfl ?_
      refine j_dup (pc := 33) C d_Te_takeOut_33 rfl ?_
      refine j_get (pc := 34) C d_Te_takeOut_34 1 1 wD_o1 rfl (v := .int (x.2.2.2.2 3)) rfl (by decide) tw92 ?_
      refine j_iload_n (pc := 37) C d_Te_takeOut_37 rfl 2 rfl ?_
      refine j_isub (pc := 38) C d_Te_takeOut_38 ?_
      refine j_put (pc := 39) C d_Te_takeOut_39 1 1 wD_o1 rfl (by decide) tw92 pd_I rfl rfl rfl (Nat.le_of_ble_eq_true rfl) (ws' := wD g ad x.2.2.2.1 (va_up x.2.2.2.2 3 ((x.2.2.2.2 3) - x.2.1))) wD_p1_1 ?_
      cases hf
      exact j_vret (pc := 42) C d_Te_takeOut_42 ⟨rfl, rfl⟩ (Nat.le_of_ble_eq_true rfl) (Nat.le_of_ble_eq_true rfl)
    · rw [if_neg h1] at hf
      refine j_aload_n (pc := 12) C d_Te_takeOut_12 rfl 0 rfl ?_
      refine j_get (pc := 13) C d_Te_takeOut_13 1 0 wD_o1 rfl (v := .ref (ad 2)) rfl (by decide) tw89 ?_
      refine j_iload_n (pc := 16) C d_Te_takeOut_16 rfl 3 rfl ?_
      refine j_iload_n (pc := 17) C d_Te_takeOut_17 rfl 2 rfl ?_
      refine j_isub (pc := 18) C d_Te_takeOut_18 ?_
      refine j_aload_n (pc := 19) C d_Te_takeOut_19 rfl 0 rfl ?_
      refine j_get (pc := 20) C d_Te_takeOut_20 1 0 wD_o1 rfl (v := .ref (ad 2)) rfl (by decide) tw89 ?_
      refine j_iload_n (pc := 23) C d_Te_takeOut_23 rfl 3 rfl ?_
      obtain ⟨b2, hf⟩ := og hf
      refine j_cald (pc := 24) C d_Te_takeOut_24 2 (inb_in b2) (x := x.2.2.2.1 2 x.2.2.1.toNatClampNeg) wD_a2 rfl ?_
      obtain ⟨b3, hf⟩ := og hf
      refine j_cast (pc := 25) C d_Te_takeOut_25 2 (inb_in b3) wD_a2 (ws' := wD g ad (va_up x.2.2.2.1 2 (upd (x.2.2.2.1 2) (x.2.2.1 - x.2.1).toNatClampNeg (vp_nar .char (x.2.2.2.1 2 x.2.2.1.toNatClampNeg)))) x.2.2.2.2) wD_s2 ?_
      refine j_iinc (pc := 26) C d_Te_takeOut_26 3 rfl (v := x.2.2.1 + 1) (iv ci_1) [1, 2, 3, 0] (by decide) (lc' := [(0, .ref (ad 1)), (1, .int x.1), (2, .int x.2.1), (3, .int (x.2.2.1 + 1))]) rfl ?_
      refine j_goto (pc := 29) C d_Te_takeOut_29 (tgt := 4) rfl ?_
      exact k4_ih (x.1, x.2.1, x.2.2.1 + 1, ((va_up x.2.2.2.1 2 (upd (x.2.2.2.1 2) (x.2.2.1 - x.2.1).toNatClampNeg (vp_nar .char (x.2.2.2.1 2 x.2.2.1.toNatClampNeg)))), x.2.2.2.2)) hf
  unfold f_Te_takeOut at hf
  change 𝒥 0 0 (wD g ad d.1 d.2) [(0, .ref (ad 1)), (1, .int a1), (2, .int a2)] [] 0
  refine j_iload_n (pc := 0) C d_Te_takeOut_0 rfl 1 rfl ?_
  refine j_iload_n (pc := 1) C d_Te_takeOut_1 rfl 2 rfl ?_
  refine j_iadd (pc := 2) C d_Te_takeOut_2 ?_
  refine j_istore_n (pc := 3) C d_Te_takeOut_3 rfl [1, 2, 3, 0] (by decide) (lc' := [(0, .ref (ad 1)), (1, .int a1), (2, .int a2), (3, .int (a1 + a2))]) rfl ?_
  exact L4 100000 (a1, a2, a1 + a2, d) hf
abbrev rm_X_remove : Room := { frames := 6, cells := 1, slots := 6, locals := 81 }
theorem cv_X_remove : CV y_X_remove b_X_remove 3 none 2 := ⟨⟨tw719, tw1, by decide +kernel⟩, tw717, tw718⟩
set_option maxHeartbeats 4000000 in
set_option maxRecDepth 100000 in
theorem c_X_remove {g : GT} {ax : Nat → Nat} {am : Nat → Nat} {ad : Nat → Nat} {bd : Nat → Nat} {a1 : Int32} {a2 : Int32} {k : DS} {d : DS} {b : DS} {q : Nat × DS × DS × DS} (hf : f_X_remove a1 a2 k d b = some q) : MX g y_X_remove b_X_remove 3 none rm_X_remove [.ref (ax 0), .int a1, .int a2] (wX g ax am ad bd ++ (wM g am k.1 k.2 ++ (wD g ad d.1 d.2 ++ wD g bd b.1 b.2))) q.1 none (wX g ax am ad bd ++ (wM g am q.2.1.1 q.2.1.2 ++ (wD g ad q.2.2.1.1 q.2.2.1.2 ++ wD g bd q.2.2.2.1 q.2.2.2.2))) := by
  refine MX.of (by decide) (Nat.le_of_ble_eq_true rfl) (fun 𝒥 CX => ?_)
  have C := CX.K
  unfold f_X_remove at hf
  change 𝒥 0 0 (wX g ax am ad bd ++ (wM g am k.1 k.2 ++ (wD g ad d.1 d.2 ++ wD g bd b.1 b.2))) [(0, .ref (ax 0)), (1, .int a1), (2, .int a2)] [] 0
  refine j_iload_n (pc := 0) C d_X_remove_0 rfl 2 rfl ?_
  refine j_if_ge (pc := 1) C d_X_remove_1 (tgt := 12) rfl (fun h1 => ?_) (fun h1 => ?_)
  · rw [if_pos h1] at hf
    refine j_iload_n (pc := 12) C d_X_remove_12 rfl 1 rfl ?_
    refine j_if_lt (pc := 13) C d_X_remove_13 (tgt := 32) rfl (fun h2 => ?_) (fun h2 => ?_)
    · rw [if_pos h2] at hf
      cases hf
      exact j_throw (pc := 32) CX xt_2 d_X_remove_32 d_X_remove_35 d_X_remove_36 d_X_remove_39 ⟨by decide, rfl, rfl⟩ (by decide)
    · rw [if_neg h2] at hf
      refine j_iload_n (pc := 16) C d_X_remove_16 rfl 2 rfl ?_
      refine j_aload_n (pc := 17) C d_X_remove_17 rfl 0 rfl ?_
      refine j_get (pc := 18) C d_X_remove_18 0 1 rfl rfl (v := .ref (ad 0)) rfl (by decide) tw318 ?_
      refine j_get (pc := 21) C d_X_remove_21 6 0 rfl rfl (v := .ref (ad 1)) rfl (by decide) tw270 ?_
      refine j_get (pc := 24) C d_X_remove_24 7 1 rfl rfl (v := .int (d.2 3)) rfl (by decide) tw94 ?_
      refine j_iload_n (pc := 27) C d_X_remove_27 rfl 1 rfl ?_
      refine j_isub (pc := 28) C d_X_remove_28 ?_
      refine j_icmp_le (pc := 29) C d_X_remove_29 (tgt := 40) rfl (fun h3 => ?_) (fun h3 => ?_)
      · rw [if_pos h3] at hf
        refine j_aload_n (pc := 40) C d_X_remove_40 rfl 0 rfl ?_
        refine j_get (pc := 41) C d_X_remove_41 0 1 rfl rfl (v := .ref (ad 0)) rfl (by decide) tw318 ?_
        refine j_get (pc := 44) C d_X_remove_44 6 0 rfl rfl (v := .ref (ad 1)) rfl (by decide) tw270 ?_
        refine j_iload_n (pc := 47) C d_X_remove_47 rfl 1 rfl ?_
        refine j_iload_n (pc := 48) C d_X_remove_48 rfl 2 rfl ?_
        obtain ⟨q4, eq4, hf⟩ := ob hf
        refine j_callVv (pc := 49) C (rest := []) d_X_remove_49 (c_Te_takeOut (g := g) (ad := ad) eq4) cv_Te_takeOut tw720 7 rfl rfl (cut_blk [wX g ax am ad bd, wM g am k.1 k.2, wD g ad d.1 d.2, wD g bd b.1 b.2] [wX g ax am ad bd, wM g am k.1 k.2, wD g ad q4.1 q4.2, wD g bd b.1 b.2] [0, 1, 3] [2] rfl rfl rfl rfl rfl rfl rfl) rfl rfl (Nat.le_of_ble_eq_true rfl) (kc2 := 0) (ks2 := 0) (by decide) ?_
        refine j_aload_n (pc := 52) C d_X_remove_52 rfl 0 rfl ?_
        refine j_get (pc := 53) C d_X_remove_53 0 1 rfl rfl (v := .ref (ad 0)) rfl (by decide) tw318 ?_
        refine j_iconst (pc := 56) C d_X_remove_56 ck_0 ?_
        refine j_put (pc := 57) C d_X_remove_57 6 11 rfl rfl (by decide) tw291 pd_Z rfl rfl rfl (Nat.le_of_ble_eq_true rfl) (ws' := wX g ax am ad bd ++ (wM g am k.1 k.2 ++ (wD g ad q4.1 (va_up q4.2 2 0) ++ wD g bd b.1 b.2))) rfl ?_
        cases hf
        exact j_vret (pc := 60) C d_X_remove_60 ⟨rfl, rfl, rfl⟩ (Nat.le_of_ble_eq_true rfl) (Nat.le_of_ble_eq_true rfl)
      · rw [if_neg h3] at hf
        cases hf
        exact j_throw (pc := 32) CX xt_2 d_X_remove_32 d_X_remove_35 d_X_remove_36 d_X_remove_39 ⟨by decide, rfl, rfl⟩ (by decide)
  · rw [if_neg h1] at hf
    cases hf
    exact j_throw (pc := 4) CX xt_1 d_X_remove_4 d_X_remove_7 d_X_remove_8 d_X_remove_11 ⟨by decide, rfl, rfl⟩ (by decide)
abbrev rm_X_length : Room := { frames := 0, cells := 0, slots := 0, locals := 0 }
theorem cv_X_length : CV y_X_length b_X_length 1 (some .int) 0 := ⟨⟨tw355, tw1, by decide +kernel⟩, tw353, tw354⟩
set_option maxHeartbeats 4000000 in
set_option maxRecDepth 100000 in
theorem c_X_length {g : GT} {ax : Nat → Nat} {am : Nat → Nat} {ad : Nat → Nat} {bd : Nat → Nat} {k : DS} {d : DS} {b : DS} {q : Int32 × DS × DS × DS} (hf : f_X_length k d b = some q) : MI g y_X_length b_X_length 1 (some .int) rm_X_length [.ref (ax 0)] (wX g ax am ad bd ++ (wM g am k.1 k.2 ++ (wD g ad d.1 d.2 ++ wD g bd b.1 b.2))) q.1 (wX g ax am ad bd ++ (wM g am q.2.1.1 q.2.1.2 ++ (wD g ad q.2.2.1.1 q.2.2.1.2 ++ wD g bd q.2.2.2.1 q.2.2.2.2))) := by
  refine MI.of (by decide) (Nat.le_of_ble_eq_true rfl) (fun 𝒥 C => ?_)
  unfold f_X_length at hf
  change 𝒥 0 0 (wX g ax am ad bd ++ (wM g am k.1 k.2 ++ (wD g ad d.1 d.2 ++ wD g bd b.1 b.2))) [(0, .ref (ax 0))] [] 0
  refine j_aload_n (pc := 0) C d_X_length_0 rfl 0 rfl ?_
  refine j_get (pc := 1) C d_X_length_1 0 1 rfl rfl (v := .ref (ad 0)) rfl (by decide) tw318 ?_
  refine j_get (pc := 4) C d_X_length_4 6 0 rfl rfl (v := .ref (ad 1)) rfl (by decide) tw270 ?_
  refine j_get (pc := 7) C d_X_length_7 7 1 rfl rfl (v := .int (d.2 3)) rfl (by decide) tw94 ?_
  cases hf
  exact j_iret (pc := 10) C d_X_length_10 ⟨rfl, rfl⟩ (Nat.le_of_ble_eq_true rfl) (Nat.le_of_ble_eq_true rfl)
abbrev rm_X_letter : Room := { frames := 6, cells := 1, slots := 6, locals := 81 }
theorem cv_X_letter : CV y_X_letter b_X_letter 2 (some .char) 1 := ⟨⟨tw730, tw1, by decide +kernel⟩, tw728, tw729⟩
set_option maxHeartbeats 4000000 in
set_option maxRecDepth 100000 in
theorem c_X_letter {g : GT} {ax : Nat → Nat} {am : Nat → Nat} {ad : Nat → Nat} {bd : Nat → Nat} {a1 : Int32} {k : DS} {d : DS} {b : DS} {q : Nat × Int32 × DS × DS × DS} (hf : f_X_letter a1 k d b = some q) : MX g y_X_letter b_X_letter 2 (some .char) rm_X_letter [.ref (ax 0), .int a1] (wX g ax am ad bd ++ (wM g am k.1 k.2 ++ (wD g ad d.1 d.2 ++ wD g bd b.1 b.2))) q.1 (some (.int q.2.1)) (wX g ax am ad bd ++ (wM g am q.2.2.1.1 q.2.2.1.2 ++ (wD g ad q.2.2.2.1.1 q.2.2.2.1.2 ++ wD g bd q.2.2.2.2.1 q.2.2.2.2.2))) := by
  refine MX.of (by decide) (Nat.le_of_ble_eq_true rfl) (fun 𝒥 CX => ?_)
  have C := CX.K
  unfold f_X_letter at hf
  change 𝒥 0 0 (wX g ax am ad bd ++ (wM g am k.1 k.2 ++ (wD g ad d.1 d.2 ++ wD g bd b.1 b.2))) [(0, .ref (ax 0)), (1, .int a1)] [] 0
  refine j_iload_n (pc := 0) C d_X_letter_0 rfl 1 rfl ?_
  refine j_if_lt (pc := 1) C d_X_letter_1 (tgt := 18) rfl (fun h1 => ?_) (fun h1 => ?_)
  · rw [if_pos h1] at hf
    cases hf
    exact j_throw (pc := 18) CX xt_2 d_X_letter_18 d_X_letter_21 d_X_letter_22 d_X_letter_25 ⟨by decide, rfl, rfl⟩ (by decide)
  · rw [if_neg h1] at hf
    refine j_iload_n (pc := 4) C d_X_letter_4 rfl 1 rfl ?_
    refine j_aload_n (pc := 5) C d_X_letter_5 rfl 0 rfl ?_
    refine j_get (pc := 6) C d_X_letter_6 0 1 rfl rfl (v := .ref (ad 0)) rfl (by decide) tw318 ?_
    refine j_get (pc := 9) C d_X_letter_9 6 0 rfl rfl (v := .ref (ad 1)) rfl (by decide) tw270 ?_
    refine j_get (pc := 12) C d_X_letter_12 7 1 rfl rfl (v := .int (d.2 3)) rfl (by decide) tw94 ?_
    refine j_icmp_lt (pc := 15) C d_X_letter_15 (tgt := 26) rfl (fun h2 => ?_) (fun h2 => ?_)
    · rw [if_pos h2] at hf
      refine j_aload_n (pc := 26) C d_X_letter_26 rfl 0 rfl ?_
      refine j_get (pc := 27) C d_X_letter_27 0 1 rfl rfl (v := .ref (ad 0)) rfl (by decide) tw318 ?_
      refine j_get (pc := 30) C d_X_letter_30 6 0 rfl rfl (v := .ref (ad 1)) rfl (by decide) tw270 ?_
      refine j_get (pc := 33) C d_X_letter_33 7 0 rfl rfl (v := .ref (ad 2)) rfl (by decide) tw91 ?_
      refine j_iload_n (pc := 36) C d_X_letter_36 rfl 1 rfl ?_
      obtain ⟨b3, hf⟩ := og hf
      refine j_cald (pc := 37) C d_X_letter_37 8 (inb_in b3) (x := d.1 2 a1.toNatClampNeg) rfl rfl ?_
      obtain ⟨b4, hf⟩ := og hf
      cases hf
      exact j_cret (pc := 38) C d_X_letter_38 (isc_n b4) ⟨rfl, rfl, rfl⟩ (Nat.le_of_ble_eq_true rfl) (Nat.le_of_ble_eq_true rfl)
    · rw [if_neg h2] at hf
      cases hf
      exact j_throw (pc := 18) CX xt_2 d_X_letter_18 d_X_letter_21 d_X_letter_22 d_X_letter_25 ⟨by decide, rfl, rfl⟩ (by decide)
abbrev rm_Dr_brokenPlace : Room := { frames := 0, cells := 0, slots := 0, locals := 0 }
theorem cv_Dr_brokenPlace : CV y_Dr_brokenPlace b_Dr_brokenPlace 2 (some .int) 1 := ⟨⟨tw557, tw3, by decide +kernel⟩, tw556, (sw_ (q := (y_Dr_brokenPlace, 12)) (by decide +kernel) (by decide +kernel))⟩
set_option maxHeartbeats 4000000 in
set_option maxRecDepth 100000 in
theorem c_Dr_brokenPlace {g : GT} {ad : Nat → Nat} {a1 : Int32} {d : DS} {q : Int32 × DS} (hf : f_Dr_brokenPlace a1 d = some q) : MI g y_Dr_brokenPlace b_Dr_brokenPlace 2 (some .int) rm_Dr_brokenPlace [.ref (ad 0), .int a1] (wD g ad d.1 d.2) q.1 (wD g ad q.2.1 q.2.2) := by
  refine MI.of (by decide) (Nat.le_of_ble_eq_true rfl) (fun 𝒥 C => ?_)
  unfold f_Dr_brokenPlace at hf
  change 𝒥 0 0 (wD g ad d.1 d.2) [(0, .ref (ad 0)), (1, .int a1)] [] 0
  refine j_aload_n (pc := 0) C d_Dr_brokenPlace_0 rfl 0 rfl ?_
  refine j_get (pc := 1) C d_Dr_brokenPlace_1 0 5 wD_o0 rfl (v := .ref (ad 23)) rfl (by decide) tw282 ?_
  refine j_get (pc := 4) C d_Dr_brokenPlace_4 23 0 wD_o23 rfl (v := .int (d.2 7)) rfl (by decide) tw238 ?_
  refine j_iload_n (pc := 7) C d_Dr_brokenPlace_7 rfl 1 rfl ?_
  refine j_icmp_ge (pc := 8) C d_Dr_brokenPlace_8 (tgt := 29) rfl (fun h1 => ?_) (fun h1 => ?_)
  · rw [if_pos h1] at hf
    refine j_aload_n (pc := 29) C d_Dr_brokenPlace_29 rfl 0 rfl ?_
    refine j_get (pc := 30) C d_Dr_brokenPlace_30 0 1 wD_o0 rfl (v := .ref (ad 3)) rfl (by decide) tw271 ?_
    refine j_get (pc := 33) C d_Dr_brokenPlace_33 3 3 wD_o3 rfl (v := .ref (ad 7)) rfl (by decide) tw121 ?_
    refine j_iload_n (pc := 36) C d_Dr_brokenPlace_36 rfl 1 rfl ?_
    refine j_iconst (pc := 37) C d_Dr_brokenPlace_37 ck_1 ?_
    refine j_isub (pc := 38) C d_Dr_brokenPlace_38 ?_
    obtain ⟨b2, hf⟩ := og hf
    refine j_iald (pc := 39) C d_Dr_brokenPlace_39 7 (inb_in b2) (x := d.1 7 (a1 - 1).toNatClampNeg) wD_a7 rfl ?_
    cases hf
    exact j_iret (pc := 40) C d_Dr_brokenPlace_40 ⟨rfl, rfl⟩ (Nat.le_of_ble_eq_true rfl) (Nat.le_of_ble_eq_true rfl)
  · rw [if_neg h1] at hf
    refine j_aload_n (pc := 11) C d_Dr_brokenPlace_11 rfl 0 rfl ?_
    refine j_get (pc := 12) C d_Dr_brokenPlace_12 0 1 wD_o0 rfl (v := .ref (ad 3)) rfl (by decide) tw271 ?_
    refine j_get (pc := 15) C d_Dr_brokenPlace_15 3 2 wD_o3 rfl (v := .ref (ad 6)) rfl (by decide) tw118 ?_
    refine j_aload_n (pc := 18) C d_Dr_brokenPlace_18 rfl 0 rfl ?_
    refine j_get (pc := 19) C d_Dr_brokenPlace_19 0 5 wD_o0 rfl (v := .ref (ad 23)) rfl (by decide) tw282 ?_
    refine j_get (pc := 22) C d_Dr_brokenPlace_22 23 0 wD_o23 rfl (v := .int (d.2 7)) rfl (by decide) tw238 ?_
    obtain ⟨b3, hf⟩ := og hf
    refine j_iald (pc := 25) C d_Dr_brokenPlace_25 6 (inb_in b3) (x := d.1 6 (d.2 7).toNatClampNeg) wD_a6 rfl ?_
    refine j_goto (pc := 26) C d_Dr_brokenPlace_26 (tgt := 40) rfl ?_
    cases hf
    exact j_iret (pc := 40) C d_Dr_brokenPlace_40 ⟨rfl, rfl⟩ (Nat.le_of_ble_eq_true rfl) (Nat.le_of_ble_eq_true rfl)
abbrev rm_Dr_addFault : Room := { frames := 0, cells := 0, slots := 0, locals := 0 }
theorem cv_Dr_addFault : CV y_Dr_addFault b_Dr_addFault 3 none 2 := ⟨⟨tw565, tw3, by decide +kernel⟩, tw564, (sw_ (q := (y_Dr_addFault, 12)) (by decide +kernel) (by decide +kernel))⟩
set_option maxHeartbeats 4000000 in
set_option maxRecDepth 100000 in
theorem c_Dr_addFault {g : GT} {ad : Nat → Nat} {a1 : Int32} {a2 : Int32} {d : DS} {q : DS} (hf : f_Dr_addFault a1 a2 d = some q) : MV g y_Dr_addFault b_Dr_addFault 3 none rm_Dr_addFault [.ref (ad 0), .int a1, .int a2] (wD g ad d.1 d.2) (wD g ad q.1 q.2) := by
  refine MV.of (by decide) (Nat.le_of_ble_eq_true rfl) (fun 𝒥 C => ?_)
  unfold f_Dr_addFault at hf
  change 𝒥 0 0 (wD g ad d.1 d.2) [(0, .ref (ad 0)), (1, .int a1), (2, .int a2)] [] 0
  refine j_aload_n (pc := 0) C d_Dr_addFault_0 rfl 0 rfl ?_
  refine j_get (pc := 1) C d_Dr_addFault_1 0 10 wD_o0 rfl (v := .int (d.2 1)) rfl (by decide) tw288 ?_
  refine j_aload_n (pc := 4) C d_Dr_addFault_4 rfl 0 rfl ?_
  refine j_get (pc := 5) C d_Dr_addFault_5 0 9 wD_o0 rfl (v := .ref (ad 29)) rfl (by decide) tw286 ?_
  refine j_alen (pc := 8) C d_Dr_addFault_8 29 rfl (v := 244) rfl ?_
  refine j_icmp_ge (pc := 9) C d_Dr_addFault_9 (tgt := 37) rfl (fun h1 => ?_) (fun h1 => ?_)
  · rw [if_pos h1] at hf
    cases hf
    exact j_vret (pc := 37) C d_Dr_addFault_37 ⟨rfl, rfl⟩ (Nat.le_of_ble_eq_true rfl) (Nat.le_of_ble_eq_true rfl)
  · rw [if_neg h1] at hf
    refine j_aload_n (pc := 12) C d_Dr_addFault_12 rfl 0 rfl ?_
    refine j_get (pc := 13) C d_Dr_addFault_13 0 9 wD_o0 rfl (v := .ref (ad 29)) rfl (by decide) tw286 ?_
    refine j_aload_n (pc := 16) C d_Dr_addFault_16 rfl 0 rfl ?_
    refine j_get (pc := 17) C d_Dr_addFault_17 0 10 wD_o0 rfl (v := .int (d.2 1)) rfl (by decide) tw288 ?_
    refine j_iload_n (pc := 20) C d_Dr_addFault_20 rfl 1 rfl ?_
    refine j_bipush (pc := 21) C d_Dr_addFault_21 cb_8 ?_
    refine j_iload_n (pc := 23) C d_Dr_addFault_23 rfl 2 rfl ?_
    refine j_imul (pc := 24) C d_Dr_addFault_24 ?_
    refine j_iadd (pc := 25) C d_Dr_addFault_25 ?_
    obtain ⟨b2, hf⟩ := og hf
    refine j_iast (pc := 26) C d_Dr_addFault_26 29 (inb_in b2) wD_a29 (ws' := wD g ad (va_up d.1 29 (upd (d.1 29) (d.2 1).toNatClampNeg (a1 + (8 * a2)))) d.2) wD_s29 ?_
    refine j_aload_n (pc := 27) C d_Dr_addFault_27 rfl 0 rfl ?_
    refine j_dup (pc := 28) C d_Dr_addFault_28 rfl ?_
    refine j_get (pc := 29) C d_Dr_addFault_29 0 10 wD_o0 rfl (v := .int (d.2 1)) rfl (by decide) tw288 ?_
    refine j_iconst (pc := 32) C d_Dr_addFault_32 ck_1 ?_
    refine j_iadd (pc := 33) C d_Dr_addFault_33 ?_
    refine j_put (pc := 34) C d_Dr_addFault_34 0 10 wD_o0 rfl (by decide) tw288 pd_I rfl rfl rfl (Nat.le_of_ble_eq_true rfl) (ws' := wD g ad (va_up d.1 29 (upd (d.1 29) (d.2 1).toNatClampNeg (a1 + (8 * a2)))) (va_up d.2 1 ((d.2 1) + 1))) wD_p0_10 ?_
    cases hf
    exact j_vret (pc := 37) C d_Dr_addFault_37 ⟨rfl, rfl⟩ (Nat.le_of_ble_eq_true rfl) (Nat.le_of_ble_eq_true rfl)
abbrev rm_Fn_find : Room := { frames := 0, cells := 0, slots := 0, locals := 0 }
theorem cv_Fn_find : CV y_Fn_find b_Fn_find 3 (some .int) 1 := ⟨⟨tw577, tw6, by decide +kernel⟩, tw575, tw576⟩
set_option maxHeartbeats 4000000 in
set_option maxRecDepth 100000 in
theorem c_Fn_find {g : GT} {ad : Nat → Nat} {a1 : Int32} {d : DS} {q : Int32 × DS} (hf : f_Fn_find a1 d = some q) : MI g y_Fn_find b_Fn_find 3 (some .int) rm_Fn_find [.ref (ad 8), .int a1] (wD g ad d.1 d.2) q.1 (wD g ad q.2.1 q.2.2) := by
  refine MI.of (by decide) (Nat.le_of_ble_eq_true rfl) (fun 𝒥 C => ?_)
  have L2 : ∀ (n : Nat) (x : Int32 × Int32 × DS), lpN (BFn_find_2) n x = some q → 𝒥 0 0 (wD g ad x.2.2.1 x.2.2.2) [(0, .ref (ad 8)), (1, .int x.1), (2, .int x.2.1)] [] 2 := by
    refine lp_ind (fun k2 k2_ih x hf => ?_)
    unfold BFn_find_2 at hf
    refine j_iload_n (pc := 2) C d_Fn_find_2 rfl 2 rfl ?_
    refine j_aload_n (pc := 3) C d_Fn_find_3 rfl 0 rfl ?_
    refine j_get (pc := 4) C d_Fn_find_4 8 3 wD_o8 rfl (v := .int (x.2.2.2 5)) rfl (by decide) tw152 ?_
    refine j_icmp_ge (pc := 7) C d_Fn_find_7 (tgt := 36) rfl (fun h1 => ?_) (fun h1 => ?_)
    · rw [if_pos h1] at hf
      refine j_iconst (pc := 36) C d_Fn_find_36 ck_m1 ?_
      cases hf
      exact j_iret (pc := 37) C d_Fn_find_37 ⟨rfl, rfl⟩ (Nat.le_of_ble_eq_true rfl) (Nat.le_of_ble_eq_true rfl)
    · rw [if_neg h1] at hf
      refine j_aload_n (pc := 10) C d_Fn_find_10 rfl 0 rfl ?_
      refine j_get (pc := 11) C d_Fn_find_11 8 4 wD_o8 rfl (v := .ref (ad 3)) rfl (by decide) tw154 ?_
      refine j_get (pc := 14) C d_Fn_find_14 3 1 wD_o3 rfl (v := .ref (ad 5)) rfl (by decide) tw112 ?_
      refine j_aload_n (pc := 17) C d_Fn_find_17 rfl 0 rfl ?_
      refine j_get (pc := 18) C d_Fn_find_18 8 0 wD_o8 rfl (v := .ref (ad 9)) rfl (by decide) tw144 ?_
      refine j_iload_n (pc := 21) C d_Fn_find_21 rfl 2 rfl ?_
      obtain ⟨b2, hf⟩ := og hf
      refine j_iald (pc := 22) C d_Fn_find_22 9 (inb_in b2) (x := x.2.2.1 9 x.2.1.toNatClampNeg) wD_a9 rfl ?_
      obtain ⟨b3, hf⟩ := og hf
      refine j_iald (pc := 23) C d_Fn_find_23 5 (inb_in b3) (x := x.2.2.1 5 (x.2.2.1 9 x.2.1.toNatClampNeg).toNatClampNeg) wD_a5 rfl ?_
      refine j_topi C (fun v4 ev4 => ?_)
      replace hf := ov ev4 hf
      refine j_iload_n (pc := 24) C d_Fn_find_24 rfl 1 rfl ?_
      refine j_icmp_ne (pc := 25) C d_Fn_find_25 (tgt := 30) rfl (fun h5 => ?_) (fun h5 => ?_)
      · rw [if_neg h5] at hf
        refine j_iinc (pc := 30) C d_Fn_find_30 2 rfl (v := x.2.1 + 1) (iv ci_1) [1, 2, 0] (by decide) (lc' := [(0, .ref (ad 8)), (1, .int x.1), (2, .int (x.2.1 + 1))]) rfl ?_
        refine j_goto (pc := 33) C d_Fn_find_33 (tgt := 2) rfl ?_
        exact k2_ih (x.1, x.2.1 + 1, x.2.2) hf
      · rw [if_pos h5] at hf
        refine j_iload_n (pc := 28) C d_Fn_find_28 rfl 2 rfl ?_
        cases hf
        exact j_iret (pc := 29) C d_Fn_find_29 ⟨rfl, rfl⟩ (Nat.le_of_ble_eq_true rfl) (Nat.le_of_ble_eq_true rfl)
  unfold f_Fn_find at hf
  change 𝒥 0 0 (wD g ad d.1 d.2) [(0, .ref (ad 8)), (1, .int a1)] [] 0
  refine j_iconst (pc := 0) C d_Fn_find_0 ck_0 ?_
  refine j_istore_n (pc := 1) C d_Fn_find_1 rfl [1, 2, 0] (by decide) (lc' := [(0, .ref (ad 8)), (1, .int a1), (2, .int 0)]) rfl ?_
  exact L2 100000 (a1, 0, d) hf
abbrev rm_Fn_isFirst : Room := { frames := 1, cells := 0, slots := 0, locals := 22 }
theorem cv_Fn_isFirst : CV y_Fn_isFirst b_Fn_isFirst 3 (some .boolean) 1 := ⟨⟨tw573, tw6, by decide +kernel⟩, tw571, tw572⟩
set_option maxHeartbeats 4000000 in
set_option maxRecDepth 100000 in
theorem c_Fn_isFirst {g : GT} {ad : Nat → Nat} {a1 : Int32} {d : DS} {q : Int32 × DS} (hf : f_Fn_isFirst a1 d = some q) : MI g y_Fn_isFirst b_Fn_isFirst 3 (some .boolean) rm_Fn_isFirst [.ref (ad 8), .int a1] (wD g ad d.1 d.2) q.1 (wD g ad q.2.1 q.2.2) := by
  refine MI.of (by decide) (Nat.le_of_ble_eq_true rfl) (fun 𝒥 C => ?_)
  unfold f_Fn_isFirst at hf
  change 𝒥 0 0 (wD g ad d.1 d.2) [(0, .ref (ad 8)), (1, .int a1)] [] 0
  refine j_aload_n (pc := 0) C d_Fn_isFirst_0 rfl 0 rfl ?_
  refine j_aload_n (pc := 1) C d_Fn_isFirst_1 rfl 0 rfl ?_
  refine j_get (pc := 2) C d_Fn_isFirst_2 8 4 wD_o8 rfl (v := .ref (ad 3)) rfl (by decide) tw154 ?_
  refine j_get (pc := 5) C d_Fn_isFirst_5 3 1 wD_o3 rfl (v := .ref (ad 5)) rfl (by decide) tw112 ?_
  refine j_iload_n (pc := 8) C d_Fn_isFirst_8 rfl 1 rfl ?_
  obtain ⟨b1, hf⟩ := og hf
  refine j_iald (pc := 9) C d_Fn_isFirst_9 5 (inb_in b1) (x := d.1 5 a1.toNatClampNeg) wD_a5 rfl ?_
  obtain ⟨q2, eq2, hf⟩ := ob hf
  refine j_callVi (pc := 10) C (rest := []) d_Fn_isFirst_10 (c_Fn_find (g := g) (ad := ad) eq2) cv_Fn_find tw574 8 rfl rfl cut_same rfl rfl (Nat.le_of_ble_eq_true rfl) (kc2 := 0) (ks2 := 0) (by decide) ?_
  refine j_istore_n (pc := 13) C d_Fn_isFirst_13 rfl [1, 2, 0] (by decide) (lc' := [(0, .ref (ad 8)), (1, .int a1), (2, .int q2.1)]) rfl ?_
  refine j_iload_n (pc := 14) C d_Fn_isFirst_14 rfl 2 rfl ?_
  refine j_iconst (pc := 15) C d_Fn_isFirst_15 ck_m1 ?_
  refine j_icmp_eq (pc := 16) C d_Fn_isFirst_16 (tgt := 33) rfl (fun h3 => ?_) (fun h3 => ?_)
  · rw [if_pos h3] at hf
    refine j_iconst (pc := 33) C d_Fn_isFirst_33 ck_0 ?_
    cases hf
    exact j_zret (pc := 34) C d_Fn_isFirst_34 rfl ⟨rfl, rfl⟩ (Nat.le_of_ble_eq_true rfl) (Nat.le_of_ble_eq_true rfl)
  · rw [if_neg h3] at hf
    refine j_aload_n (pc := 19) C d_Fn_isFirst_19 rfl 0 rfl ?_
    refine j_get (pc := 20) C d_Fn_isFirst_20 8 0 wD_o8 rfl (v := .ref (ad 9)) rfl (by decide) tw144 ?_
    refine j_iload_n (pc := 23) C d_Fn_isFirst_23 rfl 2 rfl ?_
    obtain ⟨b4, hf⟩ := og hf
    refine j_iald (pc := 24) C d_Fn_isFirst_24 9 (inb_in b4) (x := q2.2.1 9 q2.1.toNatClampNeg) wD_a9 rfl ?_
    refine j_iload_n (pc := 25) C d_Fn_isFirst_25 rfl 1 rfl ?_
    refine j_icmp_ne (pc := 26) C d_Fn_isFirst_26 (tgt := 33) rfl (fun h5 => ?_) (fun h5 => ?_)
    · rw [if_neg h5] at hf
      refine j_iconst (pc := 33) C d_Fn_isFirst_33 ck_0 ?_
      cases hf
      exact j_zret (pc := 34) C d_Fn_isFirst_34 rfl ⟨rfl, rfl⟩ (Nat.le_of_ble_eq_true rfl) (Nat.le_of_ble_eq_true rfl)
    · rw [if_pos h5] at hf
      refine j_iconst (pc := 29) C d_Fn_isFirst_29 ck_1 ?_
      refine j_goto (pc := 30) C d_Fn_isFirst_30 (tgt := 34) rfl ?_
      cases hf
      exact j_zret (pc := 34) C d_Fn_isFirst_34 rfl ⟨rfl, rfl⟩ (Nat.le_of_ble_eq_true rfl) (Nat.le_of_ble_eq_true rfl)
abbrev rm_Na_bindCall : Room := { frames := 1, cells := 0, slots := 0, locals := 22 }
theorem cv_Na_bindCall : CV y_Na_bindCall b_Na_bindCall 3 none 1 := ⟨⟨tw597, tw7, by decide +kernel⟩, tw596, (sw_ (q := (y_Na_bindCall, 9)) (by decide +kernel) (by decide +kernel))⟩
set_option maxHeartbeats 4000000 in
set_option maxRecDepth 100000 in
theorem c_Na_bindCall {g : GT} {ad : Nat → Nat} {a1 : Int32} {d : DS} {q : DS} (hf : f_Na_bindCall a1 d = some q) : MV g y_Na_bindCall b_Na_bindCall 3 none rm_Na_bindCall [.ref (ad 12), .int a1] (wD g ad d.1 d.2) (wD g ad q.1 q.2) := by
  refine MV.of (by decide) (Nat.le_of_ble_eq_true rfl) (fun 𝒥 C => ?_)
  unfold f_Na_bindCall at hf
  change 𝒥 0 0 (wD g ad d.1 d.2) [(0, .ref (ad 12)), (1, .int a1)] [] 0
  refine j_aload_n (pc := 0) C d_Na_bindCall_0 rfl 0 rfl ?_
  refine j_get (pc := 1) C d_Na_bindCall_1 12 8 wD_o12 rfl (v := .ref (ad 8)) rfl (by decide) tw190 ?_
  refine j_aload_n (pc := 4) C d_Na_bindCall_4 rfl 0 rfl ?_
  refine j_get (pc := 5) C d_Na_bindCall_5 12 7 wD_o12 rfl (v := .ref (ad 3)) rfl (by decide) tw189 ?_
  refine j_get (pc := 8) C d_Na_bindCall_8 3 1 wD_o3 rfl (v := .ref (ad 5)) rfl (by decide) tw113 ?_
  refine j_iload_n (pc := 11) C d_Na_bindCall_11 rfl 1 rfl ?_
  obtain ⟨b1, hf⟩ := og hf
  refine j_iald (pc := 12) C d_Na_bindCall_12 5 (inb_in b1) (x := d.1 5 a1.toNatClampNeg) wD_a5 rfl ?_
  obtain ⟨q2, eq2, hf⟩ := ob hf
  refine j_callVi (pc := 13) C (rest := []) d_Na_bindCall_13 (c_Fn_find (g := g) (ad := ad) eq2) cv_Fn_find tw598 8 rfl rfl cut_same rfl rfl (Nat.le_of_ble_eq_true rfl) (kc2 := 0) (ks2 := 0) (by decide) ?_
  refine j_istore_n (pc := 16) C d_Na_bindCall_16 rfl [1, 2, 0] (by decide) (lc' := [(0, .ref (ad 12)), (1, .int a1), (2, .int q2.1)]) rfl ?_
  refine j_iload_n (pc := 17) C d_Na_bindCall_17 rfl 2 rfl ?_
  refine j_iconst (pc := 18) C d_Na_bindCall_18 ck_m1 ?_
  refine j_icmp_ne (pc := 19) C d_Na_bindCall_19 (tgt := 30) rfl (fun h3 => ?_) (fun h3 => ?_)
  · rw [if_neg h3] at hf
    refine j_aload_n (pc := 30) C d_Na_bindCall_30 rfl 0 rfl ?_
    refine j_get (pc := 31) C d_Na_bindCall_31 12 1 wD_o12 rfl (v := .ref (ad 14)) rfl (by decide) tw175 ?_
    refine j_iload_n (pc := 34) C d_Na_bindCall_34 rfl 1 rfl ?_
    refine j_aload_n (pc := 35) C d_Na_bindCall_35 rfl 0 rfl ?_
    refine j_get (pc := 36) C d_Na_bindCall_36 12 8 wD_o12 rfl (v := .ref (ad 8)) rfl (by decide) tw190 ?_
    refine j_get (pc := 39) C d_Na_bindCall_39 8 0 wD_o8 rfl (v := .ref (ad 9)) rfl (by decide) tw145 ?_
    refine j_iload_n (pc := 42) C d_Na_bindCall_42 rfl 2 rfl ?_
    obtain ⟨b4, hf⟩ := og hf
    refine j_iald (pc := 43) C d_Na_bindCall_43 9 (inb_in b4) (x := q2.2.1 9 q2.1.toNatClampNeg) wD_a9 rfl ?_
    obtain ⟨b5, hf⟩ := og hf
    refine j_iast (pc := 44) C d_Na_bindCall_44 14 (inb_in b5) wD_a14 (ws' := wD g ad (va_up q2.2.1 14 (upd (q2.2.1 14) a1.toNatClampNeg (q2.2.1 9 q2.1.toNatClampNeg))) q2.2.2) wD_s14 ?_
    refine j_aload_n (pc := 45) C d_Na_bindCall_45 rfl 0 rfl ?_
    refine j_get (pc := 46) C d_Na_bindCall_46 12 6 wD_o12 rfl (v := .ref (ad 19)) rfl (by decide) tw187 ?_
    refine j_iload_n (pc := 49) C d_Na_bindCall_49 rfl 1 rfl ?_
    obtain ⟨b6, hf⟩ := og hf
    refine j_iald (pc := 50) C d_Na_bindCall_50 19 (inb_in b6) (x := q2.2.1 19 a1.toNatClampNeg) wD_a19 rfl ?_
    refine j_aload_n (pc := 51) C d_Na_bindCall_51 rfl 0 rfl ?_
    refine j_get (pc := 52) C d_Na_bindCall_52 12 8 wD_o12 rfl (v := .ref (ad 8)) rfl (by decide) tw190 ?_
    refine j_get (pc := 55) C d_Na_bindCall_55 8 1 wD_o8 rfl (v := .ref (ad 10)) rfl (by decide) tw149 ?_
    refine j_iload_n (pc := 58) C d_Na_bindCall_58 rfl 2 rfl ?_
    obtain ⟨b7, hf⟩ := og hf
    refine j_iald (pc := 59) C d_Na_bindCall_59 10 (inb_in b7) (x := q2.2.1 10 q2.1.toNatClampNeg) wD_a10 rfl ?_
    refine j_icmp_eq (pc := 60) C d_Na_bindCall_60 (tgt := 70) rfl (fun h8 => ?_) (fun h8 => ?_)
    · rw [if_pos h8] at hf
      cases hf
      exact j_vret (pc := 70) C d_Na_bindCall_70 ⟨rfl, rfl⟩ (Nat.le_of_ble_eq_true rfl) (Nat.le_of_ble_eq_true rfl)
    · rw [if_neg h8] at hf
      refine j_aload_n (pc := 63) C d_Na_bindCall_63 rfl 0 rfl ?_
      refine j_get (pc := 64) C d_Na_bindCall_64 12 2 wD_o12 rfl (v := .ref (ad 15)) rfl (by decide) tw179 ?_
      refine j_iload_n (pc := 67) C d_Na_bindCall_67 rfl 1 rfl ?_
      refine j_iconst (pc := 68) C d_Na_bindCall_68 ck_5 ?_
      obtain ⟨b9, hf⟩ := og hf
      refine j_iast (pc := 69) C d_Na_bindCall_69 15 (inb_in b9) wD_a15 (ws' := wD g ad (va_up (va_up q2.2.1 14 (upd (q2.2.1 14) a1.toNatClampNeg (q2.2.1 9 q2.1.toNatClampNeg))) 15 (upd (q2.2.1 15) a1.toNatClampNeg 5)) q2.2.2) wD_s15 ?_
      cases hf
      exact j_vret (pc := 70) C d_Na_bindCall_70 ⟨rfl, rfl⟩ (Nat.le_of_ble_eq_true rfl) (Nat.le_of_ble_eq_true rfl)
  · rw [if_pos h3] at hf
    refine j_aload_n (pc := 22) C d_Na_bindCall_22 rfl 0 rfl ?_
    refine j_get (pc := 23) C d_Na_bindCall_23 12 2 wD_o12 rfl (v := .ref (ad 15)) rfl (by decide) tw179 ?_
    refine j_iload_n (pc := 26) C d_Na_bindCall_26 rfl 1 rfl ?_
    refine j_iconst (pc := 27) C d_Na_bindCall_27 ck_4 ?_
    obtain ⟨b10, hf⟩ := og hf
    refine j_iast (pc := 28) C d_Na_bindCall_28 15 (inb_in b10) wD_a15 (ws' := wD g ad (va_up q2.2.1 15 (upd (q2.2.1 15) a1.toNatClampNeg 4)) q2.2.2) wD_s15 ?_
    cases hf
    exact j_vret (pc := 29) C d_Na_bindCall_29 ⟨rfl, rfl⟩ (Nat.le_of_ble_eq_true rfl) (Nat.le_of_ble_eq_true rfl)
abbrev rm_Na_bindOr : Room := { frames := 0, cells := 0, slots := 0, locals := 0 }
theorem cv_Na_bindOr : CV y_Na_bindOr b_Na_bindOr 4 none 3 := ⟨⟨tw581, tw7, by decide +kernel⟩, tw580, (sw_ (q := (y_Na_bindOr, 9)) (by decide +kernel) (by decide +kernel))⟩
set_option maxHeartbeats 4000000 in
set_option maxRecDepth 100000 in
theorem c_Na_bindOr {g : GT} {ad : Nat → Nat} {a1 : Int32} {a2 : Int32} {a3 : Int32} {d : DS} {q : DS} (hf : f_Na_bindOr a1 a2 a3 d = some q) : MV g y_Na_bindOr b_Na_bindOr 4 none rm_Na_bindOr [.ref (ad 12), .int a1, .int a2, .int a3] (wD g ad d.1 d.2) (wD g ad q.1 q.2) := by
  refine MV.of (by decide) (Nat.le_of_ble_eq_true rfl) (fun 𝒥 C => ?_)
  unfold f_Na_bindOr at hf
  change 𝒥 0 0 (wD g ad d.1 d.2) [(0, .ref (ad 12)), (1, .int a1), (2, .int a2), (3, .int a3)] [] 0
  refine j_aload_n (pc := 0) C d_Na_bindOr_0 rfl 0 rfl ?_
  refine j_get (pc := 1) C d_Na_bindOr_1 12 1 wD_o12 rfl (v := .ref (ad 14)) rfl (by decide) tw175 ?_
  refine j_iload_n (pc := 4) C d_Na_bindOr_4 rfl 1 rfl ?_
  refine j_iload_n (pc := 5) C d_Na_bindOr_5 rfl 2 rfl ?_
  obtain ⟨b1, hf⟩ := og hf
  refine j_iast (pc := 6) C d_Na_bindOr_6 14 (inb_in b1) wD_a14 (ws' := wD g ad (va_up d.1 14 (upd (d.1 14) a1.toNatClampNeg a2)) d.2) wD_s14 ?_
  refine j_iload_n (pc := 7) C d_Na_bindOr_7 rfl 2 rfl ?_
  refine j_iconst (pc := 8) C d_Na_bindOr_8 ck_m1 ?_
  refine j_icmp_ne (pc := 9) C d_Na_bindOr_9 (tgt := 19) rfl (fun h2 => ?_) (fun h2 => ?_)
  · rw [if_neg h2] at hf
    cases hf
    exact j_vret (pc := 19) C d_Na_bindOr_19 ⟨rfl, rfl⟩ (Nat.le_of_ble_eq_true rfl) (Nat.le_of_ble_eq_true rfl)
  · rw [if_pos h2] at hf
    refine j_aload_n (pc := 12) C d_Na_bindOr_12 rfl 0 rfl ?_
    refine j_get (pc := 13) C d_Na_bindOr_13 12 2 wD_o12 rfl (v := .ref (ad 15)) rfl (by decide) tw179 ?_
    refine j_iload_n (pc := 16) C d_Na_bindOr_16 rfl 1 rfl ?_
    refine j_iload_n (pc := 17) C d_Na_bindOr_17 rfl 3 rfl ?_
    obtain ⟨b3, hf⟩ := og hf
    refine j_iast (pc := 18) C d_Na_bindOr_18 15 (inb_in b3) wD_a15 (ws' := wD g ad (va_up (va_up d.1 14 (upd (d.1 14) a1.toNatClampNeg a2)) 15 (upd (d.1 15) a1.toNatClampNeg a3)) d.2) wD_s15 ?_
    cases hf
    exact j_vret (pc := 19) C d_Na_bindOr_19 ⟨rfl, rfl⟩ (Nat.le_of_ble_eq_true rfl) (Nat.le_of_ble_eq_true rfl)
abbrev rm_Na_declares : Room := { frames := 0, cells := 0, slots := 0, locals := 0 }
theorem cv_Na_declares : CV y_Na_declares b_Na_declares 3 (some .boolean) 2 := ⟨⟨tw589, tw7, by decide +kernel⟩, tw588, (sw_ (q := (y_Na_declares, 9)) (by decide +kernel) (by decide +kernel))⟩
set_option maxHeartbeats 4000000 in
set_option maxRecDepth 100000 in
theorem c_Na_declares {g : GT} {ad : Nat → Nat} {a1 : Int32} {a2 : Int32} {d : DS} {q : Int32 × DS} (hf : f_Na_declares a1 a2 d = some q) : MI g y_Na_declares b_Na_declares 3 (some .boolean) rm_Na_declares [.ref (ad 12), .int a1, .int a2] (wD g ad d.1 d.2) q.1 (wD g ad q.2.1 q.2.2) := by
  refine MI.of (by decide) (Nat.le_of_ble_eq_true rfl) (fun 𝒥 C => ?_)
  unfold f_Na_declares at hf
  change 𝒥 0 0 (wD g ad d.1 d.2) [(0, .ref (ad 12)), (1, .int a1), (2, .int a2)] [] 0
  refine j_aload_n (pc := 0) C d_Na_declares_0 rfl 0 rfl ?_
  refine j_get (pc := 1) C d_Na_declares_1 12 0 wD_o12 rfl (v := .ref (ad 13)) rfl (by decide) tw172 ?_
  refine j_iload_n (pc := 4) C d_Na_declares_4 rfl 1 rfl ?_
  obtain ⟨b1, hf⟩ := og hf
  refine j_iald (pc := 5) C d_Na_declares_5 13 (inb_in b1) (x := d.1 13 a1.toNatClampNeg) wD_a13 rfl ?_
  refine j_iconst (pc := 6) C d_Na_declares_6 ck_2 ?_
  refine j_icmp_eq (pc := 7) C d_Na_declares_7 (tgt := 20) rfl (fun h2 => ?_) (fun h2 => ?_)
  · rw [if_pos h2] at hf
    refine j_aload_n (pc := 20) C d_Na_declares_20 rfl 0 rfl ?_
    refine j_get (pc := 21) C d_Na_declares_21 12 1 wD_o12 rfl (v := .ref (ad 14)) rfl (by decide) tw175 ?_
    refine j_iload_n (pc := 24) C d_Na_declares_24 rfl 1 rfl ?_
    obtain ⟨b3, hf⟩ := og hf
    refine j_iald (pc := 25) C d_Na_declares_25 14 (inb_in b3) (x := d.1 14 a1.toNatClampNeg) wD_a14 rfl ?_
    refine j_iload_n (pc := 26) C d_Na_declares_26 rfl 1 rfl ?_
    refine j_icmp_ne (pc := 27) C d_Na_declares_27 (tgt := 47) rfl (fun h4 => ?_) (fun h4 => ?_)
    · rw [if_neg h4] at hf
      refine j_iconst (pc := 47) C d_Na_declares_47 ck_0 ?_
      cases hf
      exact j_zret (pc := 48) C d_Na_declares_48 rfl ⟨rfl, rfl⟩ (Nat.le_of_ble_eq_true rfl) (Nat.le_of_ble_eq_true rfl)
    · rw [if_pos h4] at hf
      refine j_aload_n (pc := 30) C d_Na_declares_30 rfl 0 rfl ?_
      refine j_get (pc := 31) C d_Na_declares_31 12 7 wD_o12 rfl (v := .ref (ad 3)) rfl (by decide) tw189 ?_
      refine j_get (pc := 34) C d_Na_declares_34 3 1 wD_o3 rfl (v := .ref (ad 5)) rfl (by decide) tw113 ?_
      refine j_iload_n (pc := 37) C d_Na_declares_37 rfl 1 rfl ?_
      obtain ⟨b5, hf⟩ := og hf
      refine j_iald (pc := 38) C d_Na_declares_38 5 (inb_in b5) (x := d.1 5 a1.toNatClampNeg) wD_a5 rfl ?_
      refine j_iload_n (pc := 39) C d_Na_declares_39 rfl 2 rfl ?_
      refine j_icmp_ne (pc := 40) C d_Na_declares_40 (tgt := 47) rfl (fun h6 => ?_) (fun h6 => ?_)
      · rw [if_neg h6] at hf
        refine j_iconst (pc := 47) C d_Na_declares_47 ck_0 ?_
        cases hf
        exact j_zret (pc := 48) C d_Na_declares_48 rfl ⟨rfl, rfl⟩ (Nat.le_of_ble_eq_true rfl) (Nat.le_of_ble_eq_true rfl)
      · rw [if_pos h6] at hf
        refine j_iconst (pc := 43) C d_Na_declares_43 ck_1 ?_
        refine j_goto (pc := 44) C d_Na_declares_44 (tgt := 48) rfl ?_
        cases hf
        exact j_zret (pc := 48) C d_Na_declares_48 rfl ⟨rfl, rfl⟩ (Nat.le_of_ble_eq_true rfl) (Nat.le_of_ble_eq_true rfl)
  · rw [if_neg h2] at hf
    refine j_aload_n (pc := 10) C d_Na_declares_10 rfl 0 rfl ?_
    refine j_get (pc := 11) C d_Na_declares_11 12 0 wD_o12 rfl (v := .ref (ad 13)) rfl (by decide) tw172 ?_
    refine j_iload_n (pc := 14) C d_Na_declares_14 rfl 1 rfl ?_
    obtain ⟨b7, hf⟩ := og hf
    refine j_iald (pc := 15) C d_Na_declares_15 13 (inb_in b7) (x := d.1 13 a1.toNatClampNeg) wD_a13 rfl ?_
    refine j_iconst (pc := 16) C d_Na_declares_16 ck_3 ?_
    refine j_icmp_ne (pc := 17) C d_Na_declares_17 (tgt := 47) rfl (fun h8 => ?_) (fun h8 => ?_)
    · rw [if_neg h8] at hf
      refine j_iconst (pc := 47) C d_Na_declares_47 ck_0 ?_
      cases hf
      exact j_zret (pc := 48) C d_Na_declares_48 rfl ⟨rfl, rfl⟩ (Nat.le_of_ble_eq_true rfl) (Nat.le_of_ble_eq_true rfl)
    · rw [if_pos h8] at hf
      refine j_aload_n (pc := 20) C d_Na_declares_20 rfl 0 rfl ?_
      refine j_get (pc := 21) C d_Na_declares_21 12 1 wD_o12 rfl (v := .ref (ad 14)) rfl (by decide) tw175 ?_
      refine j_iload_n (pc := 24) C d_Na_declares_24 rfl 1 rfl ?_
      obtain ⟨b9, hf⟩ := og hf
      refine j_iald (pc := 25) C d_Na_declares_25 14 (inb_in b9) (x := d.1 14 a1.toNatClampNeg) wD_a14 rfl ?_
      refine j_iload_n (pc := 26) C d_Na_declares_26 rfl 1 rfl ?_
      refine j_icmp_ne (pc := 27) C d_Na_declares_27 (tgt := 47) rfl (fun h10 => ?_) (fun h10 => ?_)
      · rw [if_neg h10] at hf
        refine j_iconst (pc := 47) C d_Na_declares_47 ck_0 ?_
        cases hf
        exact j_zret (pc := 48) C d_Na_declares_48 rfl ⟨rfl, rfl⟩ (Nat.le_of_ble_eq_true rfl) (Nat.le_of_ble_eq_true rfl)
      · rw [if_pos h10] at hf
        refine j_aload_n (pc := 30) C d_Na_declares_30 rfl 0 rfl ?_
        refine j_get (pc := 31) C d_Na_declares_31 12 7 wD_o12 rfl (v := .ref (ad 3)) rfl (by decide) tw189 ?_
        refine j_get (pc := 34) C d_Na_declares_34 3 1 wD_o3 rfl (v := .ref (ad 5)) rfl (by decide) tw113 ?_
        refine j_iload_n (pc := 37) C d_Na_declares_37 rfl 1 rfl ?_
        obtain ⟨b11, hf⟩ := og hf
        refine j_iald (pc := 38) C d_Na_declares_38 5 (inb_in b11) (x := d.1 5 a1.toNatClampNeg) wD_a5 rfl ?_
        refine j_iload_n (pc := 39) C d_Na_declares_39 rfl 2 rfl ?_
        refine j_icmp_ne (pc := 40) C d_Na_declares_40 (tgt := 47) rfl (fun h12 => ?_) (fun h12 => ?_)
        · rw [if_neg h12] at hf
          refine j_iconst (pc := 47) C d_Na_declares_47 ck_0 ?_
          cases hf
          exact j_zret (pc := 48) C d_Na_declares_48 rfl ⟨rfl, rfl⟩ (Nat.le_of_ble_eq_true rfl) (Nat.le_of_ble_eq_true rfl)
        · rw [if_pos h12] at hf
          refine j_iconst (pc := 43) C d_Na_declares_43 ck_1 ?_
          refine j_goto (pc := 44) C d_Na_declares_44 (tgt := 48) rfl ?_
          cases hf
          exact j_zret (pc := 48) C d_Na_declares_48 rfl ⟨rfl, rfl⟩ (Nat.le_of_ble_eq_true rfl) (Nat.le_of_ble_eq_true rfl)
abbrev rm_Na_isDeclaredBefore : Room := { frames := 1, cells := 0, slots := 0, locals := 22 }
theorem cv_Na_isDeclaredBefore : CV y_Na_isDeclaredBefore b_Na_isDeclaredBefore 4 (some .boolean) 2 := ⟨⟨tw585, tw7, by decide +kernel⟩, tw584, (sw_ (q := (y_Na_isDeclaredBefore, 9)) (by decide +kernel) (by decide +kernel))⟩
set_option maxHeartbeats 4000000 in
set_option maxRecDepth 100000 in
theorem c_Na_isDeclaredBefore {g : GT} {ad : Nat → Nat} {a1 : Int32} {a2 : Int32} {d : DS} {q : Int32 × DS} (hf : f_Na_isDeclaredBefore a1 a2 d = some q) : MI g y_Na_isDeclaredBefore b_Na_isDeclaredBefore 4 (some .boolean) rm_Na_isDeclaredBefore [.ref (ad 12), .int a1, .int a2] (wD g ad d.1 d.2) q.1 (wD g ad q.2.1 q.2.2) := by
  refine MI.of (by decide) (Nat.le_of_ble_eq_true rfl) (fun 𝒥 C => ?_)
  have L2 : ∀ (n : Nat) (x : Int32 × Int32 × Int32 × DS), lpN (BNa_isDeclaredBefore_2) n x = some q → 𝒥 0 0 (wD g ad x.2.2.2.1 x.2.2.2.2) [(0, .ref (ad 12)), (1, .int x.1), (2, .int x.2.1), (3, .int x.2.2.1)] [] 2 := by
    refine lp_ind (fun k2 k2_ih x hf => ?_)
    unfold BNa_isDeclaredBefore_2 at hf
    refine j_iload_n (pc := 2) C d_Na_isDeclaredBefore_2 rfl 3 rfl ?_
    refine j_iload_n (pc := 3) C d_Na_isDeclaredBefore_3 rfl 1 rfl ?_
    refine j_icmp_ge (pc := 4) C d_Na_isDeclaredBefore_4 (tgt := 47) rfl (fun h1 => ?_) (fun h1 => ?_)
    · rw [if_pos h1] at hf
      refine j_iconst (pc := 47) C d_Na_isDeclaredBefore_47 ck_0 ?_
      cases hf
      exact j_zret (pc := 48) C d_Na_isDeclaredBefore_48 rfl ⟨rfl, rfl⟩ (Nat.le_of_ble_eq_true rfl) (Nat.le_of_ble_eq_true rfl)
    · rw [if_neg h1] at hf
      refine j_aload_n (pc := 7) C d_Na_isDeclaredBefore_7 rfl 0 rfl ?_
      refine j_iload_n (pc := 8) C d_Na_isDeclaredBefore_8 rfl 3 rfl ?_
      refine j_aload_n (pc := 9) C d_Na_isDeclaredBefore_9 rfl 0 rfl ?_
      refine j_get (pc := 10) C d_Na_isDeclaredBefore_10 12 7 wD_o12 rfl (v := .ref (ad 3)) rfl (by decide) tw189 ?_
      refine j_get (pc := 13) C d_Na_isDeclaredBefore_13 3 1 wD_o3 rfl (v := .ref (ad 5)) rfl (by decide) tw113 ?_
      refine j_iload_n (pc := 16) C d_Na_isDeclaredBefore_16 rfl 1 rfl ?_
      obtain ⟨b2, hf⟩ := og hf
      refine j_iald (pc := 17) C d_Na_isDeclaredBefore_17 5 (inb_in b2) (x := x.2.2.2.1 5 x.1.toNatClampNeg) wD_a5 rfl ?_
      obtain ⟨q3, eq3, hf⟩ := ob hf
      refine j_callVi (pc := 18) C (rest := []) d_Na_isDeclaredBefore_18 (c_Na_declares (g := g) (ad := ad) eq3) cv_Na_declares tw586 12 rfl rfl cut_same rfl rfl (Nat.le_of_ble_eq_true rfl) (kc2 := 0) (ks2 := 0) (by decide) ?_
      refine j_if_eq (pc := 21) C d_Na_isDeclaredBefore_21 (tgt := 41) rfl (fun h4 => ?_) (fun h4 => ?_)
      · rw [if_pos h4] at hf
        refine j_iinc (pc := 41) C d_Na_isDeclaredBefore_41 3 rfl (v := x.2.2.1 + 1) (iv ci_1) [1, 2, 3, 0] (by decide) (lc' := [(0, .ref (ad 12)), (1, .int x.1), (2, .int x.2.1), (3, .int (x.2.2.1 + 1))]) rfl ?_
        refine j_goto (pc := 44) C d_Na_isDeclaredBefore_44 (tgt := 2) rfl ?_
        exact k2_ih (x.1, x.2.1, x.2.2.1 + 1, q3.2) hf
      · rw [if_neg h4] at hf
        refine j_aload_n (pc := 24) C d_Na_isDeclaredBefore_24 rfl 0 rfl ?_
        refine j_get (pc := 25) C d_Na_isDeclaredBefore_25 12 3 wD_o12 rfl (v := .ref (ad 16)) rfl (by decide) tw181 ?_
        refine j_iload_n (pc := 28) C d_Na_isDeclaredBefore_28 rfl 3 rfl ?_
        obtain ⟨b5, hf⟩ := og hf
        refine j_iald (pc := 29) C d_Na_isDeclaredBefore_29 16 (inb_in b5) (x := q3.2.1 16 x.2.2.1.toNatClampNeg) wD_a16 rfl ?_
        refine j_aload_n (pc := 30) C d_Na_isDeclaredBefore_30 rfl 0 rfl ?_
        refine j_get (pc := 31) C d_Na_isDeclaredBefore_31 12 3 wD_o12 rfl (v := .ref (ad 16)) rfl (by decide) tw181 ?_
        refine j_iload_n (pc := 34) C d_Na_isDeclaredBefore_34 rfl 1 rfl ?_
        obtain ⟨b6, hf⟩ := og hf
        refine j_iald (pc := 35) C d_Na_isDeclaredBefore_35 16 (inb_in b6) (x := q3.2.1 16 x.1.toNatClampNeg) wD_a16 rfl ?_
        refine j_icmp_ne (pc := 36) C d_Na_isDeclaredBefore_36 (tgt := 41) rfl (fun h7 => ?_) (fun h7 => ?_)
        · rw [if_neg h7] at hf
          refine j_iinc (pc := 41) C d_Na_isDeclaredBefore_41 3 rfl (v := x.2.2.1 + 1) (iv ci_1) [1, 2, 3, 0] (by decide) (lc' := [(0, .ref (ad 12)), (1, .int x.1), (2, .int x.2.1), (3, .int (x.2.2.1 + 1))]) rfl ?_
          refine j_goto (pc := 44) C d_Na_isDeclaredBefore_44 (tgt := 2) rfl ?_
          exact k2_ih (x.1, x.2.1, x.2.2.1 + 1, q3.2) hf
        · rw [if_pos h7] at hf
          refine j_iconst (pc := 39) C d_Na_isDeclaredBefore_39 ck_1 ?_
          cases hf
          exact j_zret (pc := 40) C d_Na_isDeclaredBefore_40 rfl ⟨rfl, rfl⟩ (Nat.le_of_ble_eq_true rfl) (Nat.le_of_ble_eq_true rfl)
  unfold f_Na_isDeclaredBefore at hf
  change 𝒥 0 0 (wD g ad d.1 d.2) [(0, .ref (ad 12)), (1, .int a1), (2, .int a2)] [] 0
  refine j_iload_n (pc := 0) C d_Na_isDeclaredBefore_0 rfl 2 rfl ?_
  refine j_istore_n (pc := 1) C d_Na_isDeclaredBefore_1 rfl [1, 2, 3, 0] (by decide) (lc' := [(0, .ref (ad 12)), (1, .int a1), (2, .int a2), (3, .int a2)]) rfl ?_
  exact L2 100000 (a1, a2, a2, d) hf
abbrev rm_Na_meaning : Room := { frames := 1, cells := 0, slots := 0, locals := 22 }
theorem cv_Na_meaning : CV y_Na_meaning b_Na_meaning 4 (some .int) 2 := ⟨⟨tw593, tw7, by decide +kernel⟩, tw591, tw592⟩
set_option maxHeartbeats 4000000 in
set_option maxRecDepth 100000 in
theorem c_Na_meaning {g : GT} {ad : Nat → Nat} {a1 : Int32} {a2 : Int32} {d : DS} {q : Int32 × DS} (hf : f_Na_meaning a1 a2 d = some q) : MI g y_Na_meaning b_Na_meaning 4 (some .int) rm_Na_meaning [.ref (ad 12), .int a1, .int a2] (wD g ad d.1 d.2) q.1 (wD g ad q.2.1 q.2.2) := by
  refine MI.of (by decide) (Nat.le_of_ble_eq_true rfl) (fun 𝒥 C => ?_)
  have L4 : ∀ (n : Nat) (x : Int32 × Int32 × Int32 × DS), lpN (BNa_meaning_4) n x = some q → 𝒥 0 0 (wD g ad x.2.2.2.1 x.2.2.2.2) [(0, .ref (ad 12)), (1, .int x.1), (2, .int x.2.1), (3, .int x.2.2.1)] [] 4 := by
    refine lp_ind (fun k4 k4_ih x hf => ?_)
    unfold BNa_meaning_4 at hf
    refine j_iload_n (pc := 4) C d_Na_meaning_4 rfl 3 rfl ?_
    refine j_if_lt (pc := 5) C d_Na_meaning_5 (tgt := 60) rfl (fun h1 => ?_) (fun h1 => ?_)
    · rw [if_pos h1] at hf
      refine j_iconst (pc := 60) C d_Na_meaning_60 ck_m1 ?_
      cases hf
      exact j_iret (pc := 61) C d_Na_meaning_61 ⟨rfl, rfl⟩ (Nat.le_of_ble_eq_true rfl) (Nat.le_of_ble_eq_true rfl)
    · rw [if_neg h1] at hf
      refine j_aload_n (pc := 8) C d_Na_meaning_8 rfl 0 rfl ?_
      refine j_get (pc := 9) C d_Na_meaning_9 12 0 wD_o12 rfl (v := .ref (ad 13)) rfl (by decide) tw172 ?_
      refine j_iload_n (pc := 12) C d_Na_meaning_12 rfl 3 rfl ?_
      obtain ⟨b2, hf⟩ := og hf
      refine j_iald (pc := 13) C d_Na_meaning_13 13 (inb_in b2) (x := x.2.2.2.1 13 x.2.2.1.toNatClampNeg) wD_a13 rfl ?_
      refine j_iconst (pc := 14) C d_Na_meaning_14 ck_1 ?_
      refine j_icmp_eq (pc := 15) C d_Na_meaning_15 (tgt := 60) rfl (fun h3 => ?_) (fun h3 => ?_)
      · rw [if_pos h3] at hf
        refine j_iconst (pc := 60) C d_Na_meaning_60 ck_m1 ?_
        cases hf
        exact j_iret (pc := 61) C d_Na_meaning_61 ⟨rfl, rfl⟩ (Nat.le_of_ble_eq_true rfl) (Nat.le_of_ble_eq_true rfl)
      · rw [if_neg h3] at hf
        refine j_aload_n (pc := 18) C d_Na_meaning_18 rfl 0 rfl ?_
        refine j_iload_n (pc := 19) C d_Na_meaning_19 rfl 3 rfl ?_
        refine j_iload_n (pc := 20) C d_Na_meaning_20 rfl 2 rfl ?_
        obtain ⟨q4, eq4, hf⟩ := ob hf
        refine j_callVi (pc := 21) C (rest := []) d_Na_meaning_21 (c_Na_declares (g := g) (ad := ad) eq4) cv_Na_declares tw586 12 rfl rfl cut_same rfl rfl (Nat.le_of_ble_eq_true rfl) (kc2 := 0) (ks2 := 0) (by decide) ?_
        refine j_if_eq (pc := 24) C d_Na_meaning_24 (tgt := 54) rfl (fun h5 => ?_) (fun h5 => ?_)
        · rw [if_pos h5] at hf
          refine j_iinc (pc := 54) C d_Na_meaning_54 3 rfl (v := x.2.2.1 - 1) id_m1 [1, 2, 3, 0] (by decide) (lc' := [(0, .ref (ad 12)), (1, .int x.1), (2, .int x.2.1), (3, .int (x.2.2.1 - 1))]) rfl ?_
          refine j_goto (pc := 57) C d_Na_meaning_57 (tgt := 4) rfl ?_
          exact k4_ih (x.1, x.2.1, x.2.2.1 - 1, q4.2) hf
        · rw [if_neg h5] at hf
          refine j_aload_n (pc := 27) C d_Na_meaning_27 rfl 0 rfl ?_
          refine j_get (pc := 28) C d_Na_meaning_28 12 4 wD_o12 rfl (v := .ref (ad 17)) rfl (by decide) tw183 ?_
          refine j_iload_n (pc := 31) C d_Na_meaning_31 rfl 3 rfl ?_
          obtain ⟨b6, hf⟩ := og hf
          refine j_iald (pc := 32) C d_Na_meaning_32 17 (inb_in b6) (x := q4.2.1 17 x.2.2.1.toNatClampNeg) wD_a17 rfl ?_
          refine j_iload_n (pc := 33) C d_Na_meaning_33 rfl 1 rfl ?_
          refine j_icmp_gt (pc := 34) C d_Na_meaning_34 (tgt := 54) rfl (fun h7 => ?_) (fun h7 => ?_)
          · rw [if_pos h7] at hf
            refine j_iinc (pc := 54) C d_Na_meaning_54 3 rfl (v := x.2.2.1 - 1) id_m1 [1, 2, 3, 0] (by decide) (lc' := [(0, .ref (ad 12)), (1, .int x.1), (2, .int x.2.1), (3, .int (x.2.2.1 - 1))]) rfl ?_
            refine j_goto (pc := 57) C d_Na_meaning_57 (tgt := 4) rfl ?_
            exact k4_ih (x.1, x.2.1, x.2.2.1 - 1, q4.2) hf
          · rw [if_neg h7] at hf
            refine j_iload_n (pc := 37) C d_Na_meaning_37 rfl 1 rfl ?_
            refine j_aload_n (pc := 38) C d_Na_meaning_38 rfl 0 rfl ?_
            refine j_get (pc := 39) C d_Na_meaning_39 12 5 wD_o12 rfl (v := .ref (ad 18)) rfl (by decide) tw185 ?_
            refine j_aload_n (pc := 42) C d_Na_meaning_42 rfl 0 rfl ?_
            refine j_get (pc := 43) C d_Na_meaning_43 12 3 wD_o12 rfl (v := .ref (ad 16)) rfl (by decide) tw181 ?_
            refine j_iload_n (pc := 46) C d_Na_meaning_46 rfl 3 rfl ?_
            obtain ⟨b8, hf⟩ := og hf
            refine j_iald (pc := 47) C d_Na_meaning_47 16 (inb_in b8) (x := q4.2.1 16 x.2.2.1.toNatClampNeg) wD_a16 rfl ?_
            obtain ⟨b9, hf⟩ := og hf
            refine j_iald (pc := 48) C d_Na_meaning_48 18 (inb_in b9) (x := q4.2.1 18 (q4.2.1 16 x.2.2.1.toNatClampNeg).toNatClampNeg) wD_a18 rfl ?_
            refine j_topi C (fun v10 ev10 => ?_)
            replace hf := ov ev10 hf
            refine j_icmp_ge (pc := 49) C d_Na_meaning_49 (tgt := 54) rfl (fun h11 => ?_) (fun h11 => ?_)
            · rw [if_pos h11] at hf
              refine j_iinc (pc := 54) C d_Na_meaning_54 3 rfl (v := x.2.2.1 - 1) id_m1 [1, 2, 3, 0] (by decide) (lc' := [(0, .ref (ad 12)), (1, .int x.1), (2, .int x.2.1), (3, .int (x.2.2.1 - 1))]) rfl ?_
              refine j_goto (pc := 57) C d_Na_meaning_57 (tgt := 4) rfl ?_
              exact k4_ih (x.1, x.2.1, x.2.2.1 - 1, q4.2) hf
            · rw [if_neg h11] at hf
              refine j_iload_n (pc := 52) C d_Na_meaning_52 rfl 3 rfl ?_
              cases hf
              exact j_iret (pc := 53) C d_Na_meaning_53 ⟨rfl, rfl⟩ (Nat.le_of_ble_eq_true rfl) (Nat.le_of_ble_eq_true rfl)
  unfold f_Na_meaning at hf
  change 𝒥 0 0 (wD g ad d.1 d.2) [(0, .ref (ad 12)), (1, .int a1), (2, .int a2)] [] 0
  refine j_iload_n (pc := 0) C d_Na_meaning_0 rfl 1 rfl ?_
  refine j_iconst (pc := 1) C d_Na_meaning_1 ck_1 ?_
  refine j_isub (pc := 2) C d_Na_meaning_2 ?_
  refine j_istore_n (pc := 3) C d_Na_meaning_3 rfl [1, 2, 3, 0] (by decide) (lc' := [(0, .ref (ad 12)), (1, .int a1), (2, .int a2), (3, .int (a1 - 1))]) rfl ?_
  exact L4 100000 (a1, a2, a1 - 1, d) hf
abbrev rm_Na_bind : Room := { frames := 2, cells := 0, slots := 0, locals := 45 }
theorem cv_Na_bind : CV y_Na_bind b_Na_bind 4 none 2 := ⟨⟨tw569, tw7, by decide +kernel⟩, tw567, tw568⟩
set_option maxHeartbeats 4000000 in
set_option maxRecDepth 100000 in
theorem c_Na_bind {g : GT} {ad : Nat → Nat} {a1 : Int32} {a2 : Int32} {d : DS} {q : DS} (hf : f_Na_bind a1 a2 d = some q) : MV g y_Na_bind b_Na_bind 4 none rm_Na_bind [.ref (ad 12), .int a1, .int a2] (wD g ad d.1 d.2) (wD g ad q.1 q.2) := by
  refine MV.of (by decide) (Nat.le_of_ble_eq_true rfl) (fun 𝒥 C => ?_)
  have L2 : ∀ (n : Nat) (x : Int32 × Int32 × Int32 × DS), lpN (BNa_bind_2) n x = some q → 𝒥 0 0 (wD g ad x.2.2.2.1 x.2.2.2.2) [(0, .ref (ad 12)), (1, .int x.1), (2, .int x.2.1), (3, .int x.2.2.1)] [] 2 := by
    refine lp_ind (fun k2 k2_ih x hf => ?_)
    unfold BNa_bind_2 at hf
    refine j_iload_n (pc := 2) C d_Na_bind_2 rfl 3 rfl ?_
    refine j_iload_n (pc := 3) C d_Na_bind_3 rfl 2 rfl ?_
    refine j_icmp_ge (pc := 4) C d_Na_bind_4 (tgt := 138) rfl (fun h1 => ?_) (fun h1 => ?_)
    · rw [if_pos h1] at hf
      cases hf
      exact j_vret (pc := 138) C d_Na_bind_138 ⟨rfl, rfl⟩ (Nat.le_of_ble_eq_true rfl) (Nat.le_of_ble_eq_true rfl)
    · rw [if_neg h1] at hf
      refine j_aload_n (pc := 7) C d_Na_bind_7 rfl 0 rfl ?_
      refine j_get (pc := 8) C d_Na_bind_8 12 0 wD_o12 rfl (v := .ref (ad 13)) rfl (by decide) tw172 ?_
      refine j_iload_n (pc := 11) C d_Na_bind_11 rfl 3 rfl ?_
      obtain ⟨b2, hf⟩ := og hf
      refine j_iald (pc := 12) C d_Na_bind_12 13 (inb_in b2) (x := x.2.2.2.1 13 x.2.2.1.toNatClampNeg) wD_a13 rfl ?_
      refine j_case (pc := 13) C d_Na_bind_13 (z := 1) (off := 39) (tgt := 52) (by decide) rfl (fun h3 => ?_) (fun h3 => ?_)
      · rw [if_pos h3] at hf
        refine j_aload_n (pc := 52) C d_Na_bind_52 rfl 0 rfl ?_
        refine j_iload_n (pc := 53) C d_Na_bind_53 rfl 3 rfl ?_
        refine j_aload_n (pc := 54) C d_Na_bind_54 rfl 0 rfl ?_
        refine j_get (pc := 55) C d_Na_bind_55 12 8 wD_o12 rfl (v := .ref (ad 8)) rfl (by decide) tw190 ?_
        refine j_iload_n (pc := 58) C d_Na_bind_58 rfl 3 rfl ?_
        obtain ⟨q4, eq4, hf⟩ := ob hf
        refine j_callVi (pc := 59) C (rest := [.int x.2.2.1, .ref (ad 12)]) d_Na_bind_59 (c_Fn_isFirst (g := g) (ad := ad) eq4) cv_Fn_isFirst tw570 8 rfl rfl cut_same rfl rfl (Nat.le_of_ble_eq_true rfl) (kc2 := 0) (ks2 := 0) (by decide) ?_
        refine j_if_eq (pc := 62) C d_Na_bind_62 (tgt := 69) rfl (fun h5 => ?_) (fun h5 => ?_)
        · rw [if_pos h5] at hf
          refine j_iconst (pc := 69) C d_Na_bind_69 ck_m1 ?_
          refine j_bipush (pc := 70) C d_Na_bind_70 cb_6 ?_
          obtain ⟨q6, eq6, hf⟩ := ob hf
          refine j_callVv (pc := 72) C (rest := []) d_Na_bind_72 (c_Na_bindOr (g := g) (ad := ad) eq6) cv_Na_bindOr tw578 12 rfl rfl cut_same rfl rfl (Nat.le_of_ble_eq_true rfl) (kc2 := 0) (ks2 := 0) (by decide) ?_
          refine j_goto (pc := 75) C d_Na_bind_75 (tgt := 132) rfl ?_
          refine j_iinc (pc := 132) C d_Na_bind_132 3 rfl (v := x.2.2.1 + 1) (iv ci_1) [1, 2, 3, 0] (by decide) (lc' := [(0, .ref (ad 12)), (1, .int x.1), (2, .int x.2.1), (3, .int (x.2.2.1 + 1))]) rfl ?_
          refine j_goto (pc := 135) C d_Na_bind_135 (tgt := 2) rfl ?_
          exact k2_ih (x.1, x.2.1, x.2.2.1 + 1, q6) hf
        · rw [if_neg h5] at hf
          refine j_iload_n (pc := 65) C d_Na_bind_65 rfl 3 rfl ?_
          refine j_goto (pc := 66) C d_Na_bind_66 (tgt := 70) rfl ?_
          refine j_bipush (pc := 70) C d_Na_bind_70 cb_6 ?_
          obtain ⟨q7, eq7, hf⟩ := ob hf
          refine j_callVv (pc := 72) C (rest := []) d_Na_bind_72 (c_Na_bindOr (g := g) (ad := ad) eq7) cv_Na_bindOr tw578 12 rfl rfl cut_same rfl rfl (Nat.le_of_ble_eq_true rfl) (kc2 := 0) (ks2 := 0) (by decide) ?_
          refine j_goto (pc := 75) C d_Na_bind_75 (tgt := 132) rfl ?_
          refine j_iinc (pc := 132) C d_Na_bind_132 3 rfl (v := x.2.2.1 + 1) (iv ci_1) [1, 2, 3, 0] (by decide) (lc' := [(0, .ref (ad 12)), (1, .int x.1), (2, .int x.2.1), (3, .int (x.2.2.1 + 1))]) rfl ?_
          refine j_goto (pc := 135) C d_Na_bind_135 (tgt := 2) rfl ?_
          exact k2_ih (x.1, x.2.1, x.2.2.1 + 1, q7) hf
      rw [if_neg h3] at hf
      refine j_case (pc := 13) C d_Na_bind_13 (z := 2) (off := 65) (tgt := 78) (by decide) rfl (fun h8 => ?_) (fun h8 => ?_)
      · rw [if_pos h8] at hf
        refine j_aload_n (pc := 78) C d_Na_bind_78 rfl 0 rfl ?_
        refine j_iload_n (pc := 79) C d_Na_bind_79 rfl 3 rfl ?_
        refine j_aload_n (pc := 80) C d_Na_bind_80 rfl 0 rfl ?_
        refine j_iload_n (pc := 81) C d_Na_bind_81 rfl 3 rfl ?_
        refine j_iload_n (pc := 82) C d_Na_bind_82 rfl 1 rfl ?_
        obtain ⟨q9, eq9, hf⟩ := ob hf
        refine j_callVi (pc := 83) C (rest := [.int x.2.2.1, .ref (ad 12)]) d_Na_bind_83 (c_Na_isDeclaredBefore (g := g) (ad := ad) eq9) cv_Na_isDeclaredBefore tw582 12 rfl rfl cut_same rfl rfl (Nat.le_of_ble_eq_true rfl) (kc2 := 0) (ks2 := 0) (by decide) ?_
        refine j_if_eq (pc := 86) C d_Na_bind_86 (tgt := 93) rfl (fun h10 => ?_) (fun h10 => ?_)
        · rw [if_pos h10] at hf
          refine j_iload_n (pc := 93) C d_Na_bind_93 rfl 3 rfl ?_
          refine j_iconst (pc := 94) C d_Na_bind_94 ck_2 ?_
          obtain ⟨q11, eq11, hf⟩ := ob hf
          refine j_callVv (pc := 95) C (rest := []) d_Na_bind_95 (c_Na_bindOr (g := g) (ad := ad) eq11) cv_Na_bindOr tw578 12 rfl rfl cut_same rfl rfl (Nat.le_of_ble_eq_true rfl) (kc2 := 0) (ks2 := 0) (by decide) ?_
          refine j_goto (pc := 98) C d_Na_bind_98 (tgt := 132) rfl ?_
          refine j_iinc (pc := 132) C d_Na_bind_132 3 rfl (v := x.2.2.1 + 1) (iv ci_1) [1, 2, 3, 0] (by decide) (lc' := [(0, .ref (ad 12)), (1, .int x.1), (2, .int x.2.1), (3, .int (x.2.2.1 + 1))]) rfl ?_
          refine j_goto (pc := 135) C d_Na_bind_135 (tgt := 2) rfl ?_
          exact k2_ih (x.1, x.2.1, x.2.2.1 + 1, q11) hf
        · rw [if_neg h10] at hf
          refine j_iconst (pc := 89) C d_Na_bind_89 ck_m1 ?_
          refine j_goto (pc := 90) C d_Na_bind_90 (tgt := 94) rfl ?_
          refine j_iconst (pc := 94) C d_Na_bind_94 ck_2 ?_
          obtain ⟨q12, eq12, hf⟩ := ob hf
          refine j_callVv (pc := 95) C (rest := []) d_Na_bind_95 (c_Na_bindOr (g := g) (ad := ad) eq12) cv_Na_bindOr tw578 12 rfl rfl cut_same rfl rfl (Nat.le_of_ble_eq_true rfl) (kc2 := 0) (ks2 := 0) (by decide) ?_
          refine j_goto (pc := 98) C d_Na_bind_98 (tgt := 132) rfl ?_
          refine j_iinc (pc := 132) C d_Na_bind_132 3 rfl (v := x.2.2.1 + 1) (iv ci_1) [1, 2, 3, 0] (by decide) (lc' := [(0, .ref (ad 12)), (1, .int x.1), (2, .int x.2.1), (3, .int (x.2.2.1 + 1))]) rfl ?_
          refine j_goto (pc := 135) C d_Na_bind_135 (tgt := 2) rfl ?_
          exact k2_ih (x.1, x.2.1, x.2.2.1 + 1, q12) hf
      rw [if_neg h8] at hf
      refine j_case (pc := 13) C d_Na_bind_13 (z := 3) (off := 65) (tgt := 78) (by decide) rfl (fun h13 => ?_) (fun h13 => ?_)
      · rw [if_pos h13] at hf
        refine j_aload_n (pc := 78) C d_Na_bind_78 rfl 0 rfl ?_
        refine j_iload_n (pc := 79) C d_Na_bind_79 rfl 3 rfl ?_
        refine j_aload_n (pc := 80) C d_Na_bind_80 rfl 0 rfl ?_
        refine j_iload_n (pc := 81) C d_Na_bind_81 rfl 3 rfl ?_
        refine j_iload_n (pc := 82) C d_Na_bind_82 rfl 1 rfl ?_
        obtain ⟨q14, eq14, hf⟩ := ob hf
        refine j_callVi (pc := 83) C (rest := [.int x.2.2.1, .ref (ad 12)]) d_Na_bind_83 (c_Na_isDeclaredBefore (g := g) (ad := ad) eq14) cv_Na_isDeclaredBefore tw582 12 rfl rfl cut_same rfl rfl (Nat.le_of_ble_eq_true rfl) (kc2 := 0) (ks2 := 0) (by decide) ?_
        refine j_if_eq (pc := 86) C d_Na_bind_86 (tgt := 93) rfl (fun h15 => ?_) (fun h15 => ?_)
        · rw [if_pos h15] at hf
          refine j_iload_n (pc := 93) C d_Na_bind_93 rfl 3 rfl ?_
          refine j_iconst (pc := 94) C d_Na_bind_94 ck_2 ?_
          obtain ⟨q16, eq16, hf⟩ := ob hf
          refine j_callVv (pc := 95) C (rest := []) d_Na_bind_95 (c_Na_bindOr (g := g) (ad := ad) eq16) cv_Na_bindOr tw578 12 rfl rfl cut_same rfl rfl (Nat.le_of_ble_eq_true rfl) (kc2 := 0) (ks2 := 0) (by decide) ?_
          refine j_goto (pc := 98) C d_Na_bind_98 (tgt := 132) rfl ?_
          refine j_iinc (pc := 132) C d_Na_bind_132 3 rfl (v := x.2.2.1 + 1) (iv ci_1) [1, 2, 3, 0] (by decide) (lc' := [(0, .ref (ad 12)), (1, .int x.1), (2, .int x.2.1), (3, .int (x.2.2.1 + 1))]) rfl ?_
          refine j_goto (pc := 135) C d_Na_bind_135 (tgt := 2) rfl ?_
          exact k2_ih (x.1, x.2.1, x.2.2.1 + 1, q16) hf
        · rw [if_neg h15] at hf
          refine j_iconst (pc := 89) C d_Na_bind_89 ck_m1 ?_
          refine j_goto (pc := 90) C d_Na_bind_90 (tgt := 94) rfl ?_
          refine j_iconst (pc := 94) C d_Na_bind_94 ck_2 ?_
          obtain ⟨q17, eq17, hf⟩ := ob hf
          refine j_callVv (pc := 95) C (rest := []) d_Na_bind_95 (c_Na_bindOr (g := g) (ad := ad) eq17) cv_Na_bindOr tw578 12 rfl rfl cut_same rfl rfl (Nat.le_of_ble_eq_true rfl) (kc2 := 0) (ks2 := 0) (by decide) ?_
          refine j_goto (pc := 98) C d_Na_bind_98 (tgt := 132) rfl ?_
          refine j_iinc (pc := 132) C d_Na_bind_132 3 rfl (v := x.2.2.1 + 1) (iv ci_1) [1, 2, 3, 0] (by decide) (lc' := [(0, .ref (ad 12)), (1, .int x.1), (2, .int x.2.1), (3, .int (x.2.2.1 + 1))]) rfl ?_
          refine j_goto (pc := 135) C d_Na_bind_135 (tgt := 2) rfl ?_
          exact k2_ih (x.1, x.2.1, x.2.2.1 + 1, q17) hf
      rw [if_neg h13] at hf
      refine j_case (pc := 13) C d_Na_bind_13 (z := 4) (off := 88) (tgt := 101) (by decide) rfl (fun h18 => ?_) (fun h18 => ?_)
      · rw [if_pos h18] at hf
        refine j_aload_n (pc := 101) C d_Na_bind_101 rfl 0 rfl ?_
        refine j_iload_n (pc := 102) C d_Na_bind_102 rfl 3 rfl ?_
        refine j_aload_n (pc := 103) C d_Na_bind_103 rfl 0 rfl ?_
        refine j_iload_n (pc := 104) C d_Na_bind_104 rfl 3 rfl ?_
        refine j_aload_n (pc := 105) C d_Na_bind_105 rfl 0 rfl ?_
        refine j_get (pc := 106) C d_Na_bind_106 12 7 wD_o12 rfl (v := .ref (ad 3)) rfl (by decide) tw189 ?_
        refine j_get (pc := 109) C d_Na_bind_109 3 1 wD_o3 rfl (v := .ref (ad 5)) rfl (by decide) tw113 ?_
        refine j_iload_n (pc := 112) C d_Na_bind_112 rfl 3 rfl ?_
        obtain ⟨b19, hf⟩ := og hf
        refine j_iald (pc := 113) C d_Na_bind_113 5 (inb_in b19) (x := x.2.2.2.1 5 x.2.2.1.toNatClampNeg) wD_a5 rfl ?_
        obtain ⟨q20, eq20, hf⟩ := ob hf
        refine j_callVi (pc := 114) C (rest := [.int x.2.2.1, .ref (ad 12)]) d_Na_bind_114 (c_Na_meaning (g := g) (ad := ad) eq20) cv_Na_meaning tw590 12 rfl rfl cut_same rfl rfl (Nat.le_of_ble_eq_true rfl) (kc2 := 0) (ks2 := 0) (by decide) ?_
        refine j_iconst (pc := 117) C d_Na_bind_117 ck_3 ?_
        obtain ⟨q21, eq21, hf⟩ := ob hf
        refine j_callVv (pc := 118) C (rest := []) d_Na_bind_118 (c_Na_bindOr (g := g) (ad := ad) eq21) cv_Na_bindOr tw578 12 rfl rfl cut_same rfl rfl (Nat.le_of_ble_eq_true rfl) (kc2 := 0) (ks2 := 0) (by decide) ?_
        refine j_goto (pc := 121) C d_Na_bind_121 (tgt := 132) rfl ?_
        refine j_iinc (pc := 132) C d_Na_bind_132 3 rfl (v := x.2.2.1 + 1) (iv ci_1) [1, 2, 3, 0] (by decide) (lc' := [(0, .ref (ad 12)), (1, .int x.1), (2, .int x.2.1), (3, .int (x.2.2.1 + 1))]) rfl ?_
        refine j_goto (pc := 135) C d_Na_bind_135 (tgt := 2) rfl ?_
        exact k2_ih (x.1, x.2.1, x.2.2.1 + 1, q21) hf
      rw [if_neg h18] at hf
      refine j_case (pc := 13) C d_Na_bind_13 (z := 5) (off := 88) (tgt := 101) (by decide) rfl (fun h22 => ?_) (fun h22 => ?_)
      · rw [if_pos h22] at hf
        refine j_aload_n (pc := 101) C d_Na_bind_101 rfl 0 rfl ?_
        refine j_iload_n (pc := 102) C d_Na_bind_102 rfl 3 rfl ?_
        refine j_aload_n (pc := 103) C d_Na_bind_103 rfl 0 rfl ?_
        refine j_iload_n (pc := 104) C d_Na_bind_104 rfl 3 rfl ?_
        refine j_aload_n (pc := 105) C d_Na_bind_105 rfl 0 rfl ?_
        refine j_get (pc := 106) C d_Na_bind_106 12 7 wD_o12 rfl (v := .ref (ad 3)) rfl (by decide) tw189 ?_
        refine j_get (pc := 109) C d_Na_bind_109 3 1 wD_o3 rfl (v := .ref (ad 5)) rfl (by decide) tw113 ?_
        refine j_iload_n (pc := 112) C d_Na_bind_112 rfl 3 rfl ?_
        obtain ⟨b23, hf⟩ := og hf
        refine j_iald (pc := 113) C d_Na_bind_113 5 (inb_in b23) (x := x.2.2.2.1 5 x.2.2.1.toNatClampNeg) wD_a5 rfl ?_
        obtain ⟨q24, eq24, hf⟩ := ob hf
        refine j_callVi (pc := 114) C (rest := [.int x.2.2.1, .ref (ad 12)]) d_Na_bind_114 (c_Na_meaning (g := g) (ad := ad) eq24) cv_Na_meaning tw590 12 rfl rfl cut_same rfl rfl (Nat.le_of_ble_eq_true rfl) (kc2 := 0) (ks2 := 0) (by decide) ?_
        refine j_iconst (pc := 117) C d_Na_bind_117 ck_3 ?_
        obtain ⟨q25, eq25, hf⟩ := ob hf
        refine j_callVv (pc := 118) C (rest := []) d_Na_bind_118 (c_Na_bindOr (g := g) (ad := ad) eq25) cv_Na_bindOr tw578 12 rfl rfl cut_same rfl rfl (Nat.le_of_ble_eq_true rfl) (kc2 := 0) (ks2 := 0) (by decide) ?_
        refine j_goto (pc := 121) C d_Na_bind_121 (tgt := 132) rfl ?_
        refine j_iinc (pc := 132) C d_Na_bind_132 3 rfl (v := x.2.2.1 + 1) (iv ci_1) [1, 2, 3, 0] (by decide) (lc' := [(0, .ref (ad 12)), (1, .int x.1), (2, .int x.2.1), (3, .int (x.2.2.1 + 1))]) rfl ?_
        refine j_goto (pc := 135) C d_Na_bind_135 (tgt := 2) rfl ?_
        exact k2_ih (x.1, x.2.1, x.2.2.1 + 1, q25) hf
      rw [if_neg h22] at hf
      refine j_case (pc := 13) C d_Na_bind_13 (z := 6) (off := 111) (tgt := 124) (by decide) rfl (fun h26 => ?_) (fun h26 => ?_)
      · rw [if_pos h26] at hf
        refine j_aload_n (pc := 124) C d_Na_bind_124 rfl 0 rfl ?_
        refine j_iload_n (pc := 125) C d_Na_bind_125 rfl 3 rfl ?_
        obtain ⟨q27, eq27, hf⟩ := ob hf
        refine j_callVv (pc := 126) C (rest := []) d_Na_bind_126 (c_Na_bindCall (g := g) (ad := ad) eq27) cv_Na_bindCall tw594 12 rfl rfl cut_same rfl rfl (Nat.le_of_ble_eq_true rfl) (kc2 := 0) (ks2 := 0) (by decide) ?_
        refine j_goto (pc := 129) C d_Na_bind_129 (tgt := 132) rfl ?_
        refine j_iinc (pc := 132) C d_Na_bind_132 3 rfl (v := x.2.2.1 + 1) (iv ci_1) [1, 2, 3, 0] (by decide) (lc' := [(0, .ref (ad 12)), (1, .int x.1), (2, .int x.2.1), (3, .int (x.2.2.1 + 1))]) rfl ?_
        refine j_goto (pc := 135) C d_Na_bind_135 (tgt := 2) rfl ?_
        exact k2_ih (x.1, x.2.1, x.2.2.1 + 1, q27) hf
      rw [if_neg h26] at hf
      have ih3 := ine 1 (by decide) h3
      have ih8 := ine 2 (by decide) h8
      have ih13 := ine 3 (by decide) h13
      have ih18 := ine 4 (by decide) h18
      have ih22 := ine 5 (by decide) h22
      have ih26 := ine 6 (by decide) h26
      refine j_dflt C d_Na_bind_13 (tgt := 132) (by omega) rfl ?_
      refine j_iinc (pc := 132) C d_Na_bind_132 3 rfl (v := x.2.2.1 + 1) (iv ci_1) [1, 2, 3, 0] (by decide) (lc' := [(0, .ref (ad 12)), (1, .int x.1), (2, .int x.2.1), (3, .int (x.2.2.1 + 1))]) rfl ?_
      refine j_goto (pc := 135) C d_Na_bind_135 (tgt := 2) rfl ?_
      exact k2_ih (x.1, x.2.1, x.2.2.1 + 1, x.2.2.2) hf
  unfold f_Na_bind at hf
  change 𝒥 0 0 (wD g ad d.1 d.2) [(0, .ref (ad 12)), (1, .int a1), (2, .int a2)] [] 0
  refine j_iload_n (pc := 0) C d_Na_bind_0 rfl 1 rfl ?_
  refine j_istore_n (pc := 1) C d_Na_bind_1 rfl [1, 2, 3, 0] (by decide) (lc' := [(0, .ref (ad 12)), (1, .int a1), (2, .int a2), (3, .int a1)]) rfl ?_
  exact L2 100000 (a1, a2, a1, d) hf
abbrev rm_Dr_judgePart : Room := { frames := 3, cells := 0, slots := 0, locals := 68 }
theorem cv_Dr_judgePart : CV y_Dr_judgePart b_Dr_judgePart 3 none 1 := ⟨⟨tw561, tw3, by decide +kernel⟩, tw560, (sw_ (q := (y_Dr_judgePart, 12)) (by decide +kernel) (by decide +kernel))⟩
set_option maxHeartbeats 4000000 in
set_option maxRecDepth 100000 in
theorem c_Dr_judgePart {g : GT} {ad : Nat → Nat} {a1 : Int32} {d : DS} {q : DS} (hf : f_Dr_judgePart a1 d = some q) : MV g y_Dr_judgePart b_Dr_judgePart 3 none rm_Dr_judgePart [.ref (ad 0), .int a1] (wD g ad d.1 d.2) (wD g ad q.1 q.2) := by
  refine MV.of (by decide) (Nat.le_of_ble_eq_true rfl) (fun 𝒥 C => ?_)
  have L50 : ∀ (n : Nat) (x : Int32 × Int32 × DS), lpN (BDr_judgePart_50) n x = some q → 𝒥 0 0 (wD g ad x.2.2.1 x.2.2.2) [(0, .ref (ad 0)), (1, .int x.1), (2, .int x.2.1)] [] 50 := by
    refine lp_ind (fun k50 k50_ih x hf => ?_)
    unfold BDr_judgePart_50 at hf
    refine j_iload_n (pc := 50) C d_Dr_judgePart_50 rfl 2 rfl ?_
    refine j_aload_n (pc := 51) C d_Dr_judgePart_51 rfl 0 rfl ?_
    refine j_get (pc := 52) C d_Dr_judgePart_52 0 6 wD_o0 rfl (v := .ref (ad 27)) rfl (by decide) tw283 ?_
    refine j_iload_n (pc := 55) C d_Dr_judgePart_55 rfl 1 rfl ?_
    refine j_iconst (pc := 56) C d_Dr_judgePart_56 ck_1 ?_
    refine j_iadd (pc := 57) C d_Dr_judgePart_57 ?_
    obtain ⟨b7, hf⟩ := og hf
    refine j_iald (pc := 58) C d_Dr_judgePart_58 27 (inb_in b7) (x := x.2.2.1 27 (x.1 + 1).toNatClampNeg) wD_a27 rfl ?_
    refine j_icmp_ge (pc := 59) C d_Dr_judgePart_59 (tgt := 103) rfl (fun h8 => ?_) (fun h8 => ?_)
    · rw [if_pos h8] at hf
      cases hf
      exact j_vret (pc := 103) C d_Dr_judgePart_103 ⟨rfl, rfl⟩ (Nat.le_of_ble_eq_true rfl) (Nat.le_of_ble_eq_true rfl)
    · rw [if_neg h8] at hf
      refine j_aload_n (pc := 62) C d_Dr_judgePart_62 rfl 0 rfl ?_
      refine j_get (pc := 63) C d_Dr_judgePart_63 0 3 wD_o0 rfl (v := .ref (ad 12)) rfl (by decide) tw277 ?_
      refine j_get (pc := 66) C d_Dr_judgePart_66 12 2 wD_o12 rfl (v := .ref (ad 15)) rfl (by decide) tw180 ?_
      refine j_iload_n (pc := 69) C d_Dr_judgePart_69 rfl 2 rfl ?_
      obtain ⟨b9, hf⟩ := og hf
      refine j_iald (pc := 70) C d_Dr_judgePart_70 15 (inb_in b9) (x := x.2.2.1 15 x.2.1.toNatClampNeg) wD_a15 rfl ?_
      refine j_iconst (pc := 71) C d_Dr_judgePart_71 ck_m1 ?_
      refine j_icmp_eq (pc := 72) C d_Dr_judgePart_72 (tgt := 97) rfl (fun h10 => ?_) (fun h10 => ?_)
      · rw [if_pos h10] at hf
        refine j_iinc (pc := 97) C d_Dr_judgePart_97 2 rfl (v := x.2.1 + 1) (iv ci_1) [1, 2, 0] (by decide) (lc' := [(0, .ref (ad 0)), (1, .int x.1), (2, .int (x.2.1 + 1))]) rfl ?_
        refine j_goto (pc := 100) C d_Dr_judgePart_100 (tgt := 50) rfl ?_
        exact k50_ih (x.1, x.2.1 + 1, x.2.2) hf
      · rw [if_neg h10] at hf
        refine j_aload_n (pc := 75) C d_Dr_judgePart_75 rfl 0 rfl ?_
        refine j_aload_n (pc := 76) C d_Dr_judgePart_76 rfl 0 rfl ?_
        refine j_get (pc := 77) C d_Dr_judgePart_77 0 3 wD_o0 rfl (v := .ref (ad 12)) rfl (by decide) tw277 ?_
        refine j_get (pc := 80) C d_Dr_judgePart_80 12 2 wD_o12 rfl (v := .ref (ad 15)) rfl (by decide) tw180 ?_
        refine j_iload_n (pc := 83) C d_Dr_judgePart_83 rfl 2 rfl ?_
        obtain ⟨b11, hf⟩ := og hf
        refine j_iald (pc := 84) C d_Dr_judgePart_84 15 (inb_in b11) (x := x.2.2.1 15 x.2.1.toNatClampNeg) wD_a15 rfl ?_
        refine j_aload_n (pc := 85) C d_Dr_judgePart_85 rfl 0 rfl ?_
        refine j_get (pc := 86) C d_Dr_judgePart_86 0 1 wD_o0 rfl (v := .ref (ad 3)) rfl (by decide) tw271 ?_
        refine j_get (pc := 89) C d_Dr_judgePart_89 3 2 wD_o3 rfl (v := .ref (ad 6)) rfl (by decide) tw118 ?_
        refine j_iload_n (pc := 92) C d_Dr_judgePart_92 rfl 2 rfl ?_
        obtain ⟨b12, hf⟩ := og hf
        refine j_iald (pc := 93) C d_Dr_judgePart_93 6 (inb_in b12) (x := x.2.2.1 6 x.2.1.toNatClampNeg) wD_a6 rfl ?_
        obtain ⟨q13, eq13, hf⟩ := ob hf
        refine j_callVv (pc := 94) C (rest := []) d_Dr_judgePart_94 (c_Dr_addFault (g := g) (ad := ad) eq13) cv_Dr_addFault tw562 0 rfl rfl cut_same rfl rfl (Nat.le_of_ble_eq_true rfl) (kc2 := 0) (ks2 := 0) (by decide) ?_
        refine j_iinc (pc := 97) C d_Dr_judgePart_97 2 rfl (v := x.2.1 + 1) (iv ci_1) [1, 2, 0] (by decide) (lc' := [(0, .ref (ad 0)), (1, .int x.1), (2, .int (x.2.1 + 1))]) rfl ?_
        refine j_goto (pc := 100) C d_Dr_judgePart_100 (tgt := 50) rfl ?_
        exact k50_ih (x.1, x.2.1 + 1, q13) hf
  unfold f_Dr_judgePart at hf
  change 𝒥 0 0 (wD g ad d.1 d.2) [(0, .ref (ad 0)), (1, .int a1)] [] 0
  refine j_aload_n (pc := 0) C d_Dr_judgePart_0 rfl 0 rfl ?_
  refine j_get (pc := 1) C d_Dr_judgePart_1 0 7 wD_o0 rfl (v := .ref (ad 28)) rfl (by decide) tw284 ?_
  refine j_iload_n (pc := 4) C d_Dr_judgePart_4 rfl 1 rfl ?_
  obtain ⟨b1, hf⟩ := og hf
  refine j_iald (pc := 5) C d_Dr_judgePart_5 28 (inb_in b1) (x := d.1 28 a1.toNatClampNeg) wD_a28 rfl ?_
  refine j_iconst (pc := 6) C d_Dr_judgePart_6 ck_m1 ?_
  refine j_icmp_eq (pc := 7) C d_Dr_judgePart_7 (tgt := 22) rfl (fun h2 => ?_) (fun h2 => ?_)
  · rw [if_pos h2] at hf
    refine j_aload_n (pc := 22) C d_Dr_judgePart_22 rfl 0 rfl ?_
    refine j_get (pc := 23) C d_Dr_judgePart_23 0 3 wD_o0 rfl (v := .ref (ad 12)) rfl (by decide) tw277 ?_
    refine j_aload_n (pc := 26) C d_Dr_judgePart_26 rfl 0 rfl ?_
    refine j_get (pc := 27) C d_Dr_judgePart_27 0 6 wD_o0 rfl (v := .ref (ad 27)) rfl (by decide) tw283 ?_
    refine j_iload_n (pc := 30) C d_Dr_judgePart_30 rfl 1 rfl ?_
    obtain ⟨b3, hf⟩ := og hf
    refine j_iald (pc := 31) C d_Dr_judgePart_31 27 (inb_in b3) (x := d.1 27 a1.toNatClampNeg) wD_a27 rfl ?_
    refine j_aload_n (pc := 32) C d_Dr_judgePart_32 rfl 0 rfl ?_
    refine j_get (pc := 33) C d_Dr_judgePart_33 0 6 wD_o0 rfl (v := .ref (ad 27)) rfl (by decide) tw283 ?_
    refine j_iload_n (pc := 36) C d_Dr_judgePart_36 rfl 1 rfl ?_
    refine j_iconst (pc := 37) C d_Dr_judgePart_37 ck_1 ?_
    refine j_iadd (pc := 38) C d_Dr_judgePart_38 ?_
    obtain ⟨b4, hf⟩ := og hf
    refine j_iald (pc := 39) C d_Dr_judgePart_39 27 (inb_in b4) (x := d.1 27 (a1 + 1).toNatClampNeg) wD_a27 rfl ?_
    obtain ⟨q5, eq5, hf⟩ := ob hf
    refine j_callVv (pc := 40) C (rest := []) d_Dr_judgePart_40 (c_Na_bind (g := g) (ad := ad) eq5) cv_Na_bind tw566 12 rfl rfl cut_same rfl rfl (Nat.le_of_ble_eq_true rfl) (kc2 := 0) (ks2 := 0) (by decide) ?_
    refine j_aload_n (pc := 43) C d_Dr_judgePart_43 rfl 0 rfl ?_
    refine j_get (pc := 44) C d_Dr_judgePart_44 0 6 wD_o0 rfl (v := .ref (ad 27)) rfl (by decide) tw283 ?_
    refine j_iload_n (pc := 47) C d_Dr_judgePart_47 rfl 1 rfl ?_
    obtain ⟨b6, hf⟩ := og hf
    refine j_iald (pc := 48) C d_Dr_judgePart_48 27 (inb_in b6) (x := q5.1 27 a1.toNatClampNeg) wD_a27 rfl ?_
    refine j_istore_n (pc := 49) C d_Dr_judgePart_49 rfl [1, 2, 0] (by decide) (lc' := [(0, .ref (ad 0)), (1, .int a1), (2, .int (q5.1 27 a1.toNatClampNeg))]) rfl ?_
    exact L50 100000 (a1, q5.1 27 a1.toNatClampNeg, q5) hf
  · rw [if_neg h2] at hf
    refine j_aload_n (pc := 10) C d_Dr_judgePart_10 rfl 0 rfl ?_
    refine j_iconst (pc := 11) C d_Dr_judgePart_11 ck_1 ?_
    refine j_aload_n (pc := 12) C d_Dr_judgePart_12 rfl 0 rfl ?_
    refine j_get (pc := 13) C d_Dr_judgePart_13 0 7 wD_o0 rfl (v := .ref (ad 28)) rfl (by decide) tw284 ?_
    refine j_iload_n (pc := 16) C d_Dr_judgePart_16 rfl 1 rfl ?_
    obtain ⟨b14, hf⟩ := og hf
    refine j_iald (pc := 17) C d_Dr_judgePart_17 28 (inb_in b14) (x := d.1 28 a1.toNatClampNeg) wD_a28 rfl ?_
    obtain ⟨q15, eq15, hf⟩ := ob hf
    refine j_callVv (pc := 18) C (rest := []) d_Dr_judgePart_18 (c_Dr_addFault (g := g) (ad := ad) eq15) cv_Dr_addFault tw562 0 rfl rfl cut_same rfl rfl (Nat.le_of_ble_eq_true rfl) (kc2 := 0) (ks2 := 0) (by decide) ?_
    cases hf
    exact j_vret (pc := 21) C d_Dr_judgePart_21 ⟨rfl, rfl⟩ (Nat.le_of_ble_eq_true rfl) (Nat.le_of_ble_eq_true rfl)
abbrev rm_To_isFn : Room := { frames := 0, cells := 0, slots := 0, locals := 0 }
theorem cv_To_isFn : CV y_To_isFn b_To_isFn 2 (some .boolean) 1 := ⟨⟨tw484, tw5, by decide +kernel⟩, tw482, tw483⟩
set_option maxHeartbeats 4000000 in
set_option maxRecDepth 100000 in
theorem c_To_isFn {g : GT} {ad : Nat → Nat} {a1 : Int32} {d : DS} {q : Int32 × DS} (hf : f_To_isFn a1 d = some q) : MI g y_To_isFn b_To_isFn 2 (some .boolean) rm_To_isFn [.ref (ad 3), .int a1] (wD g ad d.1 d.2) q.1 (wD g ad q.2.1 q.2.2) := by
  refine MI.of (by decide) (Nat.le_of_ble_eq_true rfl) (fun 𝒥 C => ?_)
  unfold f_To_isFn at hf
  change 𝒥 0 0 (wD g ad d.1 d.2) [(0, .ref (ad 3)), (1, .int a1)] [] 0
  refine j_aload_n (pc := 0) C d_To_isFn_0 rfl 0 rfl ?_
  refine j_get (pc := 1) C d_To_isFn_1 3 0 wD_o3 rfl (v := .ref (ad 4)) rfl (by decide) tw108 ?_
  refine j_iload_n (pc := 4) C d_To_isFn_4 rfl 1 rfl ?_
  obtain ⟨b1, hf⟩ := og hf
  refine j_iald (pc := 5) C d_To_isFn_5 4 (inb_in b1) (x := d.1 4 a1.toNatClampNeg) wD_a4 rfl ?_
  refine j_iconst (pc := 6) C d_To_isFn_6 ck_1 ?_
  refine j_icmp_ne (pc := 7) C d_To_isFn_7 (tgt := 23) rfl (fun h2 => ?_) (fun h2 => ?_)
  · rw [if_neg h2] at hf
    refine j_iconst (pc := 23) C d_To_isFn_23 ck_0 ?_
    cases hf
    exact j_zret (pc := 24) C d_To_isFn_24 rfl ⟨rfl, rfl⟩ (Nat.le_of_ble_eq_true rfl) (Nat.le_of_ble_eq_true rfl)
  · rw [if_pos h2] at hf
    refine j_aload_n (pc := 10) C d_To_isFn_10 rfl 0 rfl ?_
    refine j_get (pc := 11) C d_To_isFn_11 3 1 wD_o3 rfl (v := .ref (ad 5)) rfl (by decide) tw111 ?_
    refine j_iload_n (pc := 14) C d_To_isFn_14 rfl 1 rfl ?_
    obtain ⟨b3, hf⟩ := og hf
    refine j_iald (pc := 15) C d_To_isFn_15 5 (inb_in b3) (x := d.1 5 a1.toNatClampNeg) wD_a5 rfl ?_
    refine j_if_ne (pc := 16) C d_To_isFn_16 (tgt := 23) rfl (fun h4 => ?_) (fun h4 => ?_)
    · rw [if_neg h4] at hf
      refine j_iconst (pc := 23) C d_To_isFn_23 ck_0 ?_
      cases hf
      exact j_zret (pc := 24) C d_To_isFn_24 rfl ⟨rfl, rfl⟩ (Nat.le_of_ble_eq_true rfl) (Nat.le_of_ble_eq_true rfl)
    · rw [if_pos h4] at hf
      refine j_iconst (pc := 19) C d_To_isFn_19 ck_1 ?_
      refine j_goto (pc := 20) C d_To_isFn_20 (tgt := 24) rfl ?_
      cases hf
      exact j_zret (pc := 24) C d_To_isFn_24 rfl ⟨rfl, rfl⟩ (Nat.le_of_ble_eq_true rfl) (Nat.le_of_ble_eq_true rfl)
abbrev rm_Dr_splitParts : Room := { frames := 1, cells := 0, slots := 0, locals := 21 }
theorem cv_Dr_splitParts : CV y_Dr_splitParts b_Dr_splitParts 2 none 0 := ⟨⟨tw480, tw3, by decide +kernel⟩, tw479, (sw_ (q := (y_Dr_splitParts, 12)) (by decide +kernel) (by decide +kernel))⟩
set_option maxHeartbeats 4000000 in
set_option maxRecDepth 100000 in
theorem c_Dr_splitParts {g : GT} {ad : Nat → Nat} {d : DS} {q : DS} (hf : f_Dr_splitParts d = some q) : MV g y_Dr_splitParts b_Dr_splitParts 2 none rm_Dr_splitParts [.ref (ad 0)] (wD g ad d.1 d.2) (wD g ad q.1 q.2) := by
  refine MV.of (by decide) (Nat.le_of_ble_eq_true rfl) (fun 𝒥 C => ?_)
  have L7 : ∀ (n : Nat) (x : Int32 × DS), lpN (BDr_splitParts_7) n x = some q → 𝒥 0 0 (wD g ad x.2.1 x.2.2) [(0, .ref (ad 0)), (1, .int x.1)] [] 7 := by
    refine lp_ind (fun k7 k7_ih x hf => ?_)
    unfold BDr_splitParts_7 at hf
    refine j_iload_n (pc := 7) C d_Dr_splitParts_7 rfl 1 rfl ?_
    refine j_aload_n (pc := 8) C d_Dr_splitParts_8 rfl 0 rfl ?_
    refine j_get (pc := 9) C d_Dr_splitParts_9 0 1 wD_o0 rfl (v := .ref (ad 3)) rfl (by decide) tw271 ?_
    refine j_get (pc := 12) C d_Dr_splitParts_12 3 4 wD_o3 rfl (v := .int (x.2.2 4)) rfl (by decide) tw125 ?_
    refine j_icmp_ge (pc := 15) C d_Dr_splitParts_15 (tgt := 67) rfl (fun h1 => ?_) (fun h1 => ?_)
    · rw [if_pos h1] at hf
      refine j_aload_n (pc := 67) C d_Dr_splitParts_67 rfl 0 rfl ?_
      refine j_get (pc := 68) C d_Dr_splitParts_68 0 6 wD_o0 rfl (v := .ref (ad 27)) rfl (by decide) tw283 ?_
      refine j_aload_n (pc := 71) C d_Dr_splitParts_71 rfl 0 rfl ?_
      refine j_get (pc := 72) C d_Dr_splitParts_72 0 8 wD_o0 rfl (v := .int (x.2.2 0)) rfl (by decide) tw285 ?_
      refine j_aload_n (pc := 75) C d_Dr_splitParts_75 rfl 0 rfl ?_
      refine j_get (pc := 76) C d_Dr_splitParts_76 0 1 wD_o0 rfl (v := .ref (ad 3)) rfl (by decide) tw271 ?_
      refine j_get (pc := 79) C d_Dr_splitParts_79 3 4 wD_o3 rfl (v := .int (x.2.2 4)) rfl (by decide) tw125 ?_
      obtain ⟨b2, hf⟩ := og hf
      refine j_iast (pc := 82) C d_Dr_splitParts_82 27 (inb_in b2) wD_a27 (ws' := wD g ad (va_up x.2.1 27 (upd (x.2.1 27) (x.2.2 0).toNatClampNeg (x.2.2 4))) x.2.2) wD_s27 ?_
      cases hf
      exact j_vret (pc := 83) C d_Dr_splitParts_83 ⟨rfl, rfl⟩ (Nat.le_of_ble_eq_true rfl) (Nat.le_of_ble_eq_true rfl)
    · rw [if_neg h1] at hf
      refine j_iload_n (pc := 18) C d_Dr_splitParts_18 rfl 1 rfl ?_
      refine j_if_eq (pc := 19) C d_Dr_splitParts_19 (tgt := 33) rfl (fun h3 => ?_) (fun h3 => ?_)
      · rw [if_pos h3] at hf
        refine j_aload_n (pc := 33) C d_Dr_splitParts_33 rfl 0 rfl ?_
        refine j_get (pc := 34) C d_Dr_splitParts_34 0 8 wD_o0 rfl (v := .int (x.2.2 0)) rfl (by decide) tw285 ?_
        refine j_iconst (pc := 37) C d_Dr_splitParts_37 ck_4 ?_
        refine j_icmp_ge (pc := 38) C d_Dr_splitParts_38 (tgt := 61) rfl (fun h4 => ?_) (fun h4 => ?_)
        · rw [if_pos h4] at hf
          refine j_iinc (pc := 61) C d_Dr_splitParts_61 1 rfl (v := x.1 + 1) (iv ci_1) [1, 0] (by decide) (lc' := [(0, .ref (ad 0)), (1, .int (x.1 + 1))]) rfl ?_
          refine j_goto (pc := 64) C d_Dr_splitParts_64 (tgt := 7) rfl ?_
          exact k7_ih (x.1 + 1, x.2) hf
        · rw [if_neg h4] at hf
          refine j_aload_n (pc := 41) C d_Dr_splitParts_41 rfl 0 rfl ?_
          refine j_get (pc := 42) C d_Dr_splitParts_42 0 6 wD_o0 rfl (v := .ref (ad 27)) rfl (by decide) tw283 ?_
          refine j_aload_n (pc := 45) C d_Dr_splitParts_45 rfl 0 rfl ?_
          refine j_get (pc := 46) C d_Dr_splitParts_46 0 8 wD_o0 rfl (v := .int (x.2.2 0)) rfl (by decide) tw285 ?_
          refine j_iload_n (pc := 49) C d_Dr_splitParts_49 rfl 1 rfl ?_
          obtain ⟨b5, hf⟩ := og hf
          refine j_iast (pc := 50) C d_Dr_splitParts_50 27 (inb_in b5) wD_a27 (ws' := wD g ad (va_up x.2.1 27 (upd (x.2.1 27) (x.2.2 0).toNatClampNeg x.1)) x.2.2) wD_s27 ?_
          refine j_aload_n (pc := 51) C d_Dr_splitParts_51 rfl 0 rfl ?_
          refine j_dup (pc := 52) C d_Dr_splitParts_52 rfl ?_
          refine j_get (pc := 53) C d_Dr_splitParts_53 0 8 wD_o0 rfl (v := .int (x.2.2 0)) rfl (by decide) tw285 ?_
          refine j_iconst (pc := 56) C d_Dr_splitParts_56 ck_1 ?_
          refine j_iadd (pc := 57) C d_Dr_splitParts_57 ?_
          refine j_put (pc := 58) C d_Dr_splitParts_58 0 8 wD_o0 rfl (by decide) tw285 pd_I rfl rfl rfl (Nat.le_of_ble_eq_true rfl) (ws' := wD g ad (va_up x.2.1 27 (upd (x.2.1 27) (x.2.2 0).toNatClampNeg x.1)) (va_up x.2.2 0 ((x.2.2 0) + 1))) wD_p0_8 ?_
          refine j_iinc (pc := 61) C d_Dr_splitParts_61 1 rfl (v := x.1 + 1) (iv ci_1) [1, 0] (by decide) (lc' := [(0, .ref (ad 0)), (1, .int (x.1 + 1))]) rfl ?_
          refine j_goto (pc := 64) C d_Dr_splitParts_64 (tgt := 7) rfl ?_
          exact k7_ih (x.1 + 1, ((va_up x.2.1 27 (upd (x.2.1 27) (x.2.2 0).toNatClampNeg x.1)), (va_up x.2.2 0 ((x.2.2 0) + 1)))) hf
      · rw [if_neg h3] at hf
        refine j_aload_n (pc := 22) C d_Dr_splitParts_22 rfl 0 rfl ?_
        refine j_get (pc := 23) C d_Dr_splitParts_23 0 1 wD_o0 rfl (v := .ref (ad 3)) rfl (by decide) tw271 ?_
        refine j_iload_n (pc := 26) C d_Dr_splitParts_26 rfl 1 rfl ?_
        obtain ⟨q6, eq6, hf⟩ := ob hf
        refine j_callVi (pc := 27) C (rest := []) d_Dr_splitParts_27 (c_To_isFn (g := g) (ad := ad) eq6) cv_To_isFn tw481 3 rfl rfl cut_same rfl rfl (Nat.le_of_ble_eq_true rfl) (kc2 := 0) (ks2 := 0) (by decide) ?_
        refine j_if_eq (pc := 30) C d_Dr_splitParts_30 (tgt := 61) rfl (fun h7 => ?_) (fun h7 => ?_)
        · rw [if_pos h7] at hf
          refine j_iinc (pc := 61) C d_Dr_splitParts_61 1 rfl (v := x.1 + 1) (iv ci_1) [1, 0] (by decide) (lc' := [(0, .ref (ad 0)), (1, .int (x.1 + 1))]) rfl ?_
          refine j_goto (pc := 64) C d_Dr_splitParts_64 (tgt := 7) rfl ?_
          exact k7_ih (x.1 + 1, q6.2) hf
        · rw [if_neg h7] at hf
          refine j_aload_n (pc := 33) C d_Dr_splitParts_33 rfl 0 rfl ?_
          refine j_get (pc := 34) C d_Dr_splitParts_34 0 8 wD_o0 rfl (v := .int (q6.2.2 0)) rfl (by decide) tw285 ?_
          refine j_iconst (pc := 37) C d_Dr_splitParts_37 ck_4 ?_
          refine j_icmp_ge (pc := 38) C d_Dr_splitParts_38 (tgt := 61) rfl (fun h8 => ?_) (fun h8 => ?_)
          · rw [if_pos h8] at hf
            refine j_iinc (pc := 61) C d_Dr_splitParts_61 1 rfl (v := x.1 + 1) (iv ci_1) [1, 0] (by decide) (lc' := [(0, .ref (ad 0)), (1, .int (x.1 + 1))]) rfl ?_
            refine j_goto (pc := 64) C d_Dr_splitParts_64 (tgt := 7) rfl ?_
            exact k7_ih (x.1 + 1, q6.2) hf
          · rw [if_neg h8] at hf
            refine j_aload_n (pc := 41) C d_Dr_splitParts_41 rfl 0 rfl ?_
            refine j_get (pc := 42) C d_Dr_splitParts_42 0 6 wD_o0 rfl (v := .ref (ad 27)) rfl (by decide) tw283 ?_
            refine j_aload_n (pc := 45) C d_Dr_splitParts_45 rfl 0 rfl ?_
            refine j_get (pc := 46) C d_Dr_splitParts_46 0 8 wD_o0 rfl (v := .int (q6.2.2 0)) rfl (by decide) tw285 ?_
            refine j_iload_n (pc := 49) C d_Dr_splitParts_49 rfl 1 rfl ?_
            obtain ⟨b9, hf⟩ := og hf
            refine j_iast (pc := 50) C d_Dr_splitParts_50 27 (inb_in b9) wD_a27 (ws' := wD g ad (va_up q6.2.1 27 (upd (q6.2.1 27) (q6.2.2 0).toNatClampNeg x.1)) q6.2.2) wD_s27 ?_
            refine j_aload_n (pc := 51) C d_Dr_splitParts_51 rfl 0 rfl ?_
            refine j_dup (pc := 52) C d_Dr_splitParts_52 rfl ?_
            refine j_get (pc := 53) C d_Dr_splitParts_53 0 8 wD_o0 rfl (v := .int (q6.2.2 0)) rfl (by decide) tw285 ?_
            refine j_iconst (pc := 56) C d_Dr_splitParts_56 ck_1 ?_
            refine j_iadd (pc := 57) C d_Dr_splitParts_57 ?_
            refine j_put (pc := 58) C d_Dr_splitParts_58 0 8 wD_o0 rfl (by decide) tw285 pd_I rfl rfl rfl (Nat.le_of_ble_eq_true rfl) (ws' := wD g ad (va_up q6.2.1 27 (upd (q6.2.1 27) (q6.2.2 0).toNatClampNeg x.1)) (va_up q6.2.2 0 ((q6.2.2 0) + 1))) wD_p0_8 ?_
            refine j_iinc (pc := 61) C d_Dr_splitParts_61 1 rfl (v := x.1 + 1) (iv ci_1) [1, 0] (by decide) (lc' := [(0, .ref (ad 0)), (1, .int (x.1 + 1))]) rfl ?_
            refine j_goto (pc := 64) C d_Dr_splitParts_64 (tgt := 7) rfl ?_
            exact k7_ih (x.1 + 1, ((va_up q6.2.1 27 (upd (q6.2.1 27) (q6.2.2 0).toNatClampNeg x.1)), (va_up q6.2.2 0 ((q6.2.2 0) + 1)))) hf
  unfold f_Dr_splitParts at hf
  change 𝒥 0 0 (wD g ad d.1 d.2) [(0, .ref (ad 0))] [] 0
  refine j_aload_n (pc := 0) C d_Dr_splitParts_0 rfl 0 rfl ?_
  refine j_iconst (pc := 1) C d_Dr_splitParts_1 ck_0 ?_
  refine j_put (pc := 2) C d_Dr_splitParts_2 0 8 wD_o0 rfl (by decide) tw285 pd_I rfl rfl rfl (Nat.le_of_ble_eq_true rfl) (ws' := wD g ad d.1 (va_up d.2 0 0)) wD_p0_8 ?_
  refine j_iconst (pc := 5) C d_Dr_splitParts_5 ck_0 ?_
  refine j_istore_n (pc := 6) C d_Dr_splitParts_6 rfl [1, 0] (by decide) (lc' := [(0, .ref (ad 0)), (1, .int 0)]) rfl ?_
  exact L7 100000 (0, (d.1, (va_up d.2 0 0))) hf
abbrev rm_Cd_add : Room := { frames := 0, cells := 0, slots := 0, locals := 0 }
theorem cv_Cd_add : CV y_Cd_add b_Cd_add 3 none 2 := ⟨⟨tw509, tw8, by decide +kernel⟩, tw507, tw508⟩
set_option maxHeartbeats 4000000 in
set_option maxRecDepth 100000 in
theorem c_Cd_add {g : GT} {ad : Nat → Nat} {a1 : Int32} {a2 : Int32} {d : DS} {q : DS} (hf : f_Cd_add a1 a2 d = some q) : MV g y_Cd_add b_Cd_add 3 none rm_Cd_add [.ref (ad 20), .int a1, .int a2] (wD g ad d.1 d.2) (wD g ad q.1 q.2) := by
  refine MV.of (by decide) (Nat.le_of_ble_eq_true rfl) (fun 𝒥 C => ?_)
  unfold f_Cd_add at hf
  change 𝒥 0 0 (wD g ad d.1 d.2) [(0, .ref (ad 20)), (1, .int a1), (2, .int a2)] [] 0
  refine j_aload_n (pc := 0) C d_Cd_add_0 rfl 0 rfl ?_
  refine j_get (pc := 1) C d_Cd_add_1 20 2 wD_o20 rfl (v := .int (d.2 6)) rfl (by decide) tw220 ?_
  refine j_sipush (pc := 4) C d_Cd_add_4 cs_240 ?_
  refine j_icmp_ge (pc := 7) C d_Cd_add_7 (tgt := 40) rfl (fun h1 => ?_) (fun h1 => ?_)
  · rw [if_pos h1] at hf
    cases hf
    exact j_vret (pc := 40) C d_Cd_add_40 ⟨rfl, rfl⟩ (Nat.le_of_ble_eq_true rfl) (Nat.le_of_ble_eq_true rfl)
  · rw [if_neg h1] at hf
    refine j_aload_n (pc := 10) C d_Cd_add_10 rfl 0 rfl ?_
    refine j_get (pc := 11) C d_Cd_add_11 20 0 wD_o20 rfl (v := .ref (ad 21)) rfl (by decide) tw216 ?_
    refine j_aload_n (pc := 14) C d_Cd_add_14 rfl 0 rfl ?_
    refine j_get (pc := 15) C d_Cd_add_15 20 2 wD_o20 rfl (v := .int (d.2 6)) rfl (by decide) tw220 ?_
    refine j_iload_n (pc := 18) C d_Cd_add_18 rfl 1 rfl ?_
    obtain ⟨b2, hf⟩ := og hf
    refine j_iast (pc := 19) C d_Cd_add_19 21 (inb_in b2) wD_a21 (ws' := wD g ad (va_up d.1 21 (upd (d.1 21) (d.2 6).toNatClampNeg a1)) d.2) wD_s21 ?_
    refine j_aload_n (pc := 20) C d_Cd_add_20 rfl 0 rfl ?_
    refine j_get (pc := 21) C d_Cd_add_21 20 1 wD_o20 rfl (v := .ref (ad 22)) rfl (by decide) tw218 ?_
    refine j_aload_n (pc := 24) C d_Cd_add_24 rfl 0 rfl ?_
    refine j_get (pc := 25) C d_Cd_add_25 20 2 wD_o20 rfl (v := .int (d.2 6)) rfl (by decide) tw220 ?_
    refine j_iload_n (pc := 28) C d_Cd_add_28 rfl 2 rfl ?_
    obtain ⟨b3, hf⟩ := og hf
    refine j_iast (pc := 29) C d_Cd_add_29 22 (inb_in b3) wD_a22 (ws' := wD g ad (va_up (va_up d.1 21 (upd (d.1 21) (d.2 6).toNatClampNeg a1)) 22 (upd (d.1 22) (d.2 6).toNatClampNeg a2)) d.2) wD_s22 ?_
    refine j_aload_n (pc := 30) C d_Cd_add_30 rfl 0 rfl ?_
    refine j_dup (pc := 31) C d_Cd_add_31 rfl ?_
    refine j_get (pc := 32) C d_Cd_add_32 20 2 wD_o20 rfl (v := .int (d.2 6)) rfl (by decide) tw220 ?_
    refine j_iconst (pc := 35) C d_Cd_add_35 ck_1 ?_
    refine j_iadd (pc := 36) C d_Cd_add_36 ?_
    refine j_put (pc := 37) C d_Cd_add_37 20 2 wD_o20 rfl (by decide) tw220 pd_I rfl rfl rfl (Nat.le_of_ble_eq_true rfl) (ws' := wD g ad (va_up (va_up d.1 21 (upd (d.1 21) (d.2 6).toNatClampNeg a1)) 22 (upd (d.1 22) (d.2 6).toNatClampNeg a2)) (va_up d.2 6 ((d.2 6) + 1))) wD_p20_2 ?_
    cases hf
    exact j_vret (pc := 40) C d_Cd_add_40 ⟨rfl, rfl⟩ (Nat.le_of_ble_eq_true rfl) (Nat.le_of_ble_eq_true rfl)
abbrev rm_Fn_add : Room := { frames := 0, cells := 0, slots := 0, locals := 0 }
theorem cv_Fn_add : CV y_Fn_add b_Fn_add 4 none 3 := ⟨⟨tw553, tw6, by decide +kernel⟩, tw551, tw552⟩
set_option maxHeartbeats 4000000 in
set_option maxRecDepth 100000 in
theorem c_Fn_add {g : GT} {ad : Nat → Nat} {a1 : Int32} {a2 : Int32} {a3 : Int32} {d : DS} {q : DS} (hf : f_Fn_add a1 a2 a3 d = some q) : MV g y_Fn_add b_Fn_add 4 none rm_Fn_add [.ref (ad 8), .int a1, .int a2, .int a3] (wD g ad d.1 d.2) (wD g ad q.1 q.2) := by
  refine MV.of (by decide) (Nat.le_of_ble_eq_true rfl) (fun 𝒥 C => ?_)
  unfold f_Fn_add at hf
  change 𝒥 0 0 (wD g ad d.1 d.2) [(0, .ref (ad 8)), (1, .int a1), (2, .int a2), (3, .int a3)] [] 0
  refine j_aload_n (pc := 0) C d_Fn_add_0 rfl 0 rfl ?_
  refine j_get (pc := 1) C d_Fn_add_1 8 3 wD_o8 rfl (v := .int (d.2 5)) rfl (by decide) tw152 ?_
  refine j_iconst (pc := 4) C d_Fn_add_4 ck_4 ?_
  refine j_icmp_ge (pc := 5) C d_Fn_add_5 (tgt := 48) rfl (fun h1 => ?_) (fun h1 => ?_)
  · rw [if_pos h1] at hf
    cases hf
    exact j_vret (pc := 48) C d_Fn_add_48 ⟨rfl, rfl⟩ (Nat.le_of_ble_eq_true rfl) (Nat.le_of_ble_eq_true rfl)
  · rw [if_neg h1] at hf
    refine j_aload_n (pc := 8) C d_Fn_add_8 rfl 0 rfl ?_
    refine j_get (pc := 9) C d_Fn_add_9 8 0 wD_o8 rfl (v := .ref (ad 9)) rfl (by decide) tw144 ?_
    refine j_aload_n (pc := 12) C d_Fn_add_12 rfl 0 rfl ?_
    refine j_get (pc := 13) C d_Fn_add_13 8 3 wD_o8 rfl (v := .int (d.2 5)) rfl (by decide) tw152 ?_
    refine j_iload_n (pc := 16) C d_Fn_add_16 rfl 1 rfl ?_
    obtain ⟨b2, hf⟩ := og hf
    refine j_iast (pc := 17) C d_Fn_add_17 9 (inb_in b2) wD_a9 (ws' := wD g ad (va_up d.1 9 (upd (d.1 9) (d.2 5).toNatClampNeg a1)) d.2) wD_s9 ?_
    refine j_aload_n (pc := 18) C d_Fn_add_18 rfl 0 rfl ?_
    refine j_get (pc := 19) C d_Fn_add_19 8 1 wD_o8 rfl (v := .ref (ad 10)) rfl (by decide) tw147 ?_
    refine j_aload_n (pc := 22) C d_Fn_add_22 rfl 0 rfl ?_
    refine j_get (pc := 23) C d_Fn_add_23 8 3 wD_o8 rfl (v := .int (d.2 5)) rfl (by decide) tw152 ?_
    refine j_iload_n (pc := 26) C d_Fn_add_26 rfl 2 rfl ?_
    obtain ⟨b3, hf⟩ := og hf
    refine j_iast (pc := 27) C d_Fn_add_27 10 (inb_in b3) wD_a10 (ws' := wD g ad (va_up (va_up d.1 9 (upd (d.1 9) (d.2 5).toNatClampNeg a1)) 10 (upd (d.1 10) (d.2 5).toNatClampNeg a2)) d.2) wD_s10 ?_
    refine j_aload_n (pc := 28) C d_Fn_add_28 rfl 0 rfl ?_
    refine j_get (pc := 29) C d_Fn_add_29 8 2 wD_o8 rfl (v := .ref (ad 11)) rfl (by decide) tw150 ?_
    refine j_aload_n (pc := 32) C d_Fn_add_32 rfl 0 rfl ?_
    refine j_get (pc := 33) C d_Fn_add_33 8 3 wD_o8 rfl (v := .int (d.2 5)) rfl (by decide) tw152 ?_
    refine j_iload_n (pc := 36) C d_Fn_add_36 rfl 3 rfl ?_
    obtain ⟨b4, hf⟩ := og hf
    refine j_iast (pc := 37) C d_Fn_add_37 11 (inb_in b4) wD_a11 (ws' := wD g ad (va_up (va_up (va_up d.1 9 (upd (d.1 9) (d.2 5).toNatClampNeg a1)) 10 (upd (d.1 10) (d.2 5).toNatClampNeg a2)) 11 (upd (d.1 11) (d.2 5).toNatClampNeg a3)) d.2) wD_s11 ?_
    refine j_aload_n (pc := 38) C d_Fn_add_38 rfl 0 rfl ?_
    refine j_dup (pc := 39) C d_Fn_add_39 rfl ?_
    refine j_get (pc := 40) C d_Fn_add_40 8 3 wD_o8 rfl (v := .int (d.2 5)) rfl (by decide) tw152 ?_
    refine j_iconst (pc := 43) C d_Fn_add_43 ck_1 ?_
    refine j_iadd (pc := 44) C d_Fn_add_44 ?_
    refine j_put (pc := 45) C d_Fn_add_45 8 3 wD_o8 rfl (by decide) tw152 pd_I rfl rfl rfl (Nat.le_of_ble_eq_true rfl) (ws' := wD g ad (va_up (va_up (va_up d.1 9 (upd (d.1 9) (d.2 5).toNatClampNeg a1)) 10 (upd (d.1 10) (d.2 5).toNatClampNeg a2)) 11 (upd (d.1 11) (d.2 5).toNatClampNeg a3)) (va_up d.2 5 ((d.2 5) + 1))) wD_p8_3 ?_
    cases hf
    exact j_vret (pc := 48) C d_Fn_add_48 ⟨rfl, rfl⟩ (Nat.le_of_ble_eq_true rfl) (Nat.le_of_ble_eq_true rfl)
abbrev rm_Gr_takeSign : Room := { frames := 0, cells := 0, slots := 0, locals := 0 }
theorem cv_Gr_takeSign : CV y_Gr_takeSign b_Gr_takeSign 2 (some .boolean) 1 := ⟨⟨tw501, tw9, by decide +kernel⟩, tw500, (sw_ (q := (y_Gr_takeSign, 10)) (by decide +kernel) (by decide +kernel))⟩
set_option maxHeartbeats 4000000 in
set_option maxRecDepth 100000 in
theorem c_Gr_takeSign {g : GT} {ad : Nat → Nat} {a1 : Int32} {d : DS} {q : Int32 × DS} (hf : f_Gr_takeSign a1 d = some q) : MI g y_Gr_takeSign b_Gr_takeSign 2 (some .boolean) rm_Gr_takeSign [.ref (ad 23), .int a1] (wD g ad d.1 d.2) q.1 (wD g ad q.2.1 q.2.2) := by
  refine MI.of (by decide) (Nat.le_of_ble_eq_true rfl) (fun 𝒥 C => ?_)
  unfold f_Gr_takeSign at hf
  change 𝒥 0 0 (wD g ad d.1 d.2) [(0, .ref (ad 23)), (1, .int a1)] [] 0
  refine j_aload_n (pc := 0) C d_Gr_takeSign_0 rfl 0 rfl ?_
  refine j_get (pc := 1) C d_Gr_takeSign_1 23 0 wD_o23 rfl (v := .int (d.2 7)) rfl (by decide) tw237 ?_
  refine j_aload_n (pc := 4) C d_Gr_takeSign_4 rfl 0 rfl ?_
  refine j_get (pc := 5) C d_Gr_takeSign_5 23 1 wD_o23 rfl (v := .int (d.2 8)) rfl (by decide) tw239 ?_
  refine j_icmp_ge (pc := 8) C d_Gr_takeSign_8 (tgt := 43) rfl (fun h1 => ?_) (fun h1 => ?_)
  · rw [if_pos h1] at hf
    refine j_iconst (pc := 43) C d_Gr_takeSign_43 ck_0 ?_
    cases hf
    exact j_zret (pc := 44) C d_Gr_takeSign_44 rfl ⟨rfl, rfl⟩ (Nat.le_of_ble_eq_true rfl) (Nat.le_of_ble_eq_true rfl)
  · rw [if_neg h1] at hf
    refine j_aload_n (pc := 11) C d_Gr_takeSign_11 rfl 0 rfl ?_
    refine j_get (pc := 12) C d_Gr_takeSign_12 23 6 wD_o23 rfl (v := .ref (ad 3)) rfl (by decide) tw244 ?_
    refine j_get (pc := 15) C d_Gr_takeSign_15 3 0 wD_o3 rfl (v := .ref (ad 4)) rfl (by decide) tw109 ?_
    refine j_aload_n (pc := 18) C d_Gr_takeSign_18 rfl 0 rfl ?_
    refine j_get (pc := 19) C d_Gr_takeSign_19 23 0 wD_o23 rfl (v := .int (d.2 7)) rfl (by decide) tw237 ?_
    obtain ⟨b2, hf⟩ := og hf
    refine j_iald (pc := 22) C d_Gr_takeSign_22 4 (inb_in b2) (x := d.1 4 (d.2 7).toNatClampNeg) wD_a4 rfl ?_
    refine j_iconst (pc := 23) C d_Gr_takeSign_23 ck_4 ?_
    refine j_icmp_ne (pc := 24) C d_Gr_takeSign_24 (tgt := 43) rfl (fun h3 => ?_) (fun h3 => ?_)
    · rw [if_neg h3] at hf
      refine j_iconst (pc := 43) C d_Gr_takeSign_43 ck_0 ?_
      cases hf
      exact j_zret (pc := 44) C d_Gr_takeSign_44 rfl ⟨rfl, rfl⟩ (Nat.le_of_ble_eq_true rfl) (Nat.le_of_ble_eq_true rfl)
    · rw [if_pos h3] at hf
      refine j_aload_n (pc := 27) C d_Gr_takeSign_27 rfl 0 rfl ?_
      refine j_get (pc := 28) C d_Gr_takeSign_28 23 6 wD_o23 rfl (v := .ref (ad 3)) rfl (by decide) tw244 ?_
      refine j_get (pc := 31) C d_Gr_takeSign_31 3 1 wD_o3 rfl (v := .ref (ad 5)) rfl (by decide) tw115 ?_
      refine j_aload_n (pc := 34) C d_Gr_takeSign_34 rfl 0 rfl ?_
      refine j_get (pc := 35) C d_Gr_takeSign_35 23 0 wD_o23 rfl (v := .int (d.2 7)) rfl (by decide) tw237 ?_
      obtain ⟨b4, hf⟩ := og hf
      refine j_iald (pc := 38) C d_Gr_takeSign_38 5 (inb_in b4) (x := d.1 5 (d.2 7).toNatClampNeg) wD_a5 rfl ?_
      refine j_iload_n (pc := 39) C d_Gr_takeSign_39 rfl 1 rfl ?_
      refine j_icmp_eq (pc := 40) C d_Gr_takeSign_40 (tgt := 45) rfl (fun h5 => ?_) (fun h5 => ?_)
      · rw [if_pos h5] at hf
        refine j_aload_n (pc := 45) C d_Gr_takeSign_45 rfl 0 rfl ?_
        refine j_dup (pc := 46) C d_Gr_takeSign_46 rfl ?_
        refine j_get (pc := 47) C d_Gr_takeSign_47 23 0 wD_o23 rfl (v := .int (d.2 7)) rfl (by decide) tw237 ?_
        refine j_iconst (pc := 50) C d_Gr_takeSign_50 ck_1 ?_
        refine j_iadd (pc := 51) C d_Gr_takeSign_51 ?_
        refine j_put (pc := 52) C d_Gr_takeSign_52 23 0 wD_o23 rfl (by decide) tw237 pd_I rfl rfl rfl (Nat.le_of_ble_eq_true rfl) (ws' := wD g ad d.1 (va_up d.2 7 ((d.2 7) + 1))) wD_p23_0 ?_
        refine j_iconst (pc := 55) C d_Gr_takeSign_55 ck_1 ?_
        cases hf
        exact j_zret (pc := 56) C d_Gr_takeSign_56 rfl ⟨rfl, rfl⟩ (Nat.le_of_ble_eq_true rfl) (Nat.le_of_ble_eq_true rfl)
      · rw [if_neg h5] at hf
        refine j_iconst (pc := 43) C d_Gr_takeSign_43 ck_0 ?_
        cases hf
        exact j_zret (pc := 44) C d_Gr_takeSign_44 rfl ⟨rfl, rfl⟩ (Nat.le_of_ble_eq_true rfl) (Nat.le_of_ble_eq_true rfl)
abbrev rm_Gr_openBlock : Room := { frames := 1, cells := 0, slots := 0, locals := 22 }
theorem cv_Gr_openBlock : CV y_Gr_openBlock b_Gr_openBlock 3 (some .boolean) 2 := ⟨⟨tw505, tw9, by decide +kernel⟩, tw504, (sw_ (q := (y_Gr_openBlock, 10)) (by decide +kernel) (by decide +kernel))⟩
set_option maxHeartbeats 4000000 in
set_option maxRecDepth 100000 in
theorem c_Gr_openBlock {g : GT} {ad : Nat → Nat} {a1 : Int32} {a2 : Int32} {d : DS} {q : Int32 × DS} (hf : f_Gr_openBlock a1 a2 d = some q) : MI g y_Gr_openBlock b_Gr_openBlock 3 (some .boolean) rm_Gr_openBlock [.ref (ad 23), .int a1, .int a2] (wD g ad d.1 d.2) q.1 (wD g ad q.2.1 q.2.2) := by
  refine MI.of (by decide) (Nat.le_of_ble_eq_true rfl) (fun 𝒥 C => ?_)
  unfold f_Gr_openBlock at hf
  change 𝒥 0 0 (wD g ad d.1 d.2) [(0, .ref (ad 23)), (1, .int a1), (2, .int a2)] [] 0
  refine j_aload_n (pc := 0) C d_Gr_openBlock_0 rfl 0 rfl ?_
  refine j_get (pc := 1) C d_Gr_openBlock_1 23 2 wD_o23 rfl (v := .int (d.2 9)) rfl (by decide) tw240 ?_
  refine j_iconst (pc := 4) C d_Gr_openBlock_4 ck_4 ?_
  refine j_icmp_ge (pc := 5) C d_Gr_openBlock_5 (tgt := 17) rfl (fun h1 => ?_) (fun h1 => ?_)
  · rw [if_pos h1] at hf
    refine j_iconst (pc := 17) C d_Gr_openBlock_17 ck_0 ?_
    cases hf
    exact j_zret (pc := 18) C d_Gr_openBlock_18 rfl ⟨rfl, rfl⟩ (Nat.le_of_ble_eq_true rfl) (Nat.le_of_ble_eq_true rfl)
  · rw [if_neg h1] at hf
    refine j_aload_n (pc := 8) C d_Gr_openBlock_8 rfl 0 rfl ?_
    refine j_bipush (pc := 9) C d_Gr_openBlock_9 cb_123 ?_
    obtain ⟨q2, eq2, hf⟩ := ob hf
    refine j_callVi (pc := 11) C (rest := []) d_Gr_openBlock_11 (c_Gr_takeSign (g := g) (ad := ad) eq2) cv_Gr_takeSign tw498 23 rfl rfl cut_same rfl rfl (Nat.le_of_ble_eq_true rfl) (kc2 := 0) (ks2 := 0) (by decide) ?_
    refine j_if_ne (pc := 14) C d_Gr_openBlock_14 (tgt := 19) rfl (fun h3 => ?_) (fun h3 => ?_)
    · rw [if_neg h3] at hf
      refine j_aload_n (pc := 19) C d_Gr_openBlock_19 rfl 0 rfl ?_
      refine j_get (pc := 20) C d_Gr_openBlock_20 23 3 wD_o23 rfl (v := .ref (ad 24)) rfl (by decide) tw241 ?_
      refine j_aload_n (pc := 23) C d_Gr_openBlock_23 rfl 0 rfl ?_
      refine j_get (pc := 24) C d_Gr_openBlock_24 23 2 wD_o23 rfl (v := .int (q2.2.2 9)) rfl (by decide) tw240 ?_
      refine j_aload_n (pc := 27) C d_Gr_openBlock_27 rfl 0 rfl ?_
      refine j_get (pc := 28) C d_Gr_openBlock_28 23 0 wD_o23 rfl (v := .int (q2.2.2 7)) rfl (by decide) tw237 ?_
      refine j_iconst (pc := 31) C d_Gr_openBlock_31 ck_1 ?_
      refine j_isub (pc := 32) C d_Gr_openBlock_32 ?_
      obtain ⟨b4, hf⟩ := og hf
      refine j_iast (pc := 33) C d_Gr_openBlock_33 24 (inb_in b4) wD_a24 (ws' := wD g ad (va_up q2.2.1 24 (upd (q2.2.1 24) (q2.2.2 9).toNatClampNeg ((q2.2.2 7) - 1))) q2.2.2) wD_s24 ?_
      refine j_aload_n (pc := 34) C d_Gr_openBlock_34 rfl 0 rfl ?_
      refine j_get (pc := 35) C d_Gr_openBlock_35 23 5 wD_o23 rfl (v := .ref (ad 26)) rfl (by decide) tw243 ?_
      refine j_aload_n (pc := 38) C d_Gr_openBlock_38 rfl 0 rfl ?_
      refine j_get (pc := 39) C d_Gr_openBlock_39 23 2 wD_o23 rfl (v := .int (q2.2.2 9)) rfl (by decide) tw240 ?_
      refine j_iload_n (pc := 42) C d_Gr_openBlock_42 rfl 2 rfl ?_
      obtain ⟨b5, hf⟩ := og hf
      refine j_iast (pc := 43) C d_Gr_openBlock_43 26 (inb_in b5) wD_a26 (ws' := wD g ad (va_up (va_up q2.2.1 24 (upd (q2.2.1 24) (q2.2.2 9).toNatClampNeg ((q2.2.2 7) - 1))) 26 (upd (q2.2.1 26) (q2.2.2 9).toNatClampNeg a2)) q2.2.2) wD_s26 ?_
      refine j_aload_n (pc := 44) C d_Gr_openBlock_44 rfl 0 rfl ?_
      refine j_get (pc := 45) C d_Gr_openBlock_45 23 4 wD_o23 rfl (v := .ref (ad 25)) rfl (by decide) tw242 ?_
      refine j_aload_n (pc := 48) C d_Gr_openBlock_48 rfl 0 rfl ?_
      refine j_get (pc := 49) C d_Gr_openBlock_49 23 2 wD_o23 rfl (v := .int (q2.2.2 9)) rfl (by decide) tw240 ?_
      refine j_iconst (pc := 52) C d_Gr_openBlock_52 ck_m1 ?_
      obtain ⟨b6, hf⟩ := og hf
      refine j_iast (pc := 53) C d_Gr_openBlock_53 25 (inb_in b6) wD_a25 (ws' := wD g ad (va_up (va_up (va_up q2.2.1 24 (upd (q2.2.1 24) (q2.2.2 9).toNatClampNeg ((q2.2.2 7) - 1))) 26 (upd (q2.2.1 26) (q2.2.2 9).toNatClampNeg a2)) 25 (upd (q2.2.1 25) (q2.2.2 9).toNatClampNeg (-1))) q2.2.2) wD_s25 ?_
      refine j_iload_n (pc := 54) C d_Gr_openBlock_54 rfl 1 rfl ?_
      refine j_if_eq (pc := 55) C d_Gr_openBlock_55 (tgt := 83) rfl (fun h7 => ?_) (fun h7 => ?_)
      · rw [if_pos h7] at hf
        refine j_iload_n (pc := 83) C d_Gr_openBlock_83 rfl 2 rfl ?_
        refine j_iconst (pc := 84) C d_Gr_openBlock_84 ck_m1 ?_
        refine j_icmp_eq (pc := 85) C d_Gr_openBlock_85 (tgt := 97) rfl (fun h8 => ?_) (fun h8 => ?_)
        · rw [if_pos h8] at hf
          refine j_aload_n (pc := 97) C d_Gr_openBlock_97 rfl 0 rfl ?_
          refine j_dup (pc := 98) C d_Gr_openBlock_98 rfl ?_
          refine j_get (pc := 99) C d_Gr_openBlock_99 23 2 wD_o23 rfl (v := .int (q2.2.2 9)) rfl (by decide) tw240 ?_
          refine j_iconst (pc := 102) C d_Gr_openBlock_102 ck_1 ?_
          refine j_iadd (pc := 103) C d_Gr_openBlock_103 ?_
          refine j_put (pc := 104) C d_Gr_openBlock_104 23 2 wD_o23 rfl (by decide) tw240 pd_I rfl rfl rfl (Nat.le_of_ble_eq_true rfl) (ws' := wD g ad (va_up (va_up (va_up q2.2.1 24 (upd (q2.2.1 24) (q2.2.2 9).toNatClampNeg ((q2.2.2 7) - 1))) 26 (upd (q2.2.1 26) (q2.2.2 9).toNatClampNeg a2)) 25 (upd (q2.2.1 25) (q2.2.2 9).toNatClampNeg (-1))) (va_up q2.2.2 9 ((q2.2.2 9) + 1))) wD_p23_2 ?_
          refine j_iconst (pc := 107) C d_Gr_openBlock_107 ck_1 ?_
          cases hf
          exact j_zret (pc := 108) C d_Gr_openBlock_108 rfl ⟨rfl, rfl⟩ (Nat.le_of_ble_eq_true rfl) (Nat.le_of_ble_eq_true rfl)
        · rw [if_neg h8] at hf
          refine j_aload_n (pc := 88) C d_Gr_openBlock_88 rfl 0 rfl ?_
          refine j_get (pc := 89) C d_Gr_openBlock_89 23 9 wD_o23 rfl (v := .ref (ad 20)) rfl (by decide) tw247 ?_
          refine j_iconst (pc := 92) C d_Gr_openBlock_92 ck_5 ?_
          refine j_iconst (pc := 93) C d_Gr_openBlock_93 ck_0 ?_
          obtain ⟨q9, eq9, hf⟩ := ob hf
          refine j_callVv (pc := 94) C (rest := []) d_Gr_openBlock_94 (c_Cd_add (g := g) (ad := ad) eq9) cv_Cd_add tw506 20 rfl rfl cut_same rfl rfl (Nat.le_of_ble_eq_true rfl) (kc2 := 0) (ks2 := 0) (by decide) ?_
          refine j_aload_n (pc := 97) C d_Gr_openBlock_97 rfl 0 rfl ?_
          refine j_dup (pc := 98) C d_Gr_openBlock_98 rfl ?_
          refine j_get (pc := 99) C d_Gr_openBlock_99 23 2 wD_o23 rfl (v := .int (q9.2 9)) rfl (by decide) tw240 ?_
          refine j_iconst (pc := 102) C d_Gr_openBlock_102 ck_1 ?_
          refine j_iadd (pc := 103) C d_Gr_openBlock_103 ?_
          refine j_put (pc := 104) C d_Gr_openBlock_104 23 2 wD_o23 rfl (by decide) tw240 pd_I rfl rfl rfl (Nat.le_of_ble_eq_true rfl) (ws' := wD g ad q9.1 (va_up q9.2 9 ((q9.2 9) + 1))) wD_p23_2 ?_
          refine j_iconst (pc := 107) C d_Gr_openBlock_107 ck_1 ?_
          cases hf
          exact j_zret (pc := 108) C d_Gr_openBlock_108 rfl ⟨rfl, rfl⟩ (Nat.le_of_ble_eq_true rfl) (Nat.le_of_ble_eq_true rfl)
      · rw [if_neg h7] at hf
        refine j_aload_n (pc := 58) C d_Gr_openBlock_58 rfl 0 rfl ?_
        refine j_get (pc := 59) C d_Gr_openBlock_59 23 4 wD_o23 rfl (v := .ref (ad 25)) rfl (by decide) tw242 ?_
        refine j_aload_n (pc := 62) C d_Gr_openBlock_62 rfl 0 rfl ?_
        refine j_get (pc := 63) C d_Gr_openBlock_63 23 2 wD_o23 rfl (v := .int (q2.2.2 9)) rfl (by decide) tw240 ?_
        refine j_aload_n (pc := 66) C d_Gr_openBlock_66 rfl 0 rfl ?_
        refine j_get (pc := 67) C d_Gr_openBlock_67 23 9 wD_o23 rfl (v := .ref (ad 20)) rfl (by decide) tw247 ?_
        refine j_get (pc := 70) C d_Gr_openBlock_70 20 2 wD_o20 rfl (v := .int (q2.2.2 6)) rfl (by decide) tw221 ?_
        obtain ⟨b10, hf⟩ := og hf
        refine j_iast (pc := 73) C d_Gr_openBlock_73 25 (inb_in b10) wD_a25 (ws' := wD g ad (va_up (va_up (va_up (va_up q2.2.1 24 (upd (q2.2.1 24) (q2.2.2 9).toNatClampNeg ((q2.2.2 7) - 1))) 26 (upd (q2.2.1 26) (q2.2.2 9).toNatClampNeg a2)) 25 (upd (q2.2.1 25) (q2.2.2 9).toNatClampNeg (-1))) 25 (upd (upd (q2.2.1 25) (q2.2.2 9).toNatClampNeg (-1)) (q2.2.2 9).toNatClampNeg (q2.2.2 6))) q2.2.2) wD_s25 ?_
        refine j_aload_n (pc := 74) C d_Gr_openBlock_74 rfl 0 rfl ?_
        refine j_get (pc := 75) C d_Gr_openBlock_75 23 9 wD_o23 rfl (v := .ref (ad 20)) rfl (by decide) tw247 ?_
        refine j_iconst (pc := 78) C d_Gr_openBlock_78 ck_4 ?_
        refine j_iconst (pc := 79) C d_Gr_openBlock_79 ck_0 ?_
        obtain ⟨q11, eq11, hf⟩ := ob hf
        refine j_callVv (pc := 80) C (rest := []) d_Gr_openBlock_80 (c_Cd_add (g := g) (ad := ad) eq11) cv_Cd_add tw506 20 rfl rfl cut_same rfl rfl (Nat.le_of_ble_eq_true rfl) (kc2 := 0) (ks2 := 0) (by decide) ?_
        refine j_iload_n (pc := 83) C d_Gr_openBlock_83 rfl 2 rfl ?_
        refine j_iconst (pc := 84) C d_Gr_openBlock_84 ck_m1 ?_
        refine j_icmp_eq (pc := 85) C d_Gr_openBlock_85 (tgt := 97) rfl (fun h12 => ?_) (fun h12 => ?_)
        · rw [if_pos h12] at hf
          refine j_aload_n (pc := 97) C d_Gr_openBlock_97 rfl 0 rfl ?_
          refine j_dup (pc := 98) C d_Gr_openBlock_98 rfl ?_
          refine j_get (pc := 99) C d_Gr_openBlock_99 23 2 wD_o23 rfl (v := .int (q11.2 9)) rfl (by decide) tw240 ?_
          refine j_iconst (pc := 102) C d_Gr_openBlock_102 ck_1 ?_
          refine j_iadd (pc := 103) C d_Gr_openBlock_103 ?_
          refine j_put (pc := 104) C d_Gr_openBlock_104 23 2 wD_o23 rfl (by decide) tw240 pd_I rfl rfl rfl (Nat.le_of_ble_eq_true rfl) (ws' := wD g ad q11.1 (va_up q11.2 9 ((q11.2 9) + 1))) wD_p23_2 ?_
          refine j_iconst (pc := 107) C d_Gr_openBlock_107 ck_1 ?_
          cases hf
          exact j_zret (pc := 108) C d_Gr_openBlock_108 rfl ⟨rfl, rfl⟩ (Nat.le_of_ble_eq_true rfl) (Nat.le_of_ble_eq_true rfl)
        · rw [if_neg h12] at hf
          refine j_aload_n (pc := 88) C d_Gr_openBlock_88 rfl 0 rfl ?_
          refine j_get (pc := 89) C d_Gr_openBlock_89 23 9 wD_o23 rfl (v := .ref (ad 20)) rfl (by decide) tw247 ?_
          refine j_iconst (pc := 92) C d_Gr_openBlock_92 ck_5 ?_
          refine j_iconst (pc := 93) C d_Gr_openBlock_93 ck_0 ?_
          obtain ⟨q13, eq13, hf⟩ := ob hf
          refine j_callVv (pc := 94) C (rest := []) d_Gr_openBlock_94 (c_Cd_add (g := g) (ad := ad) eq13) cv_Cd_add tw506 20 rfl rfl cut_same rfl rfl (Nat.le_of_ble_eq_true rfl) (kc2 := 0) (ks2 := 0) (by decide) ?_
          refine j_aload_n (pc := 97) C d_Gr_openBlock_97 rfl 0 rfl ?_
          refine j_dup (pc := 98) C d_Gr_openBlock_98 rfl ?_
          refine j_get (pc := 99) C d_Gr_openBlock_99 23 2 wD_o23 rfl (v := .int (q13.2 9)) rfl (by decide) tw240 ?_
          refine j_iconst (pc := 102) C d_Gr_openBlock_102 ck_1 ?_
          refine j_iadd (pc := 103) C d_Gr_openBlock_103 ?_
          refine j_put (pc := 104) C d_Gr_openBlock_104 23 2 wD_o23 rfl (by decide) tw240 pd_I rfl rfl rfl (Nat.le_of_ble_eq_true rfl) (ws' := wD g ad q13.1 (va_up q13.2 9 ((q13.2 9) + 1))) wD_p23_2 ?_
          refine j_iconst (pc := 107) C d_Gr_openBlock_107 ck_1 ?_
          cases hf
          exact j_zret (pc := 108) C d_Gr_openBlock_108 rfl ⟨rfl, rfl⟩ (Nat.le_of_ble_eq_true rfl) (Nat.le_of_ble_eq_true rfl)
    · rw [if_pos h3] at hf
      refine j_iconst (pc := 17) C d_Gr_openBlock_17 ck_0 ?_
      cases hf
      exact j_zret (pc := 18) C d_Gr_openBlock_18 rfl ⟨rfl, rfl⟩ (Nat.le_of_ble_eq_true rfl) (Nat.le_of_ble_eq_true rfl)
abbrev rm_Gr_takeName : Room := { frames := 0, cells := 0, slots := 0, locals := 0 }
theorem cv_Gr_takeName : CV y_Gr_takeName b_Gr_takeName 2 (some .boolean) 1 := ⟨⟨tw493, tw9, by decide +kernel⟩, tw492, (sw_ (q := (y_Gr_takeName, 10)) (by decide +kernel) (by decide +kernel))⟩
set_option maxHeartbeats 4000000 in
set_option maxRecDepth 100000 in
theorem c_Gr_takeName {g : GT} {ad : Nat → Nat} {a1 : Int32} {d : DS} {q : Int32 × DS} (hf : f_Gr_takeName a1 d = some q) : MI g y_Gr_takeName b_Gr_takeName 2 (some .boolean) rm_Gr_takeName [.ref (ad 23), .int a1] (wD g ad d.1 d.2) q.1 (wD g ad q.2.1 q.2.2) := by
  refine MI.of (by decide) (Nat.le_of_ble_eq_true rfl) (fun 𝒥 C => ?_)
  unfold f_Gr_takeName at hf
  change 𝒥 0 0 (wD g ad d.1 d.2) [(0, .ref (ad 23)), (1, .int a1)] [] 0
  refine j_aload_n (pc := 0) C d_Gr_takeName_0 rfl 0 rfl ?_
  refine j_get (pc := 1) C d_Gr_takeName_1 23 0 wD_o23 rfl (v := .int (d.2 7)) rfl (by decide) tw237 ?_
  refine j_aload_n (pc := 4) C d_Gr_takeName_4 rfl 0 rfl ?_
  refine j_get (pc := 5) C d_Gr_takeName_5 23 1 wD_o23 rfl (v := .int (d.2 8)) rfl (by decide) tw239 ?_
  refine j_icmp_ge (pc := 8) C d_Gr_takeName_8 (tgt := 27) rfl (fun h1 => ?_) (fun h1 => ?_)
  · rw [if_pos h1] at hf
    refine j_iconst (pc := 27) C d_Gr_takeName_27 ck_0 ?_
    cases hf
    exact j_zret (pc := 28) C d_Gr_takeName_28 rfl ⟨rfl, rfl⟩ (Nat.le_of_ble_eq_true rfl) (Nat.le_of_ble_eq_true rfl)
  · rw [if_neg h1] at hf
    refine j_aload_n (pc := 11) C d_Gr_takeName_11 rfl 0 rfl ?_
    refine j_get (pc := 12) C d_Gr_takeName_12 23 6 wD_o23 rfl (v := .ref (ad 3)) rfl (by decide) tw244 ?_
    refine j_get (pc := 15) C d_Gr_takeName_15 3 0 wD_o3 rfl (v := .ref (ad 4)) rfl (by decide) tw109 ?_
    refine j_aload_n (pc := 18) C d_Gr_takeName_18 rfl 0 rfl ?_
    refine j_get (pc := 19) C d_Gr_takeName_19 23 0 wD_o23 rfl (v := .int (d.2 7)) rfl (by decide) tw237 ?_
    obtain ⟨b2, hf⟩ := og hf
    refine j_iald (pc := 22) C d_Gr_takeName_22 4 (inb_in b2) (x := d.1 4 (d.2 7).toNatClampNeg) wD_a4 rfl ?_
    refine j_iconst (pc := 23) C d_Gr_takeName_23 ck_2 ?_
    refine j_icmp_eq (pc := 24) C d_Gr_takeName_24 (tgt := 29) rfl (fun h3 => ?_) (fun h3 => ?_)
    · rw [if_pos h3] at hf
      refine j_aload_n (pc := 29) C d_Gr_takeName_29 rfl 0 rfl ?_
      refine j_get (pc := 30) C d_Gr_takeName_30 23 7 wD_o23 rfl (v := .ref (ad 12)) rfl (by decide) tw245 ?_
      refine j_get (pc := 33) C d_Gr_takeName_33 12 0 wD_o12 rfl (v := .ref (ad 13)) rfl (by decide) tw173 ?_
      refine j_aload_n (pc := 36) C d_Gr_takeName_36 rfl 0 rfl ?_
      refine j_get (pc := 37) C d_Gr_takeName_37 23 0 wD_o23 rfl (v := .int (d.2 7)) rfl (by decide) tw237 ?_
      refine j_iload_n (pc := 40) C d_Gr_takeName_40 rfl 1 rfl ?_
      obtain ⟨b4, hf⟩ := og hf
      refine j_iast (pc := 41) C d_Gr_takeName_41 13 (inb_in b4) wD_a13 (ws' := wD g ad (va_up d.1 13 (upd (d.1 13) (d.2 7).toNatClampNeg a1)) d.2) wD_s13 ?_
      refine j_aload_n (pc := 42) C d_Gr_takeName_42 rfl 0 rfl ?_
      refine j_dup (pc := 43) C d_Gr_takeName_43 rfl ?_
      refine j_get (pc := 44) C d_Gr_takeName_44 23 0 wD_o23 rfl (v := .int (d.2 7)) rfl (by decide) tw237 ?_
      refine j_iconst (pc := 47) C d_Gr_takeName_47 ck_1 ?_
      refine j_iadd (pc := 48) C d_Gr_takeName_48 ?_
      refine j_put (pc := 49) C d_Gr_takeName_49 23 0 wD_o23 rfl (by decide) tw237 pd_I rfl rfl rfl (Nat.le_of_ble_eq_true rfl) (ws' := wD g ad (va_up d.1 13 (upd (d.1 13) (d.2 7).toNatClampNeg a1)) (va_up d.2 7 ((d.2 7) + 1))) wD_p23_0 ?_
      refine j_iconst (pc := 52) C d_Gr_takeName_52 ck_1 ?_
      cases hf
      exact j_zret (pc := 53) C d_Gr_takeName_53 rfl ⟨rfl, rfl⟩ (Nat.le_of_ble_eq_true rfl) (Nat.le_of_ble_eq_true rfl)
    · rw [if_neg h3] at hf
      refine j_iconst (pc := 27) C d_Gr_takeName_27 ck_0 ?_
      cases hf
      exact j_zret (pc := 28) C d_Gr_takeName_28 rfl ⟨rfl, rfl⟩ (Nat.le_of_ble_eq_true rfl) (Nat.le_of_ble_eq_true rfl)
abbrev rm_Gr_readParameters : Room := { frames := 1, cells := 0, slots := 0, locals := 21 }
theorem cv_Gr_readParameters : CV y_Gr_readParameters b_Gr_readParameters 4 (some .int) 0 := ⟨⟨tw497, tw9, by decide +kernel⟩, tw496, (sw_ (q := (y_Gr_readParameters, 10)) (by decide +kernel) (by decide +kernel))⟩
set_option maxHeartbeats 4000000 in
set_option maxRecDepth 100000 in
theorem c_Gr_readParameters {g : GT} {ad : Nat → Nat} {d : DS} {q : Int32 × DS} (hf : f_Gr_readParameters d = some q) : MI g y_Gr_readParameters b_Gr_readParameters 4 (some .int) rm_Gr_readParameters [.ref (ad 23)] (wD g ad d.1 d.2) q.1 (wD g ad q.2.1 q.2.2) := by
  refine MI.of (by decide) (Nat.le_of_ble_eq_true rfl) (fun 𝒥 C => ?_)
  have L42 : ∀ (n : Nat) (x : Int32 × Int32 × DS), lpN (BGr_readParameters_42) n x = some q → 𝒥 0 0 (wD g ad x.2.2.1 x.2.2.2) [(0, .ref (ad 23)), (1, .int x.1), (2, .int x.2.1)] [] 42 := by
    refine lp_ind (fun k42 k42_ih x hf => ?_)
    unfold BGr_readParameters_42 at hf
    refine j_iload_n (pc := 42) C d_Gr_readParameters_42 rfl 2 rfl ?_
    refine j_sipush (pc := 43) C d_Gr_readParameters_43 cs_240 ?_
    refine j_icmp_gt (pc := 46) C d_Gr_readParameters_46 (tgt := 115) rfl (fun h6 => ?_) (fun h6 => ?_)
    · rw [if_pos h6] at hf
      refine j_iconst (pc := 115) C d_Gr_readParameters_115 ck_m1 ?_
      cases hf
      exact j_iret (pc := 116) C d_Gr_readParameters_116 ⟨rfl, rfl⟩ (Nat.le_of_ble_eq_true rfl) (Nat.le_of_ble_eq_true rfl)
    · rw [if_neg h6] at hf
      refine j_aload_n (pc := 49) C d_Gr_readParameters_49 rfl 0 rfl ?_
      refine j_get (pc := 50) C d_Gr_readParameters_50 23 0 wD_o23 rfl (v := .int (x.2.2.2 7)) rfl (by decide) tw237 ?_
      refine j_istore_n (pc := 53) C d_Gr_readParameters_53 rfl [1, 2, 3, 0] (by decide) (lc' := [(0, .ref (ad 23)), (1, .int x.1), (2, .int x.2.1), (3, .int (x.2.2.2 7))]) rfl ?_
      refine j_aload_n (pc := 54) C d_Gr_readParameters_54 rfl 0 rfl ?_
      refine j_iconst (pc := 55) C d_Gr_readParameters_55 ck_2 ?_
      obtain ⟨q7, eq7, hf⟩ := ob hf
      refine j_callVi (pc := 56) C (rest := []) d_Gr_readParameters_56 (c_Gr_takeName (g := g) (ad := ad) eq7) cv_Gr_takeName tw490 23 rfl rfl cut_same rfl rfl (Nat.le_of_ble_eq_true rfl) (kc2 := 0) (ks2 := 0) (by decide) ?_
      refine j_if_ne (pc := 59) C d_Gr_readParameters_59 (tgt := 64) rfl (fun h8 => ?_) (fun h8 => ?_)
      · rw [if_neg h8] at hf
        refine j_aload_n (pc := 64) C d_Gr_readParameters_64 rfl 0 rfl ?_
        refine j_get (pc := 65) C d_Gr_readParameters_65 23 7 wD_o23 rfl (v := .ref (ad 12)) rfl (by decide) tw245 ?_
        refine j_get (pc := 68) C d_Gr_readParameters_68 12 3 wD_o12 rfl (v := .ref (ad 16)) rfl (by decide) tw182 ?_
        refine j_iload_n (pc := 71) C d_Gr_readParameters_71 rfl 3 rfl ?_
        refine j_iload_n (pc := 72) C d_Gr_readParameters_72 rfl 1 rfl ?_
        obtain ⟨b9, hf⟩ := og hf
        refine j_iast (pc := 73) C d_Gr_readParameters_73 16 (inb_in b9) wD_a16 (ws' := wD g ad (va_up q7.2.1 16 (upd (q7.2.1 16) (x.2.2.2 7).toNatClampNeg x.1)) q7.2.2) wD_s16 ?_
        refine j_aload_n (pc := 74) C d_Gr_readParameters_74 rfl 0 rfl ?_
        refine j_get (pc := 75) C d_Gr_readParameters_75 23 7 wD_o23 rfl (v := .ref (ad 12)) rfl (by decide) tw245 ?_
        refine j_get (pc := 78) C d_Gr_readParameters_78 12 4 wD_o12 rfl (v := .ref (ad 17)) rfl (by decide) tw184 ?_
        refine j_iload_n (pc := 81) C d_Gr_readParameters_81 rfl 3 rfl ?_
        refine j_aload_n (pc := 82) C d_Gr_readParameters_82 rfl 0 rfl ?_
        refine j_get (pc := 83) C d_Gr_readParameters_83 23 0 wD_o23 rfl (v := .int (q7.2.2 7)) rfl (by decide) tw237 ?_
        obtain ⟨b10, hf⟩ := og hf
        refine j_iast (pc := 86) C d_Gr_readParameters_86 17 (inb_in b10) wD_a17 (ws' := wD g ad (va_up (va_up q7.2.1 16 (upd (q7.2.1 16) (x.2.2.2 7).toNatClampNeg x.1)) 17 (upd (q7.2.1 17) (x.2.2.2 7).toNatClampNeg (q7.2.2 7))) q7.2.2) wD_s17 ?_
        refine j_aload_n (pc := 87) C d_Gr_readParameters_87 rfl 0 rfl ?_
        refine j_bipush (pc := 88) C d_Gr_readParameters_88 cb_41 ?_
        obtain ⟨q11, eq11, hf⟩ := ob hf
        refine j_callVi (pc := 90) C (rest := []) d_Gr_readParameters_90 (c_Gr_takeSign (g := g) (ad := ad) eq11) cv_Gr_takeSign tw498 23 rfl rfl cut_same rfl rfl (Nat.le_of_ble_eq_true rfl) (kc2 := 0) (ks2 := 0) (by decide) ?_
        refine j_if_eq (pc := 93) C d_Gr_readParameters_93 (tgt := 98) rfl (fun h12 => ?_) (fun h12 => ?_)
        · rw [if_pos h12] at hf
          refine j_aload_n (pc := 98) C d_Gr_readParameters_98 rfl 0 rfl ?_
          refine j_bipush (pc := 99) C d_Gr_readParameters_99 cb_44 ?_
          obtain ⟨q13, eq13, hf⟩ := ob hf
          refine j_callVi (pc := 101) C (rest := []) d_Gr_readParameters_101 (c_Gr_takeSign (g := g) (ad := ad) eq13) cv_Gr_takeSign tw498 23 rfl rfl cut_same rfl rfl (Nat.le_of_ble_eq_true rfl) (kc2 := 0) (ks2 := 0) (by decide) ?_
          refine j_if_ne (pc := 104) C d_Gr_readParameters_104 (tgt := 109) rfl (fun h14 => ?_) (fun h14 => ?_)
          · rw [if_neg h14] at hf
            refine j_iinc (pc := 109) C d_Gr_readParameters_109 2 rfl (v := x.2.1 + 1) (iv ci_1) [1, 2, 0, 3] (by decide) (lc' := [(0, .ref (ad 23)), (1, .int x.1), (2, .int (x.2.1 + 1)), (3, .int (x.2.2.2 7))]) rfl ?_
            refine j_goto (pc := 112) C d_Gr_readParameters_112 (tgt := 42) rfl ?_
            refine j_lc C (lc' := [(0, .ref (ad 23)), (1, .int x.1), (2, .int (x.2.1 + 1))]) [0, 1, 2] rfl ?_
            exact k42_ih (x.1, x.2.1 + 1, q13.2) hf
          · rw [if_pos h14] at hf
            refine j_iconst (pc := 107) C d_Gr_readParameters_107 ck_m1 ?_
            cases hf
            exact j_iret (pc := 108) C d_Gr_readParameters_108 ⟨rfl, rfl⟩ (Nat.le_of_ble_eq_true rfl) (Nat.le_of_ble_eq_true rfl)
        · rw [if_neg h12] at hf
          refine j_iload_n (pc := 96) C d_Gr_readParameters_96 rfl 2 rfl ?_
          cases hf
          exact j_iret (pc := 97) C d_Gr_readParameters_97 ⟨rfl, rfl⟩ (Nat.le_of_ble_eq_true rfl) (Nat.le_of_ble_eq_true rfl)
      · rw [if_pos h8] at hf
        refine j_iconst (pc := 62) C d_Gr_readParameters_62 ck_m1 ?_
        cases hf
        exact j_iret (pc := 63) C d_Gr_readParameters_63 ⟨rfl, rfl⟩ (Nat.le_of_ble_eq_true rfl) (Nat.le_of_ble_eq_true rfl)
  unfold f_Gr_readParameters at hf
  change 𝒥 0 0 (wD g ad d.1 d.2) [(0, .ref (ad 23))] [] 0
  refine j_aload_n (pc := 0) C d_Gr_readParameters_0 rfl 0 rfl ?_
  refine j_get (pc := 1) C d_Gr_readParameters_1 23 0 wD_o23 rfl (v := .int (d.2 7)) rfl (by decide) tw237 ?_
  refine j_istore_n (pc := 4) C d_Gr_readParameters_4 rfl [1, 0] (by decide) (lc' := [(0, .ref (ad 23)), (1, .int (d.2 7))]) rfl ?_
  refine j_aload_n (pc := 5) C d_Gr_readParameters_5 rfl 0 rfl ?_
  refine j_bipush (pc := 6) C d_Gr_readParameters_6 cb_40 ?_
  obtain ⟨q1, eq1, hf⟩ := ob hf
  refine j_callVi (pc := 8) C (rest := []) d_Gr_readParameters_8 (c_Gr_takeSign (g := g) (ad := ad) eq1) cv_Gr_takeSign tw498 23 rfl rfl cut_same rfl rfl (Nat.le_of_ble_eq_true rfl) (kc2 := 0) (ks2 := 0) (by decide) ?_
  refine j_if_ne (pc := 11) C d_Gr_readParameters_11 (tgt := 16) rfl (fun h2 => ?_) (fun h2 => ?_)
  · rw [if_neg h2] at hf
    refine j_aload_n (pc := 16) C d_Gr_readParameters_16 rfl 0 rfl ?_
    refine j_get (pc := 17) C d_Gr_readParameters_17 23 7 wD_o23 rfl (v := .ref (ad 12)) rfl (by decide) tw245 ?_
    refine j_get (pc := 20) C d_Gr_readParameters_20 12 5 wD_o12 rfl (v := .ref (ad 18)) rfl (by decide) tw186 ?_
    refine j_iload_n (pc := 23) C d_Gr_readParameters_23 rfl 1 rfl ?_
    refine j_aload_n (pc := 24) C d_Gr_readParameters_24 rfl 0 rfl ?_
    refine j_get (pc := 25) C d_Gr_readParameters_25 23 1 wD_o23 rfl (v := .int (q1.2.2 8)) rfl (by decide) tw239 ?_
    obtain ⟨b3, hf⟩ := og hf
    refine j_iast (pc := 28) C d_Gr_readParameters_28 18 (inb_in b3) wD_a18 (ws' := wD g ad (va_up q1.2.1 18 (upd (q1.2.1 18) (d.2 7).toNatClampNeg (q1.2.2 8))) q1.2.2) wD_s18 ?_
    refine j_aload_n (pc := 29) C d_Gr_readParameters_29 rfl 0 rfl ?_
    refine j_bipush (pc := 30) C d_Gr_readParameters_30 cb_41 ?_
    obtain ⟨q4, eq4, hf⟩ := ob hf
    refine j_callVi (pc := 32) C (rest := []) d_Gr_readParameters_32 (c_Gr_takeSign (g := g) (ad := ad) eq4) cv_Gr_takeSign tw498 23 rfl rfl cut_same rfl rfl (Nat.le_of_ble_eq_true rfl) (kc2 := 0) (ks2 := 0) (by decide) ?_
    refine j_if_eq (pc := 35) C d_Gr_readParameters_35 (tgt := 40) rfl (fun h5 => ?_) (fun h5 => ?_)
    · rw [if_pos h5] at hf
      refine j_iconst (pc := 40) C d_Gr_readParameters_40 ck_1 ?_
      refine j_istore_n (pc := 41) C d_Gr_readParameters_41 rfl [1, 2, 0] (by decide) (lc' := [(0, .ref (ad 23)), (1, .int (d.2 7)), (2, .int 1)]) rfl ?_
      exact L42 100000 (d.2 7, 1, q4.2) hf
    · rw [if_neg h5] at hf
      refine j_iconst (pc := 38) C d_Gr_readParameters_38 ck_0 ?_
      cases hf
      exact j_iret (pc := 39) C d_Gr_readParameters_39 ⟨rfl, rfl⟩ (Nat.le_of_ble_eq_true rfl) (Nat.le_of_ble_eq_true rfl)
  · rw [if_pos h2] at hf
    refine j_iconst (pc := 14) C d_Gr_readParameters_14 ck_m1 ?_
    cases hf
    exact j_iret (pc := 15) C d_Gr_readParameters_15 ⟨rfl, rfl⟩ (Nat.le_of_ble_eq_true rfl) (Nat.le_of_ble_eq_true rfl)
abbrev rm_Cd_aimHere : Room := { frames := 0, cells := 0, slots := 0, locals := 0 }
theorem cv_Cd_aimHere : CV y_Cd_aimHere b_Cd_aimHere 2 none 1 := ⟨⟨tw521, tw8, by decide +kernel⟩, tw519, tw520⟩
set_option maxHeartbeats 4000000 in
set_option maxRecDepth 100000 in
theorem c_Cd_aimHere {g : GT} {ad : Nat → Nat} {a1 : Int32} {d : DS} {q : DS} (hf : f_Cd_aimHere a1 d = some q) : MV g y_Cd_aimHere b_Cd_aimHere 2 none rm_Cd_aimHere [.ref (ad 20), .int a1] (wD g ad d.1 d.2) (wD g ad q.1 q.2) := by
  refine MV.of (by decide) (Nat.le_of_ble_eq_true rfl) (fun 𝒥 C => ?_)
  unfold f_Cd_aimHere at hf
  change 𝒥 0 0 (wD g ad d.1 d.2) [(0, .ref (ad 20)), (1, .int a1)] [] 0
  refine j_iload_n (pc := 0) C d_Cd_aimHere_0 rfl 1 rfl ?_
  refine j_if_lt (pc := 1) C d_Cd_aimHere_1 (tgt := 22) rfl (fun h1 => ?_) (fun h1 => ?_)
  · rw [if_pos h1] at hf
    cases hf
    exact j_vret (pc := 22) C d_Cd_aimHere_22 ⟨rfl, rfl⟩ (Nat.le_of_ble_eq_true rfl) (Nat.le_of_ble_eq_true rfl)
  · rw [if_neg h1] at hf
    refine j_iload_n (pc := 4) C d_Cd_aimHere_4 rfl 1 rfl ?_
    refine j_aload_n (pc := 5) C d_Cd_aimHere_5 rfl 0 rfl ?_
    refine j_get (pc := 6) C d_Cd_aimHere_6 20 2 wD_o20 rfl (v := .int (d.2 6)) rfl (by decide) tw220 ?_
    refine j_icmp_ge (pc := 9) C d_Cd_aimHere_9 (tgt := 22) rfl (fun h2 => ?_) (fun h2 => ?_)
    · rw [if_pos h2] at hf
      cases hf
      exact j_vret (pc := 22) C d_Cd_aimHere_22 ⟨rfl, rfl⟩ (Nat.le_of_ble_eq_true rfl) (Nat.le_of_ble_eq_true rfl)
    · rw [if_neg h2] at hf
      refine j_aload_n (pc := 12) C d_Cd_aimHere_12 rfl 0 rfl ?_
      refine j_get (pc := 13) C d_Cd_aimHere_13 20 1 wD_o20 rfl (v := .ref (ad 22)) rfl (by decide) tw218 ?_
      refine j_iload_n (pc := 16) C d_Cd_aimHere_16 rfl 1 rfl ?_
      refine j_aload_n (pc := 17) C d_Cd_aimHere_17 rfl 0 rfl ?_
      refine j_get (pc := 18) C d_Cd_aimHere_18 20 2 wD_o20 rfl (v := .int (d.2 6)) rfl (by decide) tw220 ?_
      obtain ⟨b3, hf⟩ := og hf
      refine j_iast (pc := 21) C d_Cd_aimHere_21 22 (inb_in b3) wD_a22 (ws' := wD g ad (va_up d.1 22 (upd (d.1 22) a1.toNatClampNeg (d.2 6))) d.2) wD_s22 ?_
      cases hf
      exact j_vret (pc := 22) C d_Cd_aimHere_22 ⟨rfl, rfl⟩ (Nat.le_of_ble_eq_true rfl) (Nat.le_of_ble_eq_true rfl)
abbrev rm_Gr_closeBlock : Room := { frames := 1, cells := 0, slots := 0, locals := 22 }
theorem cv_Gr_closeBlock : CV y_Gr_closeBlock b_Gr_closeBlock 1 none 0 := ⟨⟨tw517, tw9, by decide +kernel⟩, tw516, (sw_ (q := (y_Gr_closeBlock, 10)) (by decide +kernel) (by decide +kernel))⟩
set_option maxHeartbeats 4000000 in
set_option maxRecDepth 100000 in
theorem c_Gr_closeBlock {g : GT} {ad : Nat → Nat} {d : DS} {q : DS} (hf : f_Gr_closeBlock d = some q) : MV g y_Gr_closeBlock b_Gr_closeBlock 1 none rm_Gr_closeBlock [.ref (ad 23)] (wD g ad d.1 d.2) (wD g ad q.1 q.2) := by
  refine MV.of (by decide) (Nat.le_of_ble_eq_true rfl) (fun 𝒥 C => ?_)
  unfold f_Gr_closeBlock at hf
  change 𝒥 0 0 (wD g ad d.1 d.2) [(0, .ref (ad 23))] [] 0
  refine j_aload_n (pc := 0) C d_Gr_closeBlock_0 rfl 0 rfl ?_
  refine j_dup (pc := 1) C d_Gr_closeBlock_1 rfl ?_
  refine j_get (pc := 2) C d_Gr_closeBlock_2 23 2 wD_o23 rfl (v := .int (d.2 9)) rfl (by decide) tw240 ?_
  refine j_iconst (pc := 5) C d_Gr_closeBlock_5 ck_1 ?_
  refine j_isub (pc := 6) C d_Gr_closeBlock_6 ?_
  refine j_put (pc := 7) C d_Gr_closeBlock_7 23 2 wD_o23 rfl (by decide) tw240 pd_I rfl rfl rfl (Nat.le_of_ble_eq_true rfl) (ws' := wD g ad d.1 (va_up d.2 9 ((d.2 9) - 1))) wD_p23_2 ?_
  refine j_aload_n (pc := 10) C d_Gr_closeBlock_10 rfl 0 rfl ?_
  refine j_get (pc := 11) C d_Gr_closeBlock_11 23 7 wD_o23 rfl (v := .ref (ad 12)) rfl (by decide) tw245 ?_
  refine j_get (pc := 14) C d_Gr_closeBlock_14 12 5 wD_o12 rfl (v := .ref (ad 18)) rfl (by decide) tw186 ?_
  refine j_aload_n (pc := 17) C d_Gr_closeBlock_17 rfl 0 rfl ?_
  refine j_get (pc := 18) C d_Gr_closeBlock_18 23 3 wD_o23 rfl (v := .ref (ad 24)) rfl (by decide) tw241 ?_
  refine j_aload_n (pc := 21) C d_Gr_closeBlock_21 rfl 0 rfl ?_
  refine j_get (pc := 22) C d_Gr_closeBlock_22 23 2 wD_o23 rfl (v := .int ((d.2 9) - 1)) rfl (by decide) tw240 ?_
  obtain ⟨b1, hf⟩ := og hf
  refine j_iald (pc := 25) C d_Gr_closeBlock_25 24 (inb_in b1) (x := d.1 24 ((d.2 9) - 1).toNatClampNeg) wD_a24 rfl ?_
  refine j_aload_n (pc := 26) C d_Gr_closeBlock_26 rfl 0 rfl ?_
  refine j_get (pc := 27) C d_Gr_closeBlock_27 23 0 wD_o23 rfl (v := .int (d.2 7)) rfl (by decide) tw237 ?_
  refine j_iconst (pc := 30) C d_Gr_closeBlock_30 ck_1 ?_
  refine j_isub (pc := 31) C d_Gr_closeBlock_31 ?_
  obtain ⟨b2, hf⟩ := og hf
  refine j_iast (pc := 32) C d_Gr_closeBlock_32 18 (inb_in b2) wD_a18 (ws' := wD g ad (va_up d.1 18 (upd (d.1 18) (d.1 24 ((d.2 9) - 1).toNatClampNeg).toNatClampNeg ((d.2 7) - 1))) (va_up d.2 9 ((d.2 9) - 1))) wD_s18 ?_
  refine j_aload_n (pc := 33) C d_Gr_closeBlock_33 rfl 0 rfl ?_
  refine j_get (pc := 34) C d_Gr_closeBlock_34 23 5 wD_o23 rfl (v := .ref (ad 26)) rfl (by decide) tw243 ?_
  refine j_aload_n (pc := 37) C d_Gr_closeBlock_37 rfl 0 rfl ?_
  refine j_get (pc := 38) C d_Gr_closeBlock_38 23 2 wD_o23 rfl (v := .int ((d.2 9) - 1)) rfl (by decide) tw240 ?_
  obtain ⟨b3, hf⟩ := og hf
  refine j_iald (pc := 41) C d_Gr_closeBlock_41 26 (inb_in b3) (x := d.1 26 ((d.2 9) - 1).toNatClampNeg) wD_a26 rfl ?_
  refine j_iconst (pc := 42) C d_Gr_closeBlock_42 ck_m1 ?_
  refine j_icmp_eq (pc := 43) C d_Gr_closeBlock_43 (tgt := 64) rfl (fun h4 => ?_) (fun h4 => ?_)
  · rw [if_pos h4] at hf
    refine j_aload_n (pc := 64) C d_Gr_closeBlock_64 rfl 0 rfl ?_
    refine j_get (pc := 65) C d_Gr_closeBlock_65 23 9 wD_o23 rfl (v := .ref (ad 20)) rfl (by decide) tw247 ?_
    refine j_aload_n (pc := 68) C d_Gr_closeBlock_68 rfl 0 rfl ?_
    refine j_get (pc := 69) C d_Gr_closeBlock_69 23 4 wD_o23 rfl (v := .ref (ad 25)) rfl (by decide) tw242 ?_
    refine j_aload_n (pc := 72) C d_Gr_closeBlock_72 rfl 0 rfl ?_
    refine j_get (pc := 73) C d_Gr_closeBlock_73 23 2 wD_o23 rfl (v := .int ((d.2 9) - 1)) rfl (by decide) tw240 ?_
    obtain ⟨b5, hf⟩ := og hf
    refine j_iald (pc := 76) C d_Gr_closeBlock_76 25 (inb_in b5) (x := d.1 25 ((d.2 9) - 1).toNatClampNeg) wD_a25 rfl ?_
    obtain ⟨q6, eq6, hf⟩ := ob hf
    refine j_callVv (pc := 77) C (rest := []) d_Gr_closeBlock_77 (c_Cd_aimHere (g := g) (ad := ad) eq6) cv_Cd_aimHere tw518 20 rfl rfl cut_same rfl rfl (Nat.le_of_ble_eq_true rfl) (kc2 := 0) (ks2 := 0) (by decide) ?_
    cases hf
    exact j_vret (pc := 80) C d_Gr_closeBlock_80 ⟨rfl, rfl⟩ (Nat.le_of_ble_eq_true rfl) (Nat.le_of_ble_eq_true rfl)
  · rw [if_neg h4] at hf
    refine j_aload_n (pc := 46) C d_Gr_closeBlock_46 rfl 0 rfl ?_
    refine j_get (pc := 47) C d_Gr_closeBlock_47 23 9 wD_o23 rfl (v := .ref (ad 20)) rfl (by decide) tw247 ?_
    refine j_bipush (pc := 50) C d_Gr_closeBlock_50 cb_6 ?_
    refine j_aload_n (pc := 52) C d_Gr_closeBlock_52 rfl 0 rfl ?_
    refine j_get (pc := 53) C d_Gr_closeBlock_53 23 5 wD_o23 rfl (v := .ref (ad 26)) rfl (by decide) tw243 ?_
    refine j_aload_n (pc := 56) C d_Gr_closeBlock_56 rfl 0 rfl ?_
    refine j_get (pc := 57) C d_Gr_closeBlock_57 23 2 wD_o23 rfl (v := .int ((d.2 9) - 1)) rfl (by decide) tw240 ?_
    obtain ⟨b7, hf⟩ := og hf
    refine j_iald (pc := 60) C d_Gr_closeBlock_60 26 (inb_in b7) (x := d.1 26 ((d.2 9) - 1).toNatClampNeg) wD_a26 rfl ?_
    obtain ⟨q8, eq8, hf⟩ := ob hf
    refine j_callVv (pc := 61) C (rest := []) d_Gr_closeBlock_61 (c_Cd_add (g := g) (ad := ad) eq8) cv_Cd_add tw506 20 rfl rfl cut_same rfl rfl (Nat.le_of_ble_eq_true rfl) (kc2 := 0) (ks2 := 0) (by decide) ?_
    refine j_aload_n (pc := 64) C d_Gr_closeBlock_64 rfl 0 rfl ?_
    refine j_get (pc := 65) C d_Gr_closeBlock_65 23 9 wD_o23 rfl (v := .ref (ad 20)) rfl (by decide) tw247 ?_
    refine j_aload_n (pc := 68) C d_Gr_closeBlock_68 rfl 0 rfl ?_
    refine j_get (pc := 69) C d_Gr_closeBlock_69 23 4 wD_o23 rfl (v := .ref (ad 25)) rfl (by decide) tw242 ?_
    refine j_aload_n (pc := 72) C d_Gr_closeBlock_72 rfl 0 rfl ?_
    refine j_get (pc := 73) C d_Gr_closeBlock_73 23 2 wD_o23 rfl (v := .int (q8.2 9)) rfl (by decide) tw240 ?_
    obtain ⟨b9, hf⟩ := og hf
    refine j_iald (pc := 76) C d_Gr_closeBlock_76 25 (inb_in b9) (x := q8.1 25 (q8.2 9).toNatClampNeg) wD_a25 rfl ?_
    obtain ⟨q10, eq10, hf⟩ := ob hf
    refine j_callVv (pc := 77) C (rest := []) d_Gr_closeBlock_77 (c_Cd_aimHere (g := g) (ad := ad) eq10) cv_Cd_aimHere tw518 20 rfl rfl cut_same rfl rfl (Nat.le_of_ble_eq_true rfl) (kc2 := 0) (ks2 := 0) (by decide) ?_
    cases hf
    exact j_vret (pc := 80) C d_Gr_closeBlock_80 ⟨rfl, rfl⟩ (Nat.le_of_ble_eq_true rfl) (Nat.le_of_ble_eq_true rfl)
