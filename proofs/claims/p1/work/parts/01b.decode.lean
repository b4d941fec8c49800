abbrev b_X_init : ByteArray := prog_1_method_1_code
def y_X_init : MethodName := ⟨"ProgramDesk", "<init>", "()V"⟩
theorem d_X_init_0 : decode b_X_init 0 = .ok (.aload_n 0, 1) := by decide +kernel
theorem d_X_init_1 : decode b_X_init 1 = .ok (.invokespecial 1, 3) := by decide +kernel
theorem d_X_init_4 : decode b_X_init 4 = .ok (.aload_n 0, 1) := by decide +kernel
theorem d_X_init_5 : decode b_X_init 5 = .ok (.new 7, 3) := by decide +kernel
theorem d_X_init_8 : decode b_X_init 8 = .ok (.dup, 1) := by decide +kernel
theorem d_X_init_9 : decode b_X_init 9 = .ok (.invokespecial 9, 3) := by decide +kernel
theorem d_X_init_12 : decode b_X_init 12 = .ok (.putfield 10, 3) := by decide +kernel
theorem d_X_init_15 : decode b_X_init 15 = .ok (.aload_n 0, 1) := by decide +kernel
theorem d_X_init_16 : decode b_X_init 16 = .ok (.new 16, 3) := by decide +kernel
theorem d_X_init_19 : decode b_X_init 19 = .ok (.dup, 1) := by decide +kernel
theorem d_X_init_20 : decode b_X_init 20 = .ok (.invokespecial 18, 3) := by decide +kernel
theorem d_X_init_23 : decode b_X_init 23 = .ok (.putfield 19, 3) := by decide +kernel
theorem d_X_init_26 : decode b_X_init 26 = .ok (.aload_n 0, 1) := by decide +kernel
theorem d_X_init_27 : decode b_X_init 27 = .ok (.new 16, 3) := by decide +kernel
theorem d_X_init_30 : decode b_X_init 30 = .ok (.dup, 1) := by decide +kernel
theorem d_X_init_31 : decode b_X_init 31 = .ok (.invokespecial 18, 3) := by decide +kernel
theorem d_X_init_34 : decode b_X_init 34 = .ok (.putfield 23, 3) := by decide +kernel
theorem d_X_init_37 : decode b_X_init 37 = .ok (.return_, 1) := by decide +kernel
abbrev b_X_type : ByteArray := prog_1_method_2_code
def y_X_type : MethodName := ⟨"ProgramDesk", "type", "(C)Z"⟩
theorem d_X_type_0 : decode b_X_type 0 = .ok (.iload_n 1, 1) := by decide +kernel
theorem d_X_type_1 : decode b_X_type 1 = .ok (.invokestatic 26, 3) := by decide +kernel
theorem d_X_type_4 : decode b_X_type 4 = .ok (.ifCond .eq 19, 3) := by decide +kernel
theorem d_X_type_7 : decode b_X_type 7 = .ok (.aload_n 0, 1) := by decide +kernel
theorem d_X_type_8 : decode b_X_type 8 = .ok (.getfield 19, 3) := by decide +kernel
theorem d_X_type_11 : decode b_X_type 11 = .ok (.getfield 30, 3) := by decide +kernel
theorem d_X_type_14 : decode b_X_type 14 = .ok (.getfield 34, 3) := by decide +kernel
theorem d_X_type_17 : decode b_X_type 17 = .ok (.sipush 240, 3) := by decide +kernel
theorem d_X_type_20 : decode b_X_type 20 = .ok (.if_icmp .lt 5, 3) := by decide +kernel
theorem d_X_type_23 : decode b_X_type 23 = .ok (.iconst 0, 1) := by decide +kernel
theorem d_X_type_24 : decode b_X_type 24 = .ok (.ireturn, 1) := by decide +kernel
theorem d_X_type_25 : decode b_X_type 25 = .ok (.aload_n 0, 1) := by decide +kernel
theorem d_X_type_26 : decode b_X_type 26 = .ok (.getfield 19, 3) := by decide +kernel
theorem d_X_type_29 : decode b_X_type 29 = .ok (.getfield 30, 3) := by decide +kernel
theorem d_X_type_32 : decode b_X_type 32 = .ok (.iload_n 1, 1) := by decide +kernel
theorem d_X_type_33 : decode b_X_type 33 = .ok (.invokevirtual 40, 3) := by decide +kernel
theorem d_X_type_36 : decode b_X_type 36 = .ok (.aload_n 0, 1) := by decide +kernel
theorem d_X_type_37 : decode b_X_type 37 = .ok (.getfield 19, 3) := by decide +kernel
theorem d_X_type_40 : decode b_X_type 40 = .ok (.iconst 0, 1) := by decide +kernel
theorem d_X_type_41 : decode b_X_type 41 = .ok (.putfield 44, 3) := by decide +kernel
theorem d_X_type_44 : decode b_X_type 44 = .ok (.iconst 1, 1) := by decide +kernel
theorem d_X_type_45 : decode b_X_type 45 = .ok (.ireturn, 1) := by decide +kernel
abbrev b_X_word : ByteArray := prog_1_method_3_code
def y_X_word : MethodName := ⟨"ProgramDesk", "word", "(I)Z"⟩
theorem d_X_word_0 : decode b_X_word 0 = .ok (.iload_n 1, 1) := by decide +kernel
theorem d_X_word_1 : decode b_X_word 1 = .ok (.ifCond .lt 38, 3) := by decide +kernel
theorem d_X_word_4 : decode b_X_word 4 = .ok (.iload_n 1, 1) := by decide +kernel
theorem d_X_word_5 : decode b_X_word 5 = .ok (.getstatic 48, 3) := by decide +kernel
theorem d_X_word_8 : decode b_X_word 8 = .ok (.arraylength, 1) := by decide +kernel
theorem d_X_word_9 : decode b_X_word 9 = .ok (.if_icmp .ge 30, 3) := by decide +kernel
theorem d_X_word_12 : decode b_X_word 12 = .ok (.aload_n 0, 1) := by decide +kernel
theorem d_X_word_13 : decode b_X_word 13 = .ok (.getfield 19, 3) := by decide +kernel
theorem d_X_word_16 : decode b_X_word 16 = .ok (.getfield 30, 3) := by decide +kernel
theorem d_X_word_19 : decode b_X_word 19 = .ok (.getfield 34, 3) := by decide +kernel
theorem d_X_word_22 : decode b_X_word 22 = .ok (.getstatic 48, 3) := by decide +kernel
theorem d_X_word_25 : decode b_X_word 25 = .ok (.iload_n 1, 1) := by decide +kernel
theorem d_X_word_26 : decode b_X_word 26 = .ok (.iaload, 1) := by decide +kernel
theorem d_X_word_27 : decode b_X_word 27 = .ok (.invokestatic 52, 3) := by decide +kernel
theorem d_X_word_30 : decode b_X_word 30 = .ok (.iadd, 1) := by decide +kernel
theorem d_X_word_31 : decode b_X_word 31 = .ok (.iconst 1, 1) := by decide +kernel
theorem d_X_word_32 : decode b_X_word 32 = .ok (.iadd, 1) := by decide +kernel
theorem d_X_word_33 : decode b_X_word 33 = .ok (.sipush 240, 3) := by decide +kernel
theorem d_X_word_36 : decode b_X_word 36 = .ok (.if_icmp .le 5, 3) := by decide +kernel
theorem d_X_word_39 : decode b_X_word 39 = .ok (.iconst 0, 1) := by decide +kernel
theorem d_X_word_40 : decode b_X_word 40 = .ok (.ireturn, 1) := by decide +kernel
theorem d_X_word_41 : decode b_X_word 41 = .ok (.aload_n 0, 1) := by decide +kernel
theorem d_X_word_42 : decode b_X_word 42 = .ok (.getfield 19, 3) := by decide +kernel
theorem d_X_word_45 : decode b_X_word 45 = .ok (.getfield 30, 3) := by decide +kernel
theorem d_X_word_48 : decode b_X_word 48 = .ok (.getstatic 48, 3) := by decide +kernel
theorem d_X_word_51 : decode b_X_word 51 = .ok (.iload_n 1, 1) := by decide +kernel
theorem d_X_word_52 : decode b_X_word 52 = .ok (.iaload, 1) := by decide +kernel
theorem d_X_word_53 : decode b_X_word 53 = .ok (.invokevirtual 56, 3) := by decide +kernel
theorem d_X_word_56 : decode b_X_word 56 = .ok (.aload_n 0, 1) := by decide +kernel
theorem d_X_word_57 : decode b_X_word 57 = .ok (.getfield 19, 3) := by decide +kernel
theorem d_X_word_60 : decode b_X_word 60 = .ok (.getfield 30, 3) := by decide +kernel
theorem d_X_word_63 : decode b_X_word 63 = .ok (.bipush 32, 2) := by decide +kernel
theorem d_X_word_65 : decode b_X_word 65 = .ok (.invokevirtual 40, 3) := by decide +kernel
theorem d_X_word_68 : decode b_X_word 68 = .ok (.aload_n 0, 1) := by decide +kernel
theorem d_X_word_69 : decode b_X_word 69 = .ok (.getfield 19, 3) := by decide +kernel
theorem d_X_word_72 : decode b_X_word 72 = .ok (.iconst 0, 1) := by decide +kernel
theorem d_X_word_73 : decode b_X_word 73 = .ok (.putfield 44, 3) := by decide +kernel
theorem d_X_word_76 : decode b_X_word 76 = .ok (.iconst 1, 1) := by decide +kernel
theorem d_X_word_77 : decode b_X_word 77 = .ok (.ireturn, 1) := by decide +kernel
abbrev b_X_insert : ByteArray := prog_1_method_4_code
def y_X_insert : MethodName := ⟨"ProgramDesk", "insert", "(IC)V"⟩
theorem d_X_insert_0 : decode b_X_insert 0 = .ok (.iload_n 2, 1) := by decide +kernel
theorem d_X_insert_1 : decode b_X_insert 1 = .ok (.invokestatic 26, 3) := by decide +kernel
theorem d_X_insert_4 : decode b_X_insert 4 = .ok (.ifCond .ne 11, 3) := by decide +kernel
theorem d_X_insert_7 : decode b_X_insert 7 = .ok (.new 60, 3) := by decide +kernel
theorem d_X_insert_10 : decode b_X_insert 10 = .ok (.dup, 1) := by decide +kernel
theorem d_X_insert_11 : decode b_X_insert 11 = .ok (.invokespecial 62, 3) := by decide +kernel
theorem d_X_insert_14 : decode b_X_insert 14 = .ok (.athrow, 1) := by decide +kernel
theorem d_X_insert_15 : decode b_X_insert 15 = .ok (.iload_n 1, 1) := by decide +kernel
theorem d_X_insert_16 : decode b_X_insert 16 = .ok (.ifCond .lt 17, 3) := by decide +kernel
theorem d_X_insert_19 : decode b_X_insert 19 = .ok (.iload_n 1, 1) := by decide +kernel
theorem d_X_insert_20 : decode b_X_insert 20 = .ok (.aload_n 0, 1) := by decide +kernel
theorem d_X_insert_21 : decode b_X_insert 21 = .ok (.getfield 19, 3) := by decide +kernel
theorem d_X_insert_24 : decode b_X_insert 24 = .ok (.getfield 30, 3) := by decide +kernel
theorem d_X_insert_27 : decode b_X_insert 27 = .ok (.getfield 34, 3) := by decide +kernel
theorem d_X_insert_30 : decode b_X_insert 30 = .ok (.if_icmp .le 11, 3) := by decide +kernel
theorem d_X_insert_33 : decode b_X_insert 33 = .ok (.new 63, 3) := by decide +kernel
theorem d_X_insert_36 : decode b_X_insert 36 = .ok (.dup, 1) := by decide +kernel
theorem d_X_insert_37 : decode b_X_insert 37 = .ok (.invokespecial 65, 3) := by decide +kernel
theorem d_X_insert_40 : decode b_X_insert 40 = .ok (.athrow, 1) := by decide +kernel
theorem d_X_insert_41 : decode b_X_insert 41 = .ok (.aload_n 0, 1) := by decide +kernel
theorem d_X_insert_42 : decode b_X_insert 42 = .ok (.getfield 19, 3) := by decide +kernel
theorem d_X_insert_45 : decode b_X_insert 45 = .ok (.getfield 30, 3) := by decide +kernel
theorem d_X_insert_48 : decode b_X_insert 48 = .ok (.getfield 34, 3) := by decide +kernel
theorem d_X_insert_51 : decode b_X_insert 51 = .ok (.sipush 240, 3) := by decide +kernel
theorem d_X_insert_54 : decode b_X_insert 54 = .ok (.if_icmp .lt 11, 3) := by decide +kernel
theorem d_X_insert_57 : decode b_X_insert 57 = .ok (.new 66, 3) := by decide +kernel
theorem d_X_insert_60 : decode b_X_insert 60 = .ok (.dup, 1) := by decide +kernel
theorem d_X_insert_61 : decode b_X_insert 61 = .ok (.invokespecial 68, 3) := by decide +kernel
theorem d_X_insert_64 : decode b_X_insert 64 = .ok (.athrow, 1) := by decide +kernel
theorem d_X_insert_65 : decode b_X_insert 65 = .ok (.aload_n 0, 1) := by decide +kernel
theorem d_X_insert_66 : decode b_X_insert 66 = .ok (.getfield 19, 3) := by decide +kernel
theorem d_X_insert_69 : decode b_X_insert 69 = .ok (.getfield 30, 3) := by decide +kernel
theorem d_X_insert_72 : decode b_X_insert 72 = .ok (.iload_n 1, 1) := by decide +kernel
theorem d_X_insert_73 : decode b_X_insert 73 = .ok (.iload_n 2, 1) := by decide +kernel
theorem d_X_insert_74 : decode b_X_insert 74 = .ok (.invokevirtual 69, 3) := by decide +kernel
theorem d_X_insert_77 : decode b_X_insert 77 = .ok (.aload_n 0, 1) := by decide +kernel
theorem d_X_insert_78 : decode b_X_insert 78 = .ok (.getfield 19, 3) := by decide +kernel
theorem d_X_insert_81 : decode b_X_insert 81 = .ok (.iconst 0, 1) := by decide +kernel
theorem d_X_insert_82 : decode b_X_insert 82 = .ok (.putfield 44, 3) := by decide +kernel
theorem d_X_insert_85 : decode b_X_insert 85 = .ok (.return_, 1) := by decide +kernel
abbrev b_X_remove : ByteArray := prog_1_method_5_code
def y_X_remove : MethodName := ⟨"ProgramDesk", "remove", "(II)V"⟩
theorem d_X_remove_0 : decode b_X_remove 0 = .ok (.iload_n 2, 1) := by decide +kernel
theorem d_X_remove_1 : decode b_X_remove 1 = .ok (.ifCond .ge 11, 3) := by decide +kernel
theorem d_X_remove_4 : decode b_X_remove 4 = .ok (.new 60, 3) := by decide +kernel
theorem d_X_remove_7 : decode b_X_remove 7 = .ok (.dup, 1) := by decide +kernel
theorem d_X_remove_8 : decode b_X_remove 8 = .ok (.invokespecial 62, 3) := by decide +kernel
theorem d_X_remove_11 : decode b_X_remove 11 = .ok (.athrow, 1) := by decide +kernel
theorem d_X_remove_12 : decode b_X_remove 12 = .ok (.iload_n 1, 1) := by decide +kernel
theorem d_X_remove_13 : decode b_X_remove 13 = .ok (.ifCond .lt 19, 3) := by decide +kernel
theorem d_X_remove_16 : decode b_X_remove 16 = .ok (.iload_n 2, 1) := by decide +kernel
theorem d_X_remove_17 : decode b_X_remove 17 = .ok (.aload_n 0, 1) := by decide +kernel
theorem d_X_remove_18 : decode b_X_remove 18 = .ok (.getfield 19, 3) := by decide +kernel
theorem d_X_remove_21 : decode b_X_remove 21 = .ok (.getfield 30, 3) := by decide +kernel
theorem d_X_remove_24 : decode b_X_remove 24 = .ok (.getfield 34, 3) := by decide +kernel
theorem d_X_remove_27 : decode b_X_remove 27 = .ok (.iload_n 1, 1) := by decide +kernel
theorem d_X_remove_28 : decode b_X_remove 28 = .ok (.isub, 1) := by decide +kernel
theorem d_X_remove_29 : decode b_X_remove 29 = .ok (.if_icmp .le 11, 3) := by decide +kernel
theorem d_X_remove_32 : decode b_X_remove 32 = .ok (.new 63, 3) := by decide +kernel
theorem d_X_remove_35 : decode b_X_remove 35 = .ok (.dup, 1) := by decide +kernel
theorem d_X_remove_36 : decode b_X_remove 36 = .ok (.invokespecial 65, 3) := by decide +kernel
theorem d_X_remove_39 : decode b_X_remove 39 = .ok (.athrow, 1) := by decide +kernel
theorem d_X_remove_40 : decode b_X_remove 40 = .ok (.aload_n 0, 1) := by decide +kernel
theorem d_X_remove_41 : decode b_X_remove 41 = .ok (.getfield 19, 3) := by decide +kernel
theorem d_X_remove_44 : decode b_X_remove 44 = .ok (.getfield 30, 3) := by decide +kernel
theorem d_X_remove_47 : decode b_X_remove 47 = .ok (.iload_n 1, 1) := by decide +kernel
theorem d_X_remove_48 : decode b_X_remove 48 = .ok (.iload_n 2, 1) := by decide +kernel
theorem d_X_remove_49 : decode b_X_remove 49 = .ok (.invokevirtual 73, 3) := by decide +kernel
theorem d_X_remove_52 : decode b_X_remove 52 = .ok (.aload_n 0, 1) := by decide +kernel
theorem d_X_remove_53 : decode b_X_remove 53 = .ok (.getfield 19, 3) := by decide +kernel
theorem d_X_remove_56 : decode b_X_remove 56 = .ok (.iconst 0, 1) := by decide +kernel
theorem d_X_remove_57 : decode b_X_remove 57 = .ok (.putfield 44, 3) := by decide +kernel
theorem d_X_remove_60 : decode b_X_remove 60 = .ok (.return_, 1) := by decide +kernel
abbrev b_X_length : ByteArray := prog_1_method_6_code
def y_X_length : MethodName := ⟨"ProgramDesk", "length", "()I"⟩
theorem d_X_length_0 : decode b_X_length 0 = .ok (.aload_n 0, 1) := by decide +kernel
theorem d_X_length_1 : decode b_X_length 1 = .ok (.getfield 19, 3) := by decide +kernel
theorem d_X_length_4 : decode b_X_length 4 = .ok (.getfield 30, 3) := by decide +kernel
theorem d_X_length_7 : decode b_X_length 7 = .ok (.getfield 34, 3) := by decide +kernel
theorem d_X_length_10 : decode b_X_length 10 = .ok (.ireturn, 1) := by decide +kernel
abbrev b_X_letter : ByteArray := prog_1_method_7_code
def y_X_letter : MethodName := ⟨"ProgramDesk", "letter", "(I)C"⟩
theorem d_X_letter_0 : decode b_X_letter 0 = .ok (.iload_n 1, 1) := by decide +kernel
theorem d_X_letter_1 : decode b_X_letter 1 = .ok (.ifCond .lt 17, 3) := by decide +kernel
theorem d_X_letter_4 : decode b_X_letter 4 = .ok (.iload_n 1, 1) := by decide +kernel
theorem d_X_letter_5 : decode b_X_letter 5 = .ok (.aload_n 0, 1) := by decide +kernel
theorem d_X_letter_6 : decode b_X_letter 6 = .ok (.getfield 19, 3) := by decide +kernel
theorem d_X_letter_9 : decode b_X_letter 9 = .ok (.getfield 30, 3) := by decide +kernel
theorem d_X_letter_12 : decode b_X_letter 12 = .ok (.getfield 34, 3) := by decide +kernel
theorem d_X_letter_15 : decode b_X_letter 15 = .ok (.if_icmp .lt 11, 3) := by decide +kernel
theorem d_X_letter_18 : decode b_X_letter 18 = .ok (.new 63, 3) := by decide +kernel
theorem d_X_letter_21 : decode b_X_letter 21 = .ok (.dup, 1) := by decide +kernel
theorem d_X_letter_22 : decode b_X_letter 22 = .ok (.invokespecial 65, 3) := by decide +kernel
theorem d_X_letter_25 : decode b_X_letter 25 = .ok (.athrow, 1) := by decide +kernel
theorem d_X_letter_26 : decode b_X_letter 26 = .ok (.aload_n 0, 1) := by decide +kernel
theorem d_X_letter_27 : decode b_X_letter 27 = .ok (.getfield 19, 3) := by decide +kernel
theorem d_X_letter_30 : decode b_X_letter 30 = .ok (.getfield 30, 3) := by decide +kernel
theorem d_X_letter_33 : decode b_X_letter 33 = .ok (.getfield 77, 3) := by decide +kernel
theorem d_X_letter_36 : decode b_X_letter 36 = .ok (.iload_n 1, 1) := by decide +kernel
theorem d_X_letter_37 : decode b_X_letter 37 = .ok (.caload, 1) := by decide +kernel
theorem d_X_letter_38 : decode b_X_letter 38 = .ok (.ireturn, 1) := by decide +kernel
abbrev b_X_tokens : ByteArray := prog_1_method_8_code
def y_X_tokens : MethodName := ⟨"ProgramDesk", "tokens", "()I"⟩
theorem d_X_tokens_0 : decode b_X_tokens 0 = .ok (.aload_n 0, 1) := by decide +kernel
theorem d_X_tokens_1 : decode b_X_tokens 1 = .ok (.getfield 19, 3) := by decide +kernel
theorem d_X_tokens_4 : decode b_X_tokens 4 = .ok (.invokevirtual 81, 3) := by decide +kernel
theorem d_X_tokens_7 : decode b_X_tokens 7 = .ok (.aload_n 0, 1) := by decide +kernel
theorem d_X_tokens_8 : decode b_X_tokens 8 = .ok (.getfield 19, 3) := by decide +kernel
theorem d_X_tokens_11 : decode b_X_tokens 11 = .ok (.getfield 84, 3) := by decide +kernel
theorem d_X_tokens_14 : decode b_X_tokens 14 = .ok (.getfield 88, 3) := by decide +kernel
theorem d_X_tokens_17 : decode b_X_tokens 17 = .ok (.ireturn, 1) := by decide +kernel
abbrev b_X_token : ByteArray := prog_1_method_9_code
def y_X_token : MethodName := ⟨"ProgramDesk", "token", "(II)I"⟩
theorem d_X_token_0 : decode b_X_token 0 = .ok (.iload_n 2, 1) := by decide +kernel
theorem d_X_token_1 : decode b_X_token 1 = .ok (.ifCond .lt 8, 3) := by decide +kernel
theorem d_X_token_4 : decode b_X_token 4 = .ok (.iload_n 2, 1) := by decide +kernel
theorem d_X_token_5 : decode b_X_token 5 = .ok (.iconst 3, 1) := by decide +kernel
theorem d_X_token_6 : decode b_X_token 6 = .ok (.if_icmp .le 11, 3) := by decide +kernel
theorem d_X_token_9 : decode b_X_token 9 = .ok (.new 60, 3) := by decide +kernel
theorem d_X_token_12 : decode b_X_token 12 = .ok (.dup, 1) := by decide +kernel
theorem d_X_token_13 : decode b_X_token 13 = .ok (.invokespecial 62, 3) := by decide +kernel
theorem d_X_token_16 : decode b_X_token 16 = .ok (.athrow, 1) := by decide +kernel
theorem d_X_token_17 : decode b_X_token 17 = .ok (.aload_n 0, 1) := by decide +kernel
theorem d_X_token_18 : decode b_X_token 18 = .ok (.getfield 19, 3) := by decide +kernel
theorem d_X_token_21 : decode b_X_token 21 = .ok (.invokevirtual 81, 3) := by decide +kernel
theorem d_X_token_24 : decode b_X_token 24 = .ok (.iload_n 1, 1) := by decide +kernel
theorem d_X_token_25 : decode b_X_token 25 = .ok (.ifCond .lt 17, 3) := by decide +kernel
theorem d_X_token_28 : decode b_X_token 28 = .ok (.iload_n 1, 1) := by decide +kernel
theorem d_X_token_29 : decode b_X_token 29 = .ok (.aload_n 0, 1) := by decide +kernel
theorem d_X_token_30 : decode b_X_token 30 = .ok (.getfield 19, 3) := by decide +kernel
theorem d_X_token_33 : decode b_X_token 33 = .ok (.getfield 84, 3) := by decide +kernel
theorem d_X_token_36 : decode b_X_token 36 = .ok (.getfield 88, 3) := by decide +kernel
theorem d_X_token_39 : decode b_X_token 39 = .ok (.if_icmp .lt 11, 3) := by decide +kernel
theorem d_X_token_42 : decode b_X_token 42 = .ok (.new 93, 3) := by decide +kernel
theorem d_X_token_45 : decode b_X_token 45 = .ok (.dup, 1) := by decide +kernel
theorem d_X_token_46 : decode b_X_token 46 = .ok (.invokespecial 95, 3) := by decide +kernel
theorem d_X_token_49 : decode b_X_token 49 = .ok (.athrow, 1) := by decide +kernel
theorem d_X_token_50 : decode b_X_token 50 = .ok (.iload_n 2, 1) := by decide +kernel
theorem d_X_token_51 : decode b_X_token 51 = .ok (.tableswitch 64 0 2 #[25, 38, 51], 25) := by decide +kernel
theorem d_X_token_76 : decode b_X_token 76 = .ok (.aload_n 0, 1) := by decide +kernel
theorem d_X_token_77 : decode b_X_token 77 = .ok (.getfield 19, 3) := by decide +kernel
theorem d_X_token_80 : decode b_X_token 80 = .ok (.getfield 84, 3) := by decide +kernel
theorem d_X_token_83 : decode b_X_token 83 = .ok (.getfield 96, 3) := by decide +kernel
theorem d_X_token_86 : decode b_X_token 86 = .ok (.iload_n 1, 1) := by decide +kernel
theorem d_X_token_87 : decode b_X_token 87 = .ok (.iaload, 1) := by decide +kernel
theorem d_X_token_88 : decode b_X_token 88 = .ok (.ireturn, 1) := by decide +kernel
theorem d_X_token_89 : decode b_X_token 89 = .ok (.aload_n 0, 1) := by decide +kernel
theorem d_X_token_90 : decode b_X_token 90 = .ok (.getfield 19, 3) := by decide +kernel
theorem d_X_token_93 : decode b_X_token 93 = .ok (.getfield 84, 3) := by decide +kernel
theorem d_X_token_96 : decode b_X_token 96 = .ok (.getfield 99, 3) := by decide +kernel
theorem d_X_token_99 : decode b_X_token 99 = .ok (.iload_n 1, 1) := by decide +kernel
theorem d_X_token_100 : decode b_X_token 100 = .ok (.iaload, 1) := by decide +kernel
theorem d_X_token_101 : decode b_X_token 101 = .ok (.ireturn, 1) := by decide +kernel
theorem d_X_token_102 : decode b_X_token 102 = .ok (.aload_n 0, 1) := by decide +kernel
theorem d_X_token_103 : decode b_X_token 103 = .ok (.getfield 19, 3) := by decide +kernel
theorem d_X_token_106 : decode b_X_token 106 = .ok (.getfield 84, 3) := by decide +kernel
theorem d_X_token_109 : decode b_X_token 109 = .ok (.getfield 102, 3) := by decide +kernel
theorem d_X_token_112 : decode b_X_token 112 = .ok (.iload_n 1, 1) := by decide +kernel
theorem d_X_token_113 : decode b_X_token 113 = .ok (.iaload, 1) := by decide +kernel
theorem d_X_token_114 : decode b_X_token 114 = .ok (.ireturn, 1) := by decide +kernel
theorem d_X_token_115 : decode b_X_token 115 = .ok (.aload_n 0, 1) := by decide +kernel
theorem d_X_token_116 : decode b_X_token 116 = .ok (.getfield 19, 3) := by decide +kernel
theorem d_X_token_119 : decode b_X_token 119 = .ok (.getfield 105, 3) := by decide +kernel
theorem d_X_token_122 : decode b_X_token 122 = .ok (.getfield 109, 3) := by decide +kernel
theorem d_X_token_125 : decode b_X_token 125 = .ok (.iload_n 1, 1) := by decide +kernel
theorem d_X_token_126 : decode b_X_token 126 = .ok (.iaload, 1) := by decide +kernel
theorem d_X_token_127 : decode b_X_token 127 = .ok (.ireturn, 1) := by decide +kernel
abbrev b_X_faults : ByteArray := prog_1_method_10_code
def y_X_faults : MethodName := ⟨"ProgramDesk", "faults", "()I"⟩
theorem d_X_faults_0 : decode b_X_faults 0 = .ok (.aload_n 0, 1) := by decide +kernel
theorem d_X_faults_1 : decode b_X_faults 1 = .ok (.getfield 19, 3) := by decide +kernel
theorem d_X_faults_4 : decode b_X_faults 4 = .ok (.invokevirtual 81, 3) := by decide +kernel
theorem d_X_faults_7 : decode b_X_faults 7 = .ok (.aload_n 0, 1) := by decide +kernel
theorem d_X_faults_8 : decode b_X_faults 8 = .ok (.getfield 19, 3) := by decide +kernel
theorem d_X_faults_11 : decode b_X_faults 11 = .ok (.getfield 114, 3) := by decide +kernel
theorem d_X_faults_14 : decode b_X_faults 14 = .ok (.ireturn, 1) := by decide +kernel
abbrev b_X_fault : ByteArray := prog_1_method_11_code
def y_X_fault : MethodName := ⟨"ProgramDesk", "fault", "(I)I"⟩
theorem d_X_fault_0 : decode b_X_fault 0 = .ok (.aload_n 0, 1) := by decide +kernel
theorem d_X_fault_1 : decode b_X_fault 1 = .ok (.getfield 19, 3) := by decide +kernel
theorem d_X_fault_4 : decode b_X_fault 4 = .ok (.invokevirtual 81, 3) := by decide +kernel
theorem d_X_fault_7 : decode b_X_fault 7 = .ok (.iload_n 1, 1) := by decide +kernel
theorem d_X_fault_8 : decode b_X_fault 8 = .ok (.ifCond .lt 14, 3) := by decide +kernel
theorem d_X_fault_11 : decode b_X_fault 11 = .ok (.iload_n 1, 1) := by decide +kernel
theorem d_X_fault_12 : decode b_X_fault 12 = .ok (.aload_n 0, 1) := by decide +kernel
theorem d_X_fault_13 : decode b_X_fault 13 = .ok (.getfield 19, 3) := by decide +kernel
theorem d_X_fault_16 : decode b_X_fault 16 = .ok (.getfield 114, 3) := by decide +kernel
theorem d_X_fault_19 : decode b_X_fault 19 = .ok (.if_icmp .lt 11, 3) := by decide +kernel
theorem d_X_fault_22 : decode b_X_fault 22 = .ok (.new 93, 3) := by decide +kernel
theorem d_X_fault_25 : decode b_X_fault 25 = .ok (.dup, 1) := by decide +kernel
theorem d_X_fault_26 : decode b_X_fault 26 = .ok (.invokespecial 95, 3) := by decide +kernel
theorem d_X_fault_29 : decode b_X_fault 29 = .ok (.athrow, 1) := by decide +kernel
theorem d_X_fault_30 : decode b_X_fault 30 = .ok (.aload_n 0, 1) := by decide +kernel
theorem d_X_fault_31 : decode b_X_fault 31 = .ok (.getfield 19, 3) := by decide +kernel
theorem d_X_fault_34 : decode b_X_fault 34 = .ok (.getfield 117, 3) := by decide +kernel
theorem d_X_fault_37 : decode b_X_fault 37 = .ok (.iload_n 1, 1) := by decide +kernel
theorem d_X_fault_38 : decode b_X_fault 38 = .ok (.iaload, 1) := by decide +kernel
theorem d_X_fault_39 : decode b_X_fault 39 = .ok (.ireturn, 1) := by decide +kernel
abbrev b_X_reference : ByteArray := prog_1_method_12_code
def y_X_reference : MethodName := ⟨"ProgramDesk", "reference", "(II)I"⟩
theorem d_X_reference_0 : decode b_X_reference 0 = .ok (.aload_n 0, 1) := by decide +kernel
theorem d_X_reference_1 : decode b_X_reference 1 = .ok (.getfield 19, 3) := by decide +kernel
theorem d_X_reference_4 : decode b_X_reference 4 = .ok (.invokevirtual 81, 3) := by decide +kernel
theorem d_X_reference_7 : decode b_X_reference 7 = .ok (.aload_n 0, 1) := by decide +kernel
theorem d_X_reference_8 : decode b_X_reference 8 = .ok (.getfield 19, 3) := by decide +kernel
theorem d_X_reference_11 : decode b_X_reference 11 = .ok (.iload_n 1, 1) := by decide +kernel
theorem d_X_reference_12 : decode b_X_reference 12 = .ok (.invokevirtual 120, 3) := by decide +kernel
theorem d_X_reference_15 : decode b_X_reference 15 = .ok (.istore_n 3, 1) := by decide +kernel
theorem d_X_reference_16 : decode b_X_reference 16 = .ok (.iload_n 3, 1) := by decide +kernel
theorem d_X_reference_17 : decode b_X_reference 17 = .ok (.iconst (-1), 1) := by decide +kernel
theorem d_X_reference_18 : decode b_X_reference 18 = .ok (.if_icmp .eq 7, 3) := by decide +kernel
theorem d_X_reference_21 : decode b_X_reference 21 = .ok (.iload_n 2, 1) := by decide +kernel
theorem d_X_reference_22 : decode b_X_reference 22 = .ok (.ifCond .ge 11, 3) := by decide +kernel
theorem d_X_reference_25 : decode b_X_reference 25 = .ok (.new 93, 3) := by decide +kernel
theorem d_X_reference_28 : decode b_X_reference 28 = .ok (.dup, 1) := by decide +kernel
theorem d_X_reference_29 : decode b_X_reference 29 = .ok (.invokespecial 95, 3) := by decide +kernel
theorem d_X_reference_32 : decode b_X_reference 32 = .ok (.athrow, 1) := by decide +kernel
theorem d_X_reference_33 : decode b_X_reference 33 = .ok (.iconst 0, 1) := by decide +kernel
theorem d_X_reference_34 : decode b_X_reference 34 = .ok (.istore 4, 2) := by decide +kernel
theorem d_X_reference_36 : decode b_X_reference 36 = .ok (.iconst 0, 1) := by decide +kernel
theorem d_X_reference_37 : decode b_X_reference 37 = .ok (.istore 5, 2) := by decide +kernel
theorem d_X_reference_39 : decode b_X_reference 39 = .ok (.iload 5, 2) := by decide +kernel
theorem d_X_reference_41 : decode b_X_reference 41 = .ok (.aload_n 0, 1) := by decide +kernel
theorem d_X_reference_42 : decode b_X_reference 42 = .ok (.getfield 19, 3) := by decide +kernel
theorem d_X_reference_45 : decode b_X_reference 45 = .ok (.getfield 84, 3) := by decide +kernel
theorem d_X_reference_48 : decode b_X_reference 48 = .ok (.getfield 88, 3) := by decide +kernel
theorem d_X_reference_51 : decode b_X_reference 51 = .ok (.if_icmp .ge 49, 3) := by decide +kernel
theorem d_X_reference_54 : decode b_X_reference 54 = .ok (.aload_n 0, 1) := by decide +kernel
theorem d_X_reference_55 : decode b_X_reference 55 = .ok (.getfield 19, 3) := by decide +kernel
theorem d_X_reference_58 : decode b_X_reference 58 = .ok (.getfield 105, 3) := by decide +kernel
theorem d_X_reference_61 : decode b_X_reference 61 = .ok (.getfield 109, 3) := by decide +kernel
theorem d_X_reference_64 : decode b_X_reference 64 = .ok (.iload 5, 2) := by decide +kernel
theorem d_X_reference_66 : decode b_X_reference 66 = .ok (.iaload, 1) := by decide +kernel
theorem d_X_reference_67 : decode b_X_reference 67 = .ok (.iload_n 3, 1) := by decide +kernel
theorem d_X_reference_68 : decode b_X_reference 68 = .ok (.if_icmp .ne 26, 3) := by decide +kernel
theorem d_X_reference_71 : decode b_X_reference 71 = .ok (.iload 4, 2) := by decide +kernel
theorem d_X_reference_73 : decode b_X_reference 73 = .ok (.iload_n 2, 1) := by decide +kernel
theorem d_X_reference_74 : decode b_X_reference 74 = .ok (.if_icmp .ne 17, 3) := by decide +kernel
theorem d_X_reference_77 : decode b_X_reference 77 = .ok (.aload_n 0, 1) := by decide +kernel
theorem d_X_reference_78 : decode b_X_reference 78 = .ok (.getfield 19, 3) := by decide +kernel
theorem d_X_reference_81 : decode b_X_reference 81 = .ok (.getfield 84, 3) := by decide +kernel
theorem d_X_reference_84 : decode b_X_reference 84 = .ok (.getfield 99, 3) := by decide +kernel
theorem d_X_reference_87 : decode b_X_reference 87 = .ok (.iload 5, 2) := by decide +kernel
theorem d_X_reference_89 : decode b_X_reference 89 = .ok (.iaload, 1) := by decide +kernel
theorem d_X_reference_90 : decode b_X_reference 90 = .ok (.ireturn, 1) := by decide +kernel
theorem d_X_reference_91 : decode b_X_reference 91 = .ok (.iinc 4 1, 3) := by decide +kernel
theorem d_X_reference_94 : decode b_X_reference 94 = .ok (.iinc 5 1, 3) := by decide +kernel
theorem d_X_reference_97 : decode b_X_reference 97 = .ok (.goto (-58), 3) := by decide +kernel
theorem d_X_reference_100 : decode b_X_reference 100 = .ok (.iconst (-1), 1) := by decide +kernel
theorem d_X_reference_101 : decode b_X_reference 101 = .ok (.ireturn, 1) := by decide +kernel
abbrev b_X_rename : ByteArray := prog_1_method_13_code
def y_X_rename : MethodName := ⟨"ProgramDesk", "rename", "(IJ)I"⟩
theorem d_X_rename_0 : decode b_X_rename 0 = .ok (.lload_n 2, 1) := by decide +kernel
theorem d_X_rename_1 : decode b_X_rename 1 = .ok (.invokestatic 123, 3) := by decide +kernel
theorem d_X_rename_4 : decode b_X_rename 4 = .ok (.ifCond .ne 11, 3) := by decide +kernel
theorem d_X_rename_7 : decode b_X_rename 7 = .ok (.new 60, 3) := by decide +kernel
theorem d_X_rename_10 : decode b_X_rename 10 = .ok (.dup, 1) := by decide +kernel
theorem d_X_rename_11 : decode b_X_rename 11 = .ok (.invokespecial 62, 3) := by decide +kernel
theorem d_X_rename_14 : decode b_X_rename 14 = .ok (.athrow, 1) := by decide +kernel
theorem d_X_rename_15 : decode b_X_rename 15 = .ok (.aload_n 0, 1) := by decide +kernel
theorem d_X_rename_16 : decode b_X_rename 16 = .ok (.getfield 19, 3) := by decide +kernel
theorem d_X_rename_19 : decode b_X_rename 19 = .ok (.invokevirtual 81, 3) := by decide +kernel
theorem d_X_rename_22 : decode b_X_rename 22 = .ok (.aload_n 0, 1) := by decide +kernel
theorem d_X_rename_23 : decode b_X_rename 23 = .ok (.getfield 19, 3) := by decide +kernel
theorem d_X_rename_26 : decode b_X_rename 26 = .ok (.getfield 114, 3) := by decide +kernel
theorem d_X_rename_29 : decode b_X_rename 29 = .ok (.ifCond .le 11, 3) := by decide +kernel
theorem d_X_rename_32 : decode b_X_rename 32 = .ok (.new 66, 3) := by decide +kernel
theorem d_X_rename_35 : decode b_X_rename 35 = .ok (.dup, 1) := by decide +kernel
theorem d_X_rename_36 : decode b_X_rename 36 = .ok (.invokespecial 68, 3) := by decide +kernel
theorem d_X_rename_39 : decode b_X_rename 39 = .ok (.athrow, 1) := by decide +kernel
theorem d_X_rename_40 : decode b_X_rename 40 = .ok (.aload_n 0, 1) := by decide +kernel
theorem d_X_rename_41 : decode b_X_rename 41 = .ok (.getfield 19, 3) := by decide +kernel
theorem d_X_rename_44 : decode b_X_rename 44 = .ok (.iload_n 1, 1) := by decide +kernel
theorem d_X_rename_45 : decode b_X_rename 45 = .ok (.invokevirtual 120, 3) := by decide +kernel
theorem d_X_rename_48 : decode b_X_rename 48 = .ok (.istore 4, 2) := by decide +kernel
theorem d_X_rename_50 : decode b_X_rename 50 = .ok (.iload 4, 2) := by decide +kernel
theorem d_X_rename_52 : decode b_X_rename 52 = .ok (.iconst (-1), 1) := by decide +kernel
theorem d_X_rename_53 : decode b_X_rename 53 = .ok (.if_icmp .ne 11, 3) := by decide +kernel
theorem d_X_rename_56 : decode b_X_rename 56 = .ok (.new 93, 3) := by decide +kernel
theorem d_X_rename_59 : decode b_X_rename 59 = .ok (.dup, 1) := by decide +kernel
theorem d_X_rename_60 : decode b_X_rename 60 = .ok (.invokespecial 95, 3) := by decide +kernel
theorem d_X_rename_63 : decode b_X_rename 63 = .ok (.athrow, 1) := by decide +kernel
theorem d_X_rename_64 : decode b_X_rename 64 = .ok (.aload_n 0, 1) := by decide +kernel
theorem d_X_rename_65 : decode b_X_rename 65 = .ok (.getfield 19, 3) := by decide +kernel
theorem d_X_rename_68 : decode b_X_rename 68 = .ok (.iload 4, 2) := by decide +kernel
theorem d_X_rename_70 : decode b_X_rename 70 = .ok (.invokevirtual 127, 3) := by decide +kernel
theorem d_X_rename_73 : decode b_X_rename 73 = .ok (.istore 5, 2) := by decide +kernel
theorem d_X_rename_75 : decode b_X_rename 75 = .ok (.lload_n 2, 1) := by decide +kernel
theorem d_X_rename_76 : decode b_X_rename 76 = .ok (.l2i, 1) := by decide +kernel
theorem d_X_rename_77 : decode b_X_rename 77 = .ok (.invokestatic 52, 3) := by decide +kernel
theorem d_X_rename_80 : decode b_X_rename 80 = .ok (.aload_n 0, 1) := by decide +kernel
theorem d_X_rename_81 : decode b_X_rename 81 = .ok (.getfield 19, 3) := by decide +kernel
theorem d_X_rename_84 : decode b_X_rename 84 = .ok (.getfield 84, 3) := by decide +kernel
theorem d_X_rename_87 : decode b_X_rename 87 = .ok (.getfield 130, 3) := by decide +kernel
theorem d_X_rename_90 : decode b_X_rename 90 = .ok (.iload 4, 2) := by decide +kernel
theorem d_X_rename_92 : decode b_X_rename 92 = .ok (.iaload, 1) := by decide +kernel
theorem d_X_rename_93 : decode b_X_rename 93 = .ok (.invokestatic 52, 3) := by decide +kernel
theorem d_X_rename_96 : decode b_X_rename 96 = .ok (.isub, 1) := by decide +kernel
theorem d_X_rename_97 : decode b_X_rename 97 = .ok (.istore 6, 2) := by decide +kernel
theorem d_X_rename_99 : decode b_X_rename 99 = .ok (.aload_n 0, 1) := by decide +kernel
theorem d_X_rename_100 : decode b_X_rename 100 = .ok (.getfield 19, 3) := by decide +kernel
theorem d_X_rename_103 : decode b_X_rename 103 = .ok (.getfield 30, 3) := by decide +kernel
theorem d_X_rename_106 : decode b_X_rename 106 = .ok (.getfield 34, 3) := by decide +kernel
theorem d_X_rename_109 : decode b_X_rename 109 = .ok (.iload 5, 2) := by decide +kernel
theorem d_X_rename_111 : decode b_X_rename 111 = .ok (.iload 6, 2) := by decide +kernel
theorem d_X_rename_113 : decode b_X_rename 113 = .ok (.imul, 1) := by decide +kernel
theorem d_X_rename_114 : decode b_X_rename 114 = .ok (.iadd, 1) := by decide +kernel
theorem d_X_rename_115 : decode b_X_rename 115 = .ok (.sipush 240, 3) := by decide +kernel
theorem d_X_rename_118 : decode b_X_rename 118 = .ok (.if_icmp .le 11, 3) := by decide +kernel
theorem d_X_rename_121 : decode b_X_rename 121 = .ok (.new 66, 3) := by decide +kernel
theorem d_X_rename_124 : decode b_X_rename 124 = .ok (.dup, 1) := by decide +kernel
theorem d_X_rename_125 : decode b_X_rename 125 = .ok (.invokespecial 68, 3) := by decide +kernel
theorem d_X_rename_128 : decode b_X_rename 128 = .ok (.athrow, 1) := by decide +kernel
theorem d_X_rename_129 : decode b_X_rename 129 = .ok (.aload_n 0, 1) := by decide +kernel
theorem d_X_rename_130 : decode b_X_rename 130 = .ok (.getfield 23, 3) := by decide +kernel
theorem d_X_rename_133 : decode b_X_rename 133 = .ok (.aload_n 0, 1) := by decide +kernel
theorem d_X_rename_134 : decode b_X_rename 134 = .ok (.getfield 19, 3) := by decide +kernel
theorem d_X_rename_137 : decode b_X_rename 137 = .ok (.iload 4, 2) := by decide +kernel
theorem d_X_rename_139 : decode b_X_rename 139 = .ok (.lload_n 2, 1) := by decide +kernel
theorem d_X_rename_140 : decode b_X_rename 140 = .ok (.l2i, 1) := by decide +kernel
theorem d_X_rename_141 : decode b_X_rename 141 = .ok (.invokevirtual 133, 3) := by decide +kernel
theorem d_X_rename_144 : decode b_X_rename 144 = .ok (.aload_n 0, 1) := by decide +kernel
theorem d_X_rename_145 : decode b_X_rename 145 = .ok (.getfield 23, 3) := by decide +kernel
theorem d_X_rename_148 : decode b_X_rename 148 = .ok (.invokevirtual 81, 3) := by decide +kernel
theorem d_X_rename_151 : decode b_X_rename 151 = .ok (.aload_n 0, 1) := by decide +kernel
theorem d_X_rename_152 : decode b_X_rename 152 = .ok (.getfield 23, 3) := by decide +kernel
theorem d_X_rename_155 : decode b_X_rename 155 = .ok (.getfield 114, 3) := by decide +kernel
theorem d_X_rename_158 : decode b_X_rename 158 = .ok (.ifCond .gt 17, 3) := by decide +kernel
theorem d_X_rename_161 : decode b_X_rename 161 = .ok (.aload_n 0, 1) := by decide +kernel
theorem d_X_rename_162 : decode b_X_rename 162 = .ok (.getfield 23, 3) := by decide +kernel
theorem d_X_rename_165 : decode b_X_rename 165 = .ok (.aload_n 0, 1) := by decide +kernel
theorem d_X_rename_166 : decode b_X_rename 166 = .ok (.getfield 19, 3) := by decide +kernel
theorem d_X_rename_169 : decode b_X_rename 169 = .ok (.invokevirtual 137, 3) := by decide +kernel
theorem d_X_rename_172 : decode b_X_rename 172 = .ok (.ifCond .ne 11, 3) := by decide +kernel
theorem d_X_rename_175 : decode b_X_rename 175 = .ok (.new 141, 3) := by decide +kernel
theorem d_X_rename_178 : decode b_X_rename 178 = .ok (.dup, 1) := by decide +kernel
theorem d_X_rename_179 : decode b_X_rename 179 = .ok (.invokespecial 143, 3) := by decide +kernel
theorem d_X_rename_182 : decode b_X_rename 182 = .ok (.athrow, 1) := by decide +kernel
theorem d_X_rename_183 : decode b_X_rename 183 = .ok (.aload_n 0, 1) := by decide +kernel
theorem d_X_rename_184 : decode b_X_rename 184 = .ok (.invokevirtual 144, 3) := by decide +kernel
theorem d_X_rename_187 : decode b_X_rename 187 = .ok (.iload 5, 2) := by decide +kernel
theorem d_X_rename_189 : decode b_X_rename 189 = .ok (.ireturn, 1) := by decide +kernel
abbrev b_X_inline : ByteArray := prog_1_method_14_code
def y_X_inline : MethodName := ⟨"ProgramDesk", "inline", "(I)I"⟩
theorem d_X_inline_0 : decode b_X_inline 0 = .ok (.aload_n 0, 1) := by decide +kernel
theorem d_X_inline_1 : decode b_X_inline 1 = .ok (.getfield 19, 3) := by decide +kernel
theorem d_X_inline_4 : decode b_X_inline 4 = .ok (.invokevirtual 81, 3) := by decide +kernel
theorem d_X_inline_7 : decode b_X_inline 7 = .ok (.aload_n 0, 1) := by decide +kernel
theorem d_X_inline_8 : decode b_X_inline 8 = .ok (.getfield 19, 3) := by decide +kernel
theorem d_X_inline_11 : decode b_X_inline 11 = .ok (.getfield 114, 3) := by decide +kernel
theorem d_X_inline_14 : decode b_X_inline 14 = .ok (.ifCond .le 11, 3) := by decide +kernel
theorem d_X_inline_17 : decode b_X_inline 17 = .ok (.new 66, 3) := by decide +kernel
theorem d_X_inline_20 : decode b_X_inline 20 = .ok (.dup, 1) := by decide +kernel
theorem d_X_inline_21 : decode b_X_inline 21 = .ok (.invokespecial 68, 3) := by decide +kernel
theorem d_X_inline_24 : decode b_X_inline 24 = .ok (.athrow, 1) := by decide +kernel
theorem d_X_inline_25 : decode b_X_inline 25 = .ok (.aload_n 0, 1) := by decide +kernel
theorem d_X_inline_26 : decode b_X_inline 26 = .ok (.getfield 19, 3) := by decide +kernel
theorem d_X_inline_29 : decode b_X_inline 29 = .ok (.iload_n 1, 1) := by decide +kernel
theorem d_X_inline_30 : decode b_X_inline 30 = .ok (.invokevirtual 120, 3) := by decide +kernel
theorem d_X_inline_33 : decode b_X_inline 33 = .ok (.istore_n 2, 1) := by decide +kernel
theorem d_X_inline_34 : decode b_X_inline 34 = .ok (.iload_n 2, 1) := by decide +kernel
theorem d_X_inline_35 : decode b_X_inline 35 = .ok (.iconst (-1), 1) := by decide +kernel
theorem d_X_inline_36 : decode b_X_inline 36 = .ok (.if_icmp .eq 19, 3) := by decide +kernel
theorem d_X_inline_39 : decode b_X_inline 39 = .ok (.aload_n 0, 1) := by decide +kernel
theorem d_X_inline_40 : decode b_X_inline 40 = .ok (.getfield 19, 3) := by decide +kernel
theorem d_X_inline_43 : decode b_X_inline 43 = .ok (.getfield 105, 3) := by decide +kernel
theorem d_X_inline_46 : decode b_X_inline 46 = .ok (.getfield 147, 3) := by decide +kernel
theorem d_X_inline_49 : decode b_X_inline 49 = .ok (.iload_n 2, 1) := by decide +kernel
theorem d_X_inline_50 : decode b_X_inline 50 = .ok (.iaload, 1) := by decide +kernel
theorem d_X_inline_51 : decode b_X_inline 51 = .ok (.iconst 3, 1) := by decide +kernel
theorem d_X_inline_52 : decode b_X_inline 52 = .ok (.if_icmp .eq 11, 3) := by decide +kernel
theorem d_X_inline_55 : decode b_X_inline 55 = .ok (.new 93, 3) := by decide +kernel
theorem d_X_inline_58 : decode b_X_inline 58 = .ok (.dup, 1) := by decide +kernel
theorem d_X_inline_59 : decode b_X_inline 59 = .ok (.invokespecial 95, 3) := by decide +kernel
theorem d_X_inline_62 : decode b_X_inline 62 = .ok (.athrow, 1) := by decide +kernel
theorem d_X_inline_63 : decode b_X_inline 63 = .ok (.aload_n 0, 1) := by decide +kernel
theorem d_X_inline_64 : decode b_X_inline 64 = .ok (.getfield 19, 3) := by decide +kernel
theorem d_X_inline_67 : decode b_X_inline 67 = .ok (.getfield 105, 3) := by decide +kernel
theorem d_X_inline_70 : decode b_X_inline 70 = .ok (.iload_n 2, 1) := by decide +kernel
theorem d_X_inline_71 : decode b_X_inline 71 = .ok (.invokevirtual 150, 3) := by decide +kernel
theorem d_X_inline_74 : decode b_X_inline 74 = .ok (.ifCond .ne 31, 3) := by decide +kernel
theorem d_X_inline_77 : decode b_X_inline 77 = .ok (.aload_n 0, 1) := by decide +kernel
theorem d_X_inline_78 : decode b_X_inline 78 = .ok (.getfield 19, 3) := by decide +kernel
theorem d_X_inline_81 : decode b_X_inline 81 = .ok (.getfield 105, 3) := by decide +kernel
theorem d_X_inline_84 : decode b_X_inline 84 = .ok (.iload_n 2, 1) := by decide +kernel
theorem d_X_inline_85 : decode b_X_inline 85 = .ok (.invokevirtual 154, 3) := by decide +kernel
theorem d_X_inline_88 : decode b_X_inline 88 = .ok (.ifCond .ne 17, 3) := by decide +kernel
theorem d_X_inline_91 : decode b_X_inline 91 = .ok (.aload_n 0, 1) := by decide +kernel
theorem d_X_inline_92 : decode b_X_inline 92 = .ok (.getfield 19, 3) := by decide +kernel
theorem d_X_inline_95 : decode b_X_inline 95 = .ok (.getfield 105, 3) := by decide +kernel
theorem d_X_inline_98 : decode b_X_inline 98 = .ok (.iload_n 2, 1) := by decide +kernel
theorem d_X_inline_99 : decode b_X_inline 99 = .ok (.invokevirtual 157, 3) := by decide +kernel
theorem d_X_inline_102 : decode b_X_inline 102 = .ok (.ifCond .eq 11, 3) := by decide +kernel
theorem d_X_inline_105 : decode b_X_inline 105 = .ok (.new 141, 3) := by decide +kernel
theorem d_X_inline_108 : decode b_X_inline 108 = .ok (.dup, 1) := by decide +kernel
theorem d_X_inline_109 : decode b_X_inline 109 = .ok (.invokespecial 143, 3) := by decide +kernel
theorem d_X_inline_112 : decode b_X_inline 112 = .ok (.athrow, 1) := by decide +kernel
theorem d_X_inline_113 : decode b_X_inline 113 = .ok (.aload_n 0, 1) := by decide +kernel
theorem d_X_inline_114 : decode b_X_inline 114 = .ok (.getfield 19, 3) := by decide +kernel
theorem d_X_inline_117 : decode b_X_inline 117 = .ok (.iload_n 2, 1) := by decide +kernel
theorem d_X_inline_118 : decode b_X_inline 118 = .ok (.invokevirtual 127, 3) := by decide +kernel
theorem d_X_inline_121 : decode b_X_inline 121 = .ok (.iconst 1, 1) := by decide +kernel
theorem d_X_inline_122 : decode b_X_inline 122 = .ok (.isub, 1) := by decide +kernel
theorem d_X_inline_123 : decode b_X_inline 123 = .ok (.istore_n 3, 1) := by decide +kernel
theorem d_X_inline_124 : decode b_X_inline 124 = .ok (.aload_n 0, 1) := by decide +kernel
theorem d_X_inline_125 : decode b_X_inline 125 = .ok (.getfield 19, 3) := by decide +kernel
theorem d_X_inline_128 : decode b_X_inline 128 = .ok (.iload_n 2, 1) := by decide +kernel
theorem d_X_inline_129 : decode b_X_inline 129 = .ok (.iload_n 3, 1) := by decide +kernel
theorem d_X_inline_130 : decode b_X_inline 130 = .ok (.invokevirtual 160, 3) := by decide +kernel
theorem d_X_inline_133 : decode b_X_inline 133 = .ok (.sipush 240, 3) := by decide +kernel
theorem d_X_inline_136 : decode b_X_inline 136 = .ok (.if_icmp .le 11, 3) := by decide +kernel
theorem d_X_inline_139 : decode b_X_inline 139 = .ok (.new 66, 3) := by decide +kernel
theorem d_X_inline_142 : decode b_X_inline 142 = .ok (.dup, 1) := by decide +kernel
theorem d_X_inline_143 : decode b_X_inline 143 = .ok (.invokespecial 68, 3) := by decide +kernel
theorem d_X_inline_146 : decode b_X_inline 146 = .ok (.athrow, 1) := by decide +kernel
theorem d_X_inline_147 : decode b_X_inline 147 = .ok (.aload_n 0, 1) := by decide +kernel
theorem d_X_inline_148 : decode b_X_inline 148 = .ok (.getfield 23, 3) := by decide +kernel
theorem d_X_inline_151 : decode b_X_inline 151 = .ok (.aload_n 0, 1) := by decide +kernel
theorem d_X_inline_152 : decode b_X_inline 152 = .ok (.getfield 19, 3) := by decide +kernel
theorem d_X_inline_155 : decode b_X_inline 155 = .ok (.iload_n 2, 1) := by decide +kernel
theorem d_X_inline_156 : decode b_X_inline 156 = .ok (.invokevirtual 164, 3) := by decide +kernel
theorem d_X_inline_159 : decode b_X_inline 159 = .ok (.aload_n 0, 1) := by decide +kernel
theorem d_X_inline_160 : decode b_X_inline 160 = .ok (.getfield 23, 3) := by decide +kernel
theorem d_X_inline_163 : decode b_X_inline 163 = .ok (.invokevirtual 81, 3) := by decide +kernel
theorem d_X_inline_166 : decode b_X_inline 166 = .ok (.aload_n 0, 1) := by decide +kernel
theorem d_X_inline_167 : decode b_X_inline 167 = .ok (.getfield 23, 3) := by decide +kernel
theorem d_X_inline_170 : decode b_X_inline 170 = .ok (.getfield 114, 3) := by decide +kernel
theorem d_X_inline_173 : decode b_X_inline 173 = .ok (.ifCond .le 11, 3) := by decide +kernel
theorem d_X_inline_176 : decode b_X_inline 176 = .ok (.new 141, 3) := by decide +kernel
theorem d_X_inline_179 : decode b_X_inline 179 = .ok (.dup, 1) := by decide +kernel
theorem d_X_inline_180 : decode b_X_inline 180 = .ok (.invokespecial 143, 3) := by decide +kernel
theorem d_X_inline_183 : decode b_X_inline 183 = .ok (.athrow, 1) := by decide +kernel
theorem d_X_inline_184 : decode b_X_inline 184 = .ok (.aload_n 0, 1) := by decide +kernel
theorem d_X_inline_185 : decode b_X_inline 185 = .ok (.invokevirtual 144, 3) := by decide +kernel
theorem d_X_inline_188 : decode b_X_inline 188 = .ok (.iload_n 3, 1) := by decide +kernel
theorem d_X_inline_189 : decode b_X_inline 189 = .ok (.ireturn, 1) := by decide +kernel
abbrev b_X_run : ByteArray := prog_1_method_15_code
def y_X_run : MethodName := ⟨"ProgramDesk", "run", "(I)I"⟩
theorem d_X_run_0 : decode b_X_run 0 = .ok (.aload_n 0, 1) := by decide +kernel
theorem d_X_run_1 : decode b_X_run 1 = .ok (.getfield 19, 3) := by decide +kernel
theorem d_X_run_4 : decode b_X_run 4 = .ok (.invokevirtual 81, 3) := by decide +kernel
theorem d_X_run_7 : decode b_X_run 7 = .ok (.aload_n 0, 1) := by decide +kernel
theorem d_X_run_8 : decode b_X_run 8 = .ok (.getfield 19, 3) := by decide +kernel
theorem d_X_run_11 : decode b_X_run 11 = .ok (.getfield 114, 3) := by decide +kernel
theorem d_X_run_14 : decode b_X_run 14 = .ok (.ifCond .le 11, 3) := by decide +kernel
theorem d_X_run_17 : decode b_X_run 17 = .ok (.new 66, 3) := by decide +kernel
theorem d_X_run_20 : decode b_X_run 20 = .ok (.dup, 1) := by decide +kernel
theorem d_X_run_21 : decode b_X_run 21 = .ok (.invokespecial 68, 3) := by decide +kernel
theorem d_X_run_24 : decode b_X_run 24 = .ok (.athrow, 1) := by decide +kernel
theorem d_X_run_25 : decode b_X_run 25 = .ok (.aload_n 0, 1) := by decide +kernel
theorem d_X_run_26 : decode b_X_run 26 = .ok (.getfield 19, 3) := by decide +kernel
theorem d_X_run_29 : decode b_X_run 29 = .ok (.getfield 168, 3) := by decide +kernel
theorem d_X_run_32 : decode b_X_run 32 = .ok (.getstatic 48, 3) := by decide +kernel
theorem d_X_run_35 : decode b_X_run 35 = .ok (.bipush 6, 2) := by decide +kernel
theorem d_X_run_37 : decode b_X_run 37 = .ok (.iaload, 1) := by decide +kernel
theorem d_X_run_38 : decode b_X_run 38 = .ok (.invokevirtual 172, 3) := by decide +kernel
theorem d_X_run_41 : decode b_X_run 41 = .ok (.istore_n 2, 1) := by decide +kernel
theorem d_X_run_42 : decode b_X_run 42 = .ok (.iload_n 2, 1) := by decide +kernel
theorem d_X_run_43 : decode b_X_run 43 = .ok (.iconst (-1), 1) := by decide +kernel
theorem d_X_run_44 : decode b_X_run 44 = .ok (.if_icmp .ne 11, 3) := by decide +kernel
theorem d_X_run_47 : decode b_X_run 47 = .ok (.new 93, 3) := by decide +kernel
theorem d_X_run_50 : decode b_X_run 50 = .ok (.dup, 1) := by decide +kernel
theorem d_X_run_51 : decode b_X_run 51 = .ok (.invokespecial 95, 3) := by decide +kernel
theorem d_X_run_54 : decode b_X_run 54 = .ok (.athrow, 1) := by decide +kernel
theorem d_X_run_55 : decode b_X_run 55 = .ok (.aload_n 0, 1) := by decide +kernel
theorem d_X_run_56 : decode b_X_run 56 = .ok (.getfield 10, 3) := by decide +kernel
theorem d_X_run_59 : decode b_X_run 59 = .ok (.aload_n 0, 1) := by decide +kernel
theorem d_X_run_60 : decode b_X_run 60 = .ok (.getfield 19, 3) := by decide +kernel
theorem d_X_run_63 : decode b_X_run 63 = .ok (.iload_n 2, 1) := by decide +kernel
theorem d_X_run_64 : decode b_X_run 64 = .ok (.iload_n 1, 1) := by decide +kernel
theorem d_X_run_65 : decode b_X_run 65 = .ok (.invokevirtual 177, 3) := by decide +kernel
theorem d_X_run_68 : decode b_X_run 68 = .ok (.ireturn, 1) := by decide +kernel
abbrev b_X_output : ByteArray := prog_1_method_16_code
def y_X_output : MethodName := ⟨"ProgramDesk", "output", "(I)I"⟩
theorem d_X_output_0 : decode b_X_output 0 = .ok (.iload_n 1, 1) := by decide +kernel
theorem d_X_output_1 : decode b_X_output 1 = .ok (.iconst (-1), 1) := by decide +kernel
theorem d_X_output_2 : decode b_X_output 2 = .ok (.if_icmp .ne 11, 3) := by decide +kernel
theorem d_X_output_5 : decode b_X_output 5 = .ok (.aload_n 0, 1) := by decide +kernel
theorem d_X_output_6 : decode b_X_output 6 = .ok (.getfield 10, 3) := by decide +kernel
theorem d_X_output_9 : decode b_X_output 9 = .ok (.getfield 181, 3) := by decide +kernel
theorem d_X_output_12 : decode b_X_output 12 = .ok (.ireturn, 1) := by decide +kernel
theorem d_X_output_13 : decode b_X_output 13 = .ok (.iload_n 1, 1) := by decide +kernel
theorem d_X_output_14 : decode b_X_output 14 = .ok (.bipush (-2), 2) := by decide +kernel
theorem d_X_output_16 : decode b_X_output 16 = .ok (.if_icmp .ne 11, 3) := by decide +kernel
theorem d_X_output_19 : decode b_X_output 19 = .ok (.aload_n 0, 1) := by decide +kernel
theorem d_X_output_20 : decode b_X_output 20 = .ok (.getfield 10, 3) := by decide +kernel
theorem d_X_output_23 : decode b_X_output 23 = .ok (.getfield 184, 3) := by decide +kernel
theorem d_X_output_26 : decode b_X_output 26 = .ok (.ireturn, 1) := by decide +kernel
theorem d_X_output_27 : decode b_X_output 27 = .ok (.iload_n 1, 1) := by decide +kernel
theorem d_X_output_28 : decode b_X_output 28 = .ok (.ifCond .lt 20, 3) := by decide +kernel
theorem d_X_output_31 : decode b_X_output 31 = .ok (.iload_n 1, 1) := by decide +kernel
theorem d_X_output_32 : decode b_X_output 32 = .ok (.aload_n 0, 1) := by decide +kernel
theorem d_X_output_33 : decode b_X_output 33 = .ok (.getfield 10, 3) := by decide +kernel
theorem d_X_output_36 : decode b_X_output 36 = .ok (.getfield 181, 3) := by decide +kernel
theorem d_X_output_39 : decode b_X_output 39 = .ok (.if_icmp .ge 9, 3) := by decide +kernel
theorem d_X_output_42 : decode b_X_output 42 = .ok (.iload_n 1, 1) := by decide +kernel
theorem d_X_output_43 : decode b_X_output 43 = .ok (.bipush 32, 2) := by decide +kernel
theorem d_X_output_45 : decode b_X_output 45 = .ok (.if_icmp .lt 11, 3) := by decide +kernel
theorem d_X_output_48 : decode b_X_output 48 = .ok (.new 93, 3) := by decide +kernel
theorem d_X_output_51 : decode b_X_output 51 = .ok (.dup, 1) := by decide +kernel
theorem d_X_output_52 : decode b_X_output 52 = .ok (.invokespecial 95, 3) := by decide +kernel
theorem d_X_output_55 : decode b_X_output 55 = .ok (.athrow, 1) := by decide +kernel
theorem d_X_output_56 : decode b_X_output 56 = .ok (.aload_n 0, 1) := by decide +kernel
theorem d_X_output_57 : decode b_X_output 57 = .ok (.getfield 10, 3) := by decide +kernel
theorem d_X_output_60 : decode b_X_output 60 = .ok (.getfield 187, 3) := by decide +kernel
theorem d_X_output_63 : decode b_X_output 63 = .ok (.iload_n 1, 1) := by decide +kernel
theorem d_X_output_64 : decode b_X_output 64 = .ok (.iaload, 1) := by decide +kernel
theorem d_X_output_65 : decode b_X_output 65 = .ok (.ireturn, 1) := by decide +kernel
abbrev b_X_acceptTrial : ByteArray := prog_1_method_17_code
def y_X_acceptTrial : MethodName := ⟨"ProgramDesk", "acceptTrial", "()V"⟩
theorem d_X_acceptTrial_0 : decode b_X_acceptTrial 0 = .ok (.aload_n 0, 1) := by decide +kernel
theorem d_X_acceptTrial_1 : decode b_X_acceptTrial 1 = .ok (.getfield 19, 3) := by decide +kernel
theorem d_X_acceptTrial_4 : decode b_X_acceptTrial 4 = .ok (.astore_n 1, 1) := by decide +kernel
theorem d_X_acceptTrial_5 : decode b_X_acceptTrial 5 = .ok (.aload_n 0, 1) := by decide +kernel
theorem d_X_acceptTrial_6 : decode b_X_acceptTrial 6 = .ok (.aload_n 0, 1) := by decide +kernel
theorem d_X_acceptTrial_7 : decode b_X_acceptTrial 7 = .ok (.getfield 23, 3) := by decide +kernel
theorem d_X_acceptTrial_10 : decode b_X_acceptTrial 10 = .ok (.putfield 19, 3) := by decide +kernel
theorem d_X_acceptTrial_13 : decode b_X_acceptTrial 13 = .ok (.aload_n 0, 1) := by decide +kernel
theorem d_X_acceptTrial_14 : decode b_X_acceptTrial 14 = .ok (.aload_n 1, 1) := by decide +kernel
theorem d_X_acceptTrial_15 : decode b_X_acceptTrial 15 = .ok (.putfield 23, 3) := by decide +kernel
theorem d_X_acceptTrial_18 : decode b_X_acceptTrial 18 = .ok (.return_, 1) := by decide +kernel
abbrev b_X_isAllowed : ByteArray := prog_1_method_18_code
def y_X_isAllowed : MethodName := ⟨"ProgramDesk", "isAllowed", "(C)Z"⟩
theorem d_X_isAllowed_0 : decode b_X_isAllowed 0 = .ok (.iload_n 0, 1) := by decide +kernel
theorem d_X_isAllowed_1 : decode b_X_isAllowed 1 = .ok (.bipush 32, 2) := by decide +kernel
theorem d_X_isAllowed_3 : decode b_X_isAllowed 3 = .ok (.if_icmp .lt 13, 3) := by decide +kernel
theorem d_X_isAllowed_6 : decode b_X_isAllowed 6 = .ok (.iload_n 0, 1) := by decide +kernel
theorem d_X_isAllowed_7 : decode b_X_isAllowed 7 = .ok (.bipush 126, 2) := by decide +kernel
theorem d_X_isAllowed_9 : decode b_X_isAllowed 9 = .ok (.if_icmp .gt 7, 3) := by decide +kernel
theorem d_X_isAllowed_12 : decode b_X_isAllowed 12 = .ok (.iconst 1, 1) := by decide +kernel
theorem d_X_isAllowed_13 : decode b_X_isAllowed 13 = .ok (.goto 4, 3) := by decide +kernel
theorem d_X_isAllowed_16 : decode b_X_isAllowed 16 = .ok (.iconst 0, 1) := by decide +kernel
theorem d_X_isAllowed_17 : decode b_X_isAllowed 17 = .ok (.ireturn, 1) := by decide +kernel
abbrev b_X_isName : ByteArray := prog_1_method_19_code
def y_X_isName : MethodName := ⟨"ProgramDesk", "isName", "(J)Z"⟩
theorem d_X_isName_0 : decode b_X_isName 0 = .ok (.lload_n 0, 1) := by decide +kernel
theorem d_X_isName_1 : decode b_X_isName 1 = .ok (.lconst 0, 1) := by decide +kernel
theorem d_X_isName_2 : decode b_X_isName 2 = .ok (.lcmp, 1) := by decide +kernel
theorem d_X_isName_3 : decode b_X_isName 3 = .ok (.ifCond .le 11, 3) := by decide +kernel
theorem d_X_isName_6 : decode b_X_isName 6 = .ok (.lload_n 0, 1) := by decide +kernel
theorem d_X_isName_7 : decode b_X_isName 7 = .ok (.ldc2_w 190, 3) := by decide +kernel
theorem d_X_isName_10 : decode b_X_isName 10 = .ok (.lcmp, 1) := by decide +kernel
theorem d_X_isName_11 : decode b_X_isName 11 = .ok (.ifCond .lt 5, 3) := by decide +kernel
theorem d_X_isName_14 : decode b_X_isName 14 = .ok (.iconst 0, 1) := by decide +kernel
theorem d_X_isName_15 : decode b_X_isName 15 = .ok (.ireturn, 1) := by decide +kernel
theorem d_X_isName_16 : decode b_X_isName 16 = .ok (.lload_n 0, 1) := by decide +kernel
theorem d_X_isName_17 : decode b_X_isName 17 = .ok (.l2i, 1) := by decide +kernel
theorem d_X_isName_18 : decode b_X_isName 18 = .ok (.istore_n 2, 1) := by decide +kernel
theorem d_X_isName_19 : decode b_X_isName 19 = .ok (.iload_n 2, 1) := by decide +kernel
theorem d_X_isName_20 : decode b_X_isName 20 = .ok (.ifCond .le 28, 3) := by decide +kernel
theorem d_X_isName_23 : decode b_X_isName 23 = .ok (.iload_n 2, 1) := by decide +kernel
theorem d_X_isName_24 : decode b_X_isName 24 = .ok (.bipush 31, 2) := by decide +kernel
theorem d_X_isName_26 : decode b_X_isName 26 = .ok (.iand, 1) := by decide +kernel
theorem d_X_isName_27 : decode b_X_isName 27 = .ok (.istore_n 3, 1) := by decide +kernel
theorem d_X_isName_28 : decode b_X_isName 28 = .ok (.iload_n 3, 1) := by decide +kernel
theorem d_X_isName_29 : decode b_X_isName 29 = .ok (.iconst 1, 1) := by decide +kernel
theorem d_X_isName_30 : decode b_X_isName 30 = .ok (.if_icmp .lt 9, 3) := by decide +kernel
theorem d_X_isName_33 : decode b_X_isName 33 = .ok (.iload_n 3, 1) := by decide +kernel
theorem d_X_isName_34 : decode b_X_isName 34 = .ok (.bipush 26, 2) := by decide +kernel
theorem d_X_isName_36 : decode b_X_isName 36 = .ok (.if_icmp .le 5, 3) := by decide +kernel
theorem d_X_isName_39 : decode b_X_isName 39 = .ok (.iconst 0, 1) := by decide +kernel
theorem d_X_isName_40 : decode b_X_isName 40 = .ok (.ireturn, 1) := by decide +kernel
theorem d_X_isName_41 : decode b_X_isName 41 = .ok (.iload_n 2, 1) := by decide +kernel
theorem d_X_isName_42 : decode b_X_isName 42 = .ok (.iconst 5, 1) := by decide +kernel
theorem d_X_isName_43 : decode b_X_isName 43 = .ok (.ishr, 1) := by decide +kernel
theorem d_X_isName_44 : decode b_X_isName 44 = .ok (.istore_n 2, 1) := by decide +kernel
theorem d_X_isName_45 : decode b_X_isName 45 = .ok (.goto (-26), 3) := by decide +kernel
theorem d_X_isName_48 : decode b_X_isName 48 = .ok (.lload_n 0, 1) := by decide +kernel
theorem d_X_isName_49 : decode b_X_isName 49 = .ok (.l2i, 1) := by decide +kernel
theorem d_X_isName_50 : decode b_X_isName 50 = .ok (.invokestatic 192, 3) := by decide +kernel
theorem d_X_isName_53 : decode b_X_isName 53 = .ok (.iconst (-1), 1) := by decide +kernel
theorem d_X_isName_54 : decode b_X_isName 54 = .ok (.if_icmp .ne 7, 3) := by decide +kernel
theorem d_X_isName_57 : decode b_X_isName 57 = .ok (.iconst 1, 1) := by decide +kernel
theorem d_X_isName_58 : decode b_X_isName 58 = .ok (.goto 4, 3) := by decide +kernel
theorem d_X_isName_61 : decode b_X_isName 61 = .ok (.iconst 0, 1) := by decide +kernel
theorem d_X_isName_62 : decode b_X_isName 62 = .ok (.ireturn, 1) := by decide +kernel
abbrev b_X_lettersIn : ByteArray := prog_1_method_20_code
def y_X_lettersIn : MethodName := ⟨"ProgramDesk", "lettersIn", "(I)I"⟩
theorem d_X_lettersIn_0 : decode b_X_lettersIn 0 = .ok (.iconst 0, 1) := by decide +kernel
theorem d_X_lettersIn_1 : decode b_X_lettersIn 1 = .ok (.istore_n 1, 1) := by decide +kernel
theorem d_X_lettersIn_2 : decode b_X_lettersIn 2 = .ok (.iload_n 0, 1) := by decide +kernel
theorem d_X_lettersIn_3 : decode b_X_lettersIn 3 = .ok (.istore_n 2, 1) := by decide +kernel
theorem d_X_lettersIn_4 : decode b_X_lettersIn 4 = .ok (.iload_n 2, 1) := by decide +kernel
theorem d_X_lettersIn_5 : decode b_X_lettersIn 5 = .ok (.ifCond .le 13, 3) := by decide +kernel
theorem d_X_lettersIn_8 : decode b_X_lettersIn 8 = .ok (.iinc 1 1, 3) := by decide +kernel
theorem d_X_lettersIn_11 : decode b_X_lettersIn 11 = .ok (.iload_n 2, 1) := by decide +kernel
theorem d_X_lettersIn_12 : decode b_X_lettersIn 12 = .ok (.iconst 5, 1) := by decide +kernel
theorem d_X_lettersIn_13 : decode b_X_lettersIn 13 = .ok (.ishr, 1) := by decide +kernel
theorem d_X_lettersIn_14 : decode b_X_lettersIn 14 = .ok (.istore_n 2, 1) := by decide +kernel
theorem d_X_lettersIn_15 : decode b_X_lettersIn 15 = .ok (.goto (-11), 3) := by decide +kernel
theorem d_X_lettersIn_18 : decode b_X_lettersIn 18 = .ok (.iload_n 1, 1) := by decide +kernel
theorem d_X_lettersIn_19 : decode b_X_lettersIn 19 = .ok (.ireturn, 1) := by decide +kernel
abbrev b_X_keyword : ByteArray := prog_1_method_21_code
def y_X_keyword : MethodName := ⟨"ProgramDesk", "keyword", "(I)I"⟩
theorem d_X_keyword_0 : decode b_X_keyword 0 = .ok (.iconst 0, 1) := by decide +kernel
theorem d_X_keyword_1 : decode b_X_keyword 1 = .ok (.istore_n 1, 1) := by decide +kernel
theorem d_X_keyword_2 : decode b_X_keyword 2 = .ok (.iload_n 1, 1) := by decide +kernel
theorem d_X_keyword_3 : decode b_X_keyword 3 = .ok (.bipush 6, 2) := by decide +kernel
theorem d_X_keyword_5 : decode b_X_keyword 5 = .ok (.if_icmp .ge 20, 3) := by decide +kernel
theorem d_X_keyword_8 : decode b_X_keyword 8 = .ok (.getstatic 48, 3) := by decide +kernel
theorem d_X_keyword_11 : decode b_X_keyword 11 = .ok (.iload_n 1, 1) := by decide +kernel
theorem d_X_keyword_12 : decode b_X_keyword 12 = .ok (.iaload, 1) := by decide +kernel
theorem d_X_keyword_13 : decode b_X_keyword 13 = .ok (.iload_n 0, 1) := by decide +kernel
theorem d_X_keyword_14 : decode b_X_keyword 14 = .ok (.if_icmp .ne 5, 3) := by decide +kernel
theorem d_X_keyword_17 : decode b_X_keyword 17 = .ok (.iload_n 1, 1) := by decide +kernel
theorem d_X_keyword_18 : decode b_X_keyword 18 = .ok (.ireturn, 1) := by decide +kernel
theorem d_X_keyword_19 : decode b_X_keyword 19 = .ok (.iinc 1 1, 3) := by decide +kernel
theorem d_X_keyword_22 : decode b_X_keyword 22 = .ok (.goto (-20), 3) := by decide +kernel
theorem d_X_keyword_25 : decode b_X_keyword 25 = .ok (.iconst (-1), 1) := by decide +kernel
theorem d_X_keyword_26 : decode b_X_keyword 26 = .ok (.ireturn, 1) := by decide +kernel
abbrev b_Mo_init : ByteArray := prog_11_method_1_code
def y_Mo_init : MethodName := ⟨"ProgramDeskModel", "<init>", "()V"⟩
theorem d_Mo_init_0 : decode b_Mo_init 0 = .ok (.aload_n 0, 1) := by decide +kernel
theorem d_Mo_init_1 : decode b_Mo_init 1 = .ok (.invokespecial 1, 3) := by decide +kernel
theorem d_Mo_init_4 : decode b_Mo_init 4 = .ok (.aload_n 0, 1) := by decide +kernel
theorem d_Mo_init_5 : decode b_Mo_init 5 = .ok (.bipush 6, 2) := by decide +kernel
theorem d_Mo_init_7 : decode b_Mo_init 7 = .ok (.newarray .long, 2) := by decide +kernel
theorem d_Mo_init_9 : decode b_Mo_init 9 = .ok (.dup, 1) := by decide +kernel
theorem d_Mo_init_10 : decode b_Mo_init 10 = .ok (.iconst 0, 1) := by decide +kernel
theorem d_Mo_init_11 : decode b_Mo_init 11 = .ok (.ldc2_w 7, 3) := by decide +kernel
theorem d_Mo_init_14 : decode b_Mo_init 14 = .ok (.lastore, 1) := by decide +kernel
theorem d_Mo_init_15 : decode b_Mo_init 15 = .ok (.dup, 1) := by decide +kernel
theorem d_Mo_init_16 : decode b_Mo_init 16 = .ok (.iconst 1, 1) := by decide +kernel
theorem d_Mo_init_17 : decode b_Mo_init 17 = .ok (.ldc2_w 9, 3) := by decide +kernel
theorem d_Mo_init_20 : decode b_Mo_init 20 = .ok (.lastore, 1) := by decide +kernel
theorem d_Mo_init_21 : decode b_Mo_init 21 = .ok (.dup, 1) := by decide +kernel
theorem d_Mo_init_22 : decode b_Mo_init 22 = .ok (.iconst 2, 1) := by decide +kernel
theorem d_Mo_init_23 : decode b_Mo_init 23 = .ok (.ldc2_w 11, 3) := by decide +kernel
theorem d_Mo_init_26 : decode b_Mo_init 26 = .ok (.lastore, 1) := by decide +kernel
theorem d_Mo_init_27 : decode b_Mo_init 27 = .ok (.dup, 1) := by decide +kernel
theorem d_Mo_init_28 : decode b_Mo_init 28 = .ok (.iconst 3, 1) := by decide +kernel
theorem d_Mo_init_29 : decode b_Mo_init 29 = .ok (.ldc2_w 13, 3) := by decide +kernel
theorem d_Mo_init_32 : decode b_Mo_init 32 = .ok (.lastore, 1) := by decide +kernel
theorem d_Mo_init_33 : decode b_Mo_init 33 = .ok (.dup, 1) := by decide +kernel
theorem d_Mo_init_34 : decode b_Mo_init 34 = .ok (.iconst 4, 1) := by decide +kernel
theorem d_Mo_init_35 : decode b_Mo_init 35 = .ok (.ldc2_w 15, 3) := by decide +kernel
theorem d_Mo_init_38 : decode b_Mo_init 38 = .ok (.lastore, 1) := by decide +kernel
theorem d_Mo_init_39 : decode b_Mo_init 39 = .ok (.dup, 1) := by decide +kernel
theorem d_Mo_init_40 : decode b_Mo_init 40 = .ok (.iconst 5, 1) := by decide +kernel
theorem d_Mo_init_41 : decode b_Mo_init 41 = .ok (.ldc2_w 17, 3) := by decide +kernel
theorem d_Mo_init_44 : decode b_Mo_init 44 = .ok (.lastore, 1) := by decide +kernel
theorem d_Mo_init_45 : decode b_Mo_init 45 = .ok (.putfield 19, 3) := by decide +kernel
theorem d_Mo_init_48 : decode b_Mo_init 48 = .ok (.aload_n 0, 1) := by decide +kernel
theorem d_Mo_init_49 : decode b_Mo_init 49 = .ok (.sipush 240, 3) := by decide +kernel
theorem d_Mo_init_52 : decode b_Mo_init 52 = .ok (.newarray .int, 2) := by decide +kernel
theorem d_Mo_init_54 : decode b_Mo_init 54 = .ok (.putfield 25, 3) := by decide +kernel
theorem d_Mo_init_57 : decode b_Mo_init 57 = .ok (.aload_n 0, 1) := by decide +kernel
theorem d_Mo_init_58 : decode b_Mo_init 58 = .ok (.sipush 240, 3) := by decide +kernel
theorem d_Mo_init_61 : decode b_Mo_init 61 = .ok (.newarray .int, 2) := by decide +kernel
theorem d_Mo_init_63 : decode b_Mo_init 63 = .ok (.putfield 29, 3) := by decide +kernel
theorem d_Mo_init_66 : decode b_Mo_init 66 = .ok (.aload_n 0, 1) := by decide +kernel
theorem d_Mo_init_67 : decode b_Mo_init 67 = .ok (.sipush 240, 3) := by decide +kernel
theorem d_Mo_init_70 : decode b_Mo_init 70 = .ok (.newarray .int, 2) := by decide +kernel
theorem d_Mo_init_72 : decode b_Mo_init 72 = .ok (.putfield 32, 3) := by decide +kernel
theorem d_Mo_init_75 : decode b_Mo_init 75 = .ok (.aload_n 0, 1) := by decide +kernel
theorem d_Mo_init_76 : decode b_Mo_init 76 = .ok (.sipush 240, 3) := by decide +kernel
theorem d_Mo_init_79 : decode b_Mo_init 79 = .ok (.newarray .int, 2) := by decide +kernel
theorem d_Mo_init_81 : decode b_Mo_init 81 = .ok (.putfield 35, 3) := by decide +kernel
theorem d_Mo_init_84 : decode b_Mo_init 84 = .ok (.aload_n 0, 1) := by decide +kernel
theorem d_Mo_init_85 : decode b_Mo_init 85 = .ok (.sipush 240, 3) := by decide +kernel
theorem d_Mo_init_88 : decode b_Mo_init 88 = .ok (.newarray .int, 2) := by decide +kernel
theorem d_Mo_init_90 : decode b_Mo_init 90 = .ok (.putfield 38, 3) := by decide +kernel
theorem d_Mo_init_93 : decode b_Mo_init 93 = .ok (.aload_n 0, 1) := by decide +kernel
theorem d_Mo_init_94 : decode b_Mo_init 94 = .ok (.sipush 240, 3) := by decide +kernel
theorem d_Mo_init_97 : decode b_Mo_init 97 = .ok (.newarray .int, 2) := by decide +kernel
theorem d_Mo_init_99 : decode b_Mo_init 99 = .ok (.putfield 41, 3) := by decide +kernel
theorem d_Mo_init_102 : decode b_Mo_init 102 = .ok (.aload_n 0, 1) := by decide +kernel
theorem d_Mo_init_103 : decode b_Mo_init 103 = .ok (.sipush 240, 3) := by decide +kernel
theorem d_Mo_init_106 : decode b_Mo_init 106 = .ok (.newarray .long, 2) := by decide +kernel
theorem d_Mo_init_108 : decode b_Mo_init 108 = .ok (.putfield 44, 3) := by decide +kernel
theorem d_Mo_init_111 : decode b_Mo_init 111 = .ok (.aload_n 0, 1) := by decide +kernel
theorem d_Mo_init_112 : decode b_Mo_init 112 = .ok (.sipush 240, 3) := by decide +kernel
theorem d_Mo_init_115 : decode b_Mo_init 115 = .ok (.newarray .int, 2) := by decide +kernel
theorem d_Mo_init_117 : decode b_Mo_init 117 = .ok (.putfield 47, 3) := by decide +kernel
theorem d_Mo_init_120 : decode b_Mo_init 120 = .ok (.aload_n 0, 1) := by decide +kernel
theorem d_Mo_init_121 : decode b_Mo_init 121 = .ok (.sipush 240, 3) := by decide +kernel
theorem d_Mo_init_124 : decode b_Mo_init 124 = .ok (.newarray .int, 2) := by decide +kernel
theorem d_Mo_init_126 : decode b_Mo_init 126 = .ok (.putfield 50, 3) := by decide +kernel
theorem d_Mo_init_129 : decode b_Mo_init 129 = .ok (.aload_n 0, 1) := by decide +kernel
theorem d_Mo_init_130 : decode b_Mo_init 130 = .ok (.sipush 240, 3) := by decide +kernel
theorem d_Mo_init_133 : decode b_Mo_init 133 = .ok (.newarray .int, 2) := by decide +kernel
theorem d_Mo_init_135 : decode b_Mo_init 135 = .ok (.putfield 53, 3) := by decide +kernel
theorem d_Mo_init_138 : decode b_Mo_init 138 = .ok (.aload_n 0, 1) := by decide +kernel
theorem d_Mo_init_139 : decode b_Mo_init 139 = .ok (.sipush 240, 3) := by decide +kernel
theorem d_Mo_init_142 : decode b_Mo_init 142 = .ok (.newarray .int, 2) := by decide +kernel
theorem d_Mo_init_144 : decode b_Mo_init 144 = .ok (.putfield 56, 3) := by decide +kernel
theorem d_Mo_init_147 : decode b_Mo_init 147 = .ok (.aload_n 0, 1) := by decide +kernel
theorem d_Mo_init_148 : decode b_Mo_init 148 = .ok (.sipush 240, 3) := by decide +kernel
theorem d_Mo_init_151 : decode b_Mo_init 151 = .ok (.newarray .int, 2) := by decide +kernel
theorem d_Mo_init_153 : decode b_Mo_init 153 = .ok (.putfield 59, 3) := by decide +kernel
theorem d_Mo_init_156 : decode b_Mo_init 156 = .ok (.aload_n 0, 1) := by decide +kernel
theorem d_Mo_init_157 : decode b_Mo_init 157 = .ok (.sipush 240, 3) := by decide +kernel
theorem d_Mo_init_160 : decode b_Mo_init 160 = .ok (.newarray .int, 2) := by decide +kernel
theorem d_Mo_init_162 : decode b_Mo_init 162 = .ok (.putfield 62, 3) := by decide +kernel
theorem d_Mo_init_165 : decode b_Mo_init 165 = .ok (.aload_n 0, 1) := by decide +kernel
theorem d_Mo_init_166 : decode b_Mo_init 166 = .ok (.sipush 240, 3) := by decide +kernel
theorem d_Mo_init_169 : decode b_Mo_init 169 = .ok (.newarray .int, 2) := by decide +kernel
theorem d_Mo_init_171 : decode b_Mo_init 171 = .ok (.putfield 65, 3) := by decide +kernel
theorem d_Mo_init_174 : decode b_Mo_init 174 = .ok (.aload_n 0, 1) := by decide +kernel
theorem d_Mo_init_175 : decode b_Mo_init 175 = .ok (.bipush 122, 2) := by decide +kernel
theorem d_Mo_init_177 : decode b_Mo_init 177 = .ok (.newarray .int, 2) := by decide +kernel
theorem d_Mo_init_179 : decode b_Mo_init 179 = .ok (.putfield 68, 3) := by decide +kernel
theorem d_Mo_init_182 : decode b_Mo_init 182 = .ok (.aload_n 0, 1) := by decide +kernel
theorem d_Mo_init_183 : decode b_Mo_init 183 = .ok (.bipush 122, 2) := by decide +kernel
theorem d_Mo_init_185 : decode b_Mo_init 185 = .ok (.newarray .int, 2) := by decide +kernel
theorem d_Mo_init_187 : decode b_Mo_init 187 = .ok (.putfield 71, 3) := by decide +kernel
theorem d_Mo_init_190 : decode b_Mo_init 190 = .ok (.aload_n 0, 1) := by decide +kernel
theorem d_Mo_init_191 : decode b_Mo_init 191 = .ok (.bipush 122, 2) := by decide +kernel
theorem d_Mo_init_193 : decode b_Mo_init 193 = .ok (.newarray .int, 2) := by decide +kernel
theorem d_Mo_init_195 : decode b_Mo_init 195 = .ok (.putfield 74, 3) := by decide +kernel
theorem d_Mo_init_198 : decode b_Mo_init 198 = .ok (.aload_n 0, 1) := by decide +kernel
theorem d_Mo_init_199 : decode b_Mo_init 199 = .ok (.bipush 122, 2) := by decide +kernel
theorem d_Mo_init_201 : decode b_Mo_init 201 = .ok (.newarray .int, 2) := by decide +kernel
theorem d_Mo_init_203 : decode b_Mo_init 203 = .ok (.putfield 77, 3) := by decide +kernel
theorem d_Mo_init_206 : decode b_Mo_init 206 = .ok (.aload_n 0, 1) := by decide +kernel
theorem d_Mo_init_207 : decode b_Mo_init 207 = .ok (.sipush 400, 3) := by decide +kernel
theorem d_Mo_init_210 : decode b_Mo_init 210 = .ok (.newarray .int, 2) := by decide +kernel
theorem d_Mo_init_212 : decode b_Mo_init 212 = .ok (.putfield 80, 3) := by decide +kernel
theorem d_Mo_init_215 : decode b_Mo_init 215 = .ok (.aload_n 0, 1) := by decide +kernel
theorem d_Mo_init_216 : decode b_Mo_init 216 = .ok (.iconst 5, 1) := by decide +kernel
theorem d_Mo_init_217 : decode b_Mo_init 217 = .ok (.newarray .int, 2) := by decide +kernel
theorem d_Mo_init_219 : decode b_Mo_init 219 = .ok (.putfield 83, 3) := by decide +kernel
theorem d_Mo_init_222 : decode b_Mo_init 222 = .ok (.aload_n 0, 1) := by decide +kernel
theorem d_Mo_init_223 : decode b_Mo_init 223 = .ok (.iconst 5, 1) := by decide +kernel
theorem d_Mo_init_224 : decode b_Mo_init 224 = .ok (.newarray .int, 2) := by decide +kernel
theorem d_Mo_init_226 : decode b_Mo_init 226 = .ok (.putfield 86, 3) := by decide +kernel
theorem d_Mo_init_229 : decode b_Mo_init 229 = .ok (.aload_n 0, 1) := by decide +kernel
theorem d_Mo_init_230 : decode b_Mo_init 230 = .ok (.iconst 5, 1) := by decide +kernel
theorem d_Mo_init_231 : decode b_Mo_init 231 = .ok (.newarray .boolean, 2) := by decide +kernel
theorem d_Mo_init_233 : decode b_Mo_init 233 = .ok (.putfield 89, 3) := by decide +kernel
theorem d_Mo_init_236 : decode b_Mo_init 236 = .ok (.aload_n 0, 1) := by decide +kernel
theorem d_Mo_init_237 : decode b_Mo_init 237 = .ok (.sipush 700, 3) := by decide +kernel
theorem d_Mo_init_240 : decode b_Mo_init 240 = .ok (.newarray .int, 2) := by decide +kernel
theorem d_Mo_init_242 : decode b_Mo_init 242 = .ok (.putfield 93, 3) := by decide +kernel
theorem d_Mo_init_245 : decode b_Mo_init 245 = .ok (.aload_n 0, 1) := by decide +kernel
theorem d_Mo_init_246 : decode b_Mo_init 246 = .ok (.sipush 700, 3) := by decide +kernel
theorem d_Mo_init_249 : decode b_Mo_init 249 = .ok (.newarray .int, 2) := by decide +kernel
theorem d_Mo_init_251 : decode b_Mo_init 251 = .ok (.putfield 96, 3) := by decide +kernel
theorem d_Mo_init_254 : decode b_Mo_init 254 = .ok (.aload_n 0, 1) := by decide +kernel
theorem d_Mo_init_255 : decode b_Mo_init 255 = .ok (.bipush 122, 2) := by decide +kernel
theorem d_Mo_init_257 : decode b_Mo_init 257 = .ok (.newarray .int, 2) := by decide +kernel
theorem d_Mo_init_259 : decode b_Mo_init 259 = .ok (.putfield 99, 3) := by decide +kernel
theorem d_Mo_init_262 : decode b_Mo_init 262 = .ok (.aload_n 0, 1) := by decide +kernel
theorem d_Mo_init_263 : decode b_Mo_init 263 = .ok (.sipush 240, 3) := by decide +kernel
theorem d_Mo_init_266 : decode b_Mo_init 266 = .ok (.newarray .int, 2) := by decide +kernel
theorem d_Mo_init_268 : decode b_Mo_init 268 = .ok (.putfield 102, 3) := by decide +kernel
theorem d_Mo_init_271 : decode b_Mo_init 271 = .ok (.aload_n 0, 1) := by decide +kernel
theorem d_Mo_init_272 : decode b_Mo_init 272 = .ok (.bipush 64, 2) := by decide +kernel
theorem d_Mo_init_274 : decode b_Mo_init 274 = .ok (.newarray .int, 2) := by decide +kernel
theorem d_Mo_init_276 : decode b_Mo_init 276 = .ok (.putfield 105, 3) := by decide +kernel
theorem d_Mo_init_279 : decode b_Mo_init 279 = .ok (.aload_n 0, 1) := by decide +kernel
theorem d_Mo_init_280 : decode b_Mo_init 280 = .ok (.bipush 64, 2) := by decide +kernel
theorem d_Mo_init_282 : decode b_Mo_init 282 = .ok (.newarray .int, 2) := by decide +kernel
theorem d_Mo_init_284 : decode b_Mo_init 284 = .ok (.putfield 108, 3) := by decide +kernel
theorem d_Mo_init_287 : decode b_Mo_init 287 = .ok (.aload_n 0, 1) := by decide +kernel
theorem d_Mo_init_288 : decode b_Mo_init 288 = .ok (.bipush 6, 2) := by decide +kernel
theorem d_Mo_init_290 : decode b_Mo_init 290 = .ok (.newarray .int, 2) := by decide +kernel
theorem d_Mo_init_292 : decode b_Mo_init 292 = .ok (.putfield 111, 3) := by decide +kernel
theorem d_Mo_init_295 : decode b_Mo_init 295 = .ok (.aload_n 0, 1) := by decide +kernel
theorem d_Mo_init_296 : decode b_Mo_init 296 = .ok (.bipush 6, 2) := by decide +kernel
theorem d_Mo_init_298 : decode b_Mo_init 298 = .ok (.newarray .int, 2) := by decide +kernel
theorem d_Mo_init_300 : decode b_Mo_init 300 = .ok (.putfield 114, 3) := by decide +kernel
theorem d_Mo_init_303 : decode b_Mo_init 303 = .ok (.aload_n 0, 1) := by decide +kernel
theorem d_Mo_init_304 : decode b_Mo_init 304 = .ok (.bipush 6, 2) := by decide +kernel
theorem d_Mo_init_306 : decode b_Mo_init 306 = .ok (.newarray .int, 2) := by decide +kernel
theorem d_Mo_init_308 : decode b_Mo_init 308 = .ok (.putfield 117, 3) := by decide +kernel
theorem d_Mo_init_311 : decode b_Mo_init 311 = .ok (.aload_n 0, 1) := by decide +kernel
theorem d_Mo_init_312 : decode b_Mo_init 312 = .ok (.sipush 768, 3) := by decide +kernel
theorem d_Mo_init_315 : decode b_Mo_init 315 = .ok (.newarray .int, 2) := by decide +kernel
theorem d_Mo_init_317 : decode b_Mo_init 317 = .ok (.putfield 120, 3) := by decide +kernel
theorem d_Mo_init_320 : decode b_Mo_init 320 = .ok (.aload_n 0, 1) := by decide +kernel
theorem d_Mo_init_321 : decode b_Mo_init 321 = .ok (.bipush 9, 2) := by decide +kernel
theorem d_Mo_init_323 : decode b_Mo_init 323 = .ok (.newarray .int, 2) := by decide +kernel
theorem d_Mo_init_325 : decode b_Mo_init 325 = .ok (.putfield 123, 3) := by decide +kernel
theorem d_Mo_init_328 : decode b_Mo_init 328 = .ok (.aload_n 0, 1) := by decide +kernel
theorem d_Mo_init_329 : decode b_Mo_init 329 = .ok (.sipush 2000, 3) := by decide +kernel
theorem d_Mo_init_332 : decode b_Mo_init 332 = .ok (.newarray .int, 2) := by decide +kernel
theorem d_Mo_init_334 : decode b_Mo_init 334 = .ok (.putfield 126, 3) := by decide +kernel
theorem d_Mo_init_337 : decode b_Mo_init 337 = .ok (.aload_n 0, 1) := by decide +kernel
theorem d_Mo_init_338 : decode b_Mo_init 338 = .ok (.bipush 32, 2) := by decide +kernel
theorem d_Mo_init_340 : decode b_Mo_init 340 = .ok (.newarray .int, 2) := by decide +kernel
theorem d_Mo_init_342 : decode b_Mo_init 342 = .ok (.putfield 129, 3) := by decide +kernel
theorem d_Mo_init_345 : decode b_Mo_init 345 = .ok (.return_, 1) := by decide +kernel
abbrev b_Mo_thrown : ByteArray := prog_11_method_2_code
def y_Mo_thrown : MethodName := ⟨"ProgramDeskModel", "thrown", "()I"⟩
theorem d_Mo_thrown_0 : decode b_Mo_thrown 0 = .ok (.aload_n 0, 1) := by decide +kernel
theorem d_Mo_thrown_1 : decode b_Mo_thrown 1 = .ok (.getfield 132, 3) := by decide +kernel
theorem d_Mo_thrown_4 : decode b_Mo_thrown 4 = .ok (.ireturn, 1) := by decide +kernel
abbrev b_Mo_fails : ByteArray := prog_11_method_3_code
def y_Mo_fails : MethodName := ⟨"ProgramDeskModel", "fails", "(I)I"⟩
theorem d_Mo_fails_0 : decode b_Mo_fails 0 = .ok (.aload_n 0, 1) := by decide +kernel
theorem d_Mo_fails_1 : decode b_Mo_fails 1 = .ok (.iload_n 1, 1) := by decide +kernel
theorem d_Mo_fails_2 : decode b_Mo_fails 2 = .ok (.putfield 132, 3) := by decide +kernel
theorem d_Mo_fails_5 : decode b_Mo_fails 5 = .ok (.iconst 0, 1) := by decide +kernel
theorem d_Mo_fails_6 : decode b_Mo_fails 6 = .ok (.ireturn, 1) := by decide +kernel
abbrev b_Mo_isChar : ByteArray := prog_11_method_4_code
def y_Mo_isChar : MethodName := ⟨"ProgramDeskModel", "isChar", "(I)Z"⟩
theorem d_Mo_isChar_0 : decode b_Mo_isChar 0 = .ok (.iload_n 0, 1) := by decide +kernel
theorem d_Mo_isChar_1 : decode b_Mo_isChar 1 = .ok (.bipush 32, 2) := by decide +kernel
theorem d_Mo_isChar_3 : decode b_Mo_isChar 3 = .ok (.if_icmp .lt 13, 3) := by decide +kernel
theorem d_Mo_isChar_6 : decode b_Mo_isChar 6 = .ok (.iload_n 0, 1) := by decide +kernel
theorem d_Mo_isChar_7 : decode b_Mo_isChar 7 = .ok (.bipush 126, 2) := by decide +kernel
theorem d_Mo_isChar_9 : decode b_Mo_isChar 9 = .ok (.if_icmp .gt 7, 3) := by decide +kernel
theorem d_Mo_isChar_12 : decode b_Mo_isChar 12 = .ok (.iconst 1, 1) := by decide +kernel
theorem d_Mo_isChar_13 : decode b_Mo_isChar 13 = .ok (.goto 4, 3) := by decide +kernel
theorem d_Mo_isChar_16 : decode b_Mo_isChar 16 = .ok (.iconst 0, 1) := by decide +kernel
theorem d_Mo_isChar_17 : decode b_Mo_isChar 17 = .ok (.ireturn, 1) := by decide +kernel
abbrev b_Mo_isLetter : ByteArray := prog_11_method_5_code
def y_Mo_isLetter : MethodName := ⟨"ProgramDeskModel", "isLetter", "(I)Z"⟩
theorem d_Mo_isLetter_0 : decode b_Mo_isLetter 0 = .ok (.iload_n 0, 1) := by decide +kernel
theorem d_Mo_isLetter_1 : decode b_Mo_isLetter 1 = .ok (.bipush 97, 2) := by decide +kernel
theorem d_Mo_isLetter_3 : decode b_Mo_isLetter 3 = .ok (.if_icmp .lt 13, 3) := by decide +kernel
theorem d_Mo_isLetter_6 : decode b_Mo_isLetter 6 = .ok (.iload_n 0, 1) := by decide +kernel
theorem d_Mo_isLetter_7 : decode b_Mo_isLetter 7 = .ok (.bipush 122, 2) := by decide +kernel
theorem d_Mo_isLetter_9 : decode b_Mo_isLetter 9 = .ok (.if_icmp .gt 7, 3) := by decide +kernel
theorem d_Mo_isLetter_12 : decode b_Mo_isLetter 12 = .ok (.iconst 1, 1) := by decide +kernel
theorem d_Mo_isLetter_13 : decode b_Mo_isLetter 13 = .ok (.goto 4, 3) := by decide +kernel
theorem d_Mo_isLetter_16 : decode b_Mo_isLetter 16 = .ok (.iconst 0, 1) := by decide +kernel
theorem d_Mo_isLetter_17 : decode b_Mo_isLetter 17 = .ok (.ireturn, 1) := by decide +kernel
abbrev b_Mo_isDigit : ByteArray := prog_11_method_6_code
def y_Mo_isDigit : MethodName := ⟨"ProgramDeskModel", "isDigit", "(I)Z"⟩
theorem d_Mo_isDigit_0 : decode b_Mo_isDigit 0 = .ok (.iload_n 0, 1) := by decide +kernel
theorem d_Mo_isDigit_1 : decode b_Mo_isDigit 1 = .ok (.bipush 48, 2) := by decide +kernel
theorem d_Mo_isDigit_3 : decode b_Mo_isDigit 3 = .ok (.if_icmp .lt 13, 3) := by decide +kernel
theorem d_Mo_isDigit_6 : decode b_Mo_isDigit 6 = .ok (.iload_n 0, 1) := by decide +kernel
theorem d_Mo_isDigit_7 : decode b_Mo_isDigit 7 = .ok (.bipush 57, 2) := by decide +kernel
theorem d_Mo_isDigit_9 : decode b_Mo_isDigit 9 = .ok (.if_icmp .gt 7, 3) := by decide +kernel
theorem d_Mo_isDigit_12 : decode b_Mo_isDigit 12 = .ok (.iconst 1, 1) := by decide +kernel
theorem d_Mo_isDigit_13 : decode b_Mo_isDigit 13 = .ok (.goto 4, 3) := by decide +kernel
theorem d_Mo_isDigit_16 : decode b_Mo_isDigit 16 = .ok (.iconst 0, 1) := by decide +kernel
theorem d_Mo_isDigit_17 : decode b_Mo_isDigit 17 = .ok (.ireturn, 1) := by decide +kernel
abbrev b_Mo_type : ByteArray := prog_11_method_7_code
def y_Mo_type : MethodName := ⟨"ProgramDeskModel", "type", "(C)Z"⟩
theorem d_Mo_type_0 : decode b_Mo_type 0 = .ok (.aload_n 0, 1) := by decide +kernel
theorem d_Mo_type_1 : decode b_Mo_type 1 = .ok (.iconst 0, 1) := by decide +kernel
theorem d_Mo_type_2 : decode b_Mo_type 2 = .ok (.putfield 132, 3) := by decide +kernel
theorem d_Mo_type_5 : decode b_Mo_type 5 = .ok (.iload_n 1, 1) := by decide +kernel
theorem d_Mo_type_6 : decode b_Mo_type 6 = .ok (.invokestatic 136, 3) := by decide +kernel
theorem d_Mo_type_9 : decode b_Mo_type 9 = .ok (.ifCond .eq 13, 3) := by decide +kernel
theorem d_Mo_type_12 : decode b_Mo_type 12 = .ok (.aload_n 0, 1) := by decide +kernel
theorem d_Mo_type_13 : decode b_Mo_type 13 = .ok (.getfield 140, 3) := by decide +kernel
theorem d_Mo_type_16 : decode b_Mo_type 16 = .ok (.sipush 240, 3) := by decide +kernel
theorem d_Mo_type_19 : decode b_Mo_type 19 = .ok (.if_icmp .ne 5, 3) := by decide +kernel
theorem d_Mo_type_22 : decode b_Mo_type 22 = .ok (.iconst 0, 1) := by decide +kernel
theorem d_Mo_type_23 : decode b_Mo_type 23 = .ok (.ireturn, 1) := by decide +kernel
theorem d_Mo_type_24 : decode b_Mo_type 24 = .ok (.aload_n 0, 1) := by decide +kernel
theorem d_Mo_type_25 : decode b_Mo_type 25 = .ok (.getfield 25, 3) := by decide +kernel
theorem d_Mo_type_28 : decode b_Mo_type 28 = .ok (.aload_n 0, 1) := by decide +kernel
theorem d_Mo_type_29 : decode b_Mo_type 29 = .ok (.getfield 140, 3) := by decide +kernel
theorem d_Mo_type_32 : decode b_Mo_type 32 = .ok (.iload_n 1, 1) := by decide +kernel
theorem d_Mo_type_33 : decode b_Mo_type 33 = .ok (.iastore, 1) := by decide +kernel
theorem d_Mo_type_34 : decode b_Mo_type 34 = .ok (.aload_n 0, 1) := by decide +kernel
theorem d_Mo_type_35 : decode b_Mo_type 35 = .ok (.dup, 1) := by decide +kernel
theorem d_Mo_type_36 : decode b_Mo_type 36 = .ok (.getfield 140, 3) := by decide +kernel
theorem d_Mo_type_39 : decode b_Mo_type 39 = .ok (.iconst 1, 1) := by decide +kernel
theorem d_Mo_type_40 : decode b_Mo_type 40 = .ok (.iadd, 1) := by decide +kernel
theorem d_Mo_type_41 : decode b_Mo_type 41 = .ok (.putfield 140, 3) := by decide +kernel
theorem d_Mo_type_44 : decode b_Mo_type 44 = .ok (.iconst 1, 1) := by decide +kernel
theorem d_Mo_type_45 : decode b_Mo_type 45 = .ok (.ireturn, 1) := by decide +kernel
abbrev b_Mo_letters : ByteArray := prog_11_method_8_code
def y_Mo_letters : MethodName := ⟨"ProgramDeskModel", "letters", "(J)I"⟩
theorem d_Mo_letters_0 : decode b_Mo_letters 0 = .ok (.iconst 0, 1) := by decide +kernel
theorem d_Mo_letters_1 : decode b_Mo_letters 1 = .ok (.istore_n 2, 1) := by decide +kernel
theorem d_Mo_letters_2 : decode b_Mo_letters 2 = .ok (.iload_n 2, 1) := by decide +kernel
theorem d_Mo_letters_3 : decode b_Mo_letters 3 = .ok (.bipush 13, 2) := by decide +kernel
theorem d_Mo_letters_5 : decode b_Mo_letters 5 = .ok (.if_icmp .ge 19, 3) := by decide +kernel
theorem d_Mo_letters_8 : decode b_Mo_letters 8 = .ok (.lload_n 0, 1) := by decide +kernel
theorem d_Mo_letters_9 : decode b_Mo_letters 9 = .ok (.iconst 5, 1) := by decide +kernel
theorem d_Mo_letters_10 : decode b_Mo_letters 10 = .ok (.iload_n 2, 1) := by decide +kernel
theorem d_Mo_letters_11 : decode b_Mo_letters 11 = .ok (.imul, 1) := by decide +kernel
theorem d_Mo_letters_12 : decode b_Mo_letters 12 = .ok (.lshr, 1) := by decide +kernel
theorem d_Mo_letters_13 : decode b_Mo_letters 13 = .ok (.lconst 0, 1) := by decide +kernel
theorem d_Mo_letters_14 : decode b_Mo_letters 14 = .ok (.lcmp, 1) := by decide +kernel
theorem d_Mo_letters_15 : decode b_Mo_letters 15 = .ok (.ifCond .eq 9, 3) := by decide +kernel
theorem d_Mo_letters_18 : decode b_Mo_letters 18 = .ok (.iinc 2 1, 3) := by decide +kernel
theorem d_Mo_letters_21 : decode b_Mo_letters 21 = .ok (.goto (-19), 3) := by decide +kernel
theorem d_Mo_letters_24 : decode b_Mo_letters 24 = .ok (.iload_n 2, 1) := by decide +kernel
theorem d_Mo_letters_25 : decode b_Mo_letters 25 = .ok (.ireturn, 1) := by decide +kernel
abbrev b_Mo_word : ByteArray := prog_11_method_9_code
def y_Mo_word : MethodName := ⟨"ProgramDeskModel", "word", "(I)Z"⟩
theorem d_Mo_word_0 : decode b_Mo_word 0 = .ok (.aload_n 0, 1) := by decide +kernel
theorem d_Mo_word_1 : decode b_Mo_word 1 = .ok (.iconst 0, 1) := by decide +kernel
theorem d_Mo_word_2 : decode b_Mo_word 2 = .ok (.putfield 132, 3) := by decide +kernel
theorem d_Mo_word_5 : decode b_Mo_word 5 = .ok (.iload_n 1, 1) := by decide +kernel
theorem d_Mo_word_6 : decode b_Mo_word 6 = .ok (.ifCond .lt 9, 3) := by decide +kernel
theorem d_Mo_word_9 : decode b_Mo_word 9 = .ok (.iload_n 1, 1) := by decide +kernel
theorem d_Mo_word_10 : decode b_Mo_word 10 = .ok (.bipush 6, 2) := by decide +kernel
theorem d_Mo_word_12 : decode b_Mo_word 12 = .ok (.if_icmp .le 5, 3) := by decide +kernel
theorem d_Mo_word_15 : decode b_Mo_word 15 = .ok (.iconst 0, 1) := by decide +kernel
theorem d_Mo_word_16 : decode b_Mo_word 16 = .ok (.ireturn, 1) := by decide +kernel
theorem d_Mo_word_17 : decode b_Mo_word 17 = .ok (.iload_n 1, 1) := by decide +kernel
theorem d_Mo_word_18 : decode b_Mo_word 18 = .ok (.bipush 6, 2) := by decide +kernel
theorem d_Mo_word_20 : decode b_Mo_word 20 = .ok (.if_icmp .ne 9, 3) := by decide +kernel
theorem d_Mo_word_23 : decode b_Mo_word 23 = .ok (.ldc2_w 143, 3) := by decide +kernel
theorem d_Mo_word_26 : decode b_Mo_word 26 = .ok (.goto 9, 3) := by decide +kernel
theorem d_Mo_word_29 : decode b_Mo_word 29 = .ok (.aload_n 0, 1) := by decide +kernel
theorem d_Mo_word_30 : decode b_Mo_word 30 = .ok (.getfield 19, 3) := by decide +kernel
theorem d_Mo_word_33 : decode b_Mo_word 33 = .ok (.iload_n 1, 1) := by decide +kernel
theorem d_Mo_word_34 : decode b_Mo_word 34 = .ok (.laload, 1) := by decide +kernel
theorem d_Mo_word_35 : decode b_Mo_word 35 = .ok (.lstore_n 2, 1) := by decide +kernel
theorem d_Mo_word_36 : decode b_Mo_word 36 = .ok (.lload_n 2, 1) := by decide +kernel
theorem d_Mo_word_37 : decode b_Mo_word 37 = .ok (.invokestatic 145, 3) := by decide +kernel
theorem d_Mo_word_40 : decode b_Mo_word 40 = .ok (.istore 4, 2) := by decide +kernel
theorem d_Mo_word_42 : decode b_Mo_word 42 = .ok (.aload_n 0, 1) := by decide +kernel
theorem d_Mo_word_43 : decode b_Mo_word 43 = .ok (.getfield 140, 3) := by decide +kernel
theorem d_Mo_word_46 : decode b_Mo_word 46 = .ok (.iload 4, 2) := by decide +kernel
theorem d_Mo_word_48 : decode b_Mo_word 48 = .ok (.iadd, 1) := by decide +kernel
theorem d_Mo_word_49 : decode b_Mo_word 49 = .ok (.iconst 1, 1) := by decide +kernel
theorem d_Mo_word_50 : decode b_Mo_word 50 = .ok (.iadd, 1) := by decide +kernel
theorem d_Mo_word_51 : decode b_Mo_word 51 = .ok (.sipush 240, 3) := by decide +kernel
theorem d_Mo_word_54 : decode b_Mo_word 54 = .ok (.if_icmp .le 5, 3) := by decide +kernel
theorem d_Mo_word_57 : decode b_Mo_word 57 = .ok (.iconst 0, 1) := by decide +kernel
theorem d_Mo_word_58 : decode b_Mo_word 58 = .ok (.ireturn, 1) := by decide +kernel
theorem d_Mo_word_59 : decode b_Mo_word 59 = .ok (.iconst 0, 1) := by decide +kernel
theorem d_Mo_word_60 : decode b_Mo_word 60 = .ok (.istore 5, 2) := by decide +kernel
theorem d_Mo_word_62 : decode b_Mo_word 62 = .ok (.iload 5, 2) := by decide +kernel
theorem d_Mo_word_64 : decode b_Mo_word 64 = .ok (.iload 4, 2) := by decide +kernel
theorem d_Mo_word_66 : decode b_Mo_word 66 = .ok (.if_icmp .ge 35, 3) := by decide +kernel
theorem d_Mo_word_69 : decode b_Mo_word 69 = .ok (.aload_n 0, 1) := by decide +kernel
theorem d_Mo_word_70 : decode b_Mo_word 70 = .ok (.getfield 25, 3) := by decide +kernel
theorem d_Mo_word_73 : decode b_Mo_word 73 = .ok (.aload_n 0, 1) := by decide +kernel
theorem d_Mo_word_74 : decode b_Mo_word 74 = .ok (.getfield 140, 3) := by decide +kernel
theorem d_Mo_word_77 : decode b_Mo_word 77 = .ok (.iload 5, 2) := by decide +kernel
theorem d_Mo_word_79 : decode b_Mo_word 79 = .ok (.iadd, 1) := by decide +kernel
theorem d_Mo_word_80 : decode b_Mo_word 80 = .ok (.bipush 96, 2) := by decide +kernel
theorem d_Mo_word_82 : decode b_Mo_word 82 = .ok (.lload_n 2, 1) := by decide +kernel
theorem d_Mo_word_83 : decode b_Mo_word 83 = .ok (.iconst 5, 1) := by decide +kernel
theorem d_Mo_word_84 : decode b_Mo_word 84 = .ok (.iload 5, 2) := by decide +kernel
theorem d_Mo_word_86 : decode b_Mo_word 86 = .ok (.imul, 1) := by decide +kernel
theorem d_Mo_word_87 : decode b_Mo_word 87 = .ok (.lshr, 1) := by decide +kernel
theorem d_Mo_word_88 : decode b_Mo_word 88 = .ok (.ldc2_w 149, 3) := by decide +kernel
theorem d_Mo_word_91 : decode b_Mo_word 91 = .ok (.land, 1) := by decide +kernel
theorem d_Mo_word_92 : decode b_Mo_word 92 = .ok (.l2i, 1) := by decide +kernel
theorem d_Mo_word_93 : decode b_Mo_word 93 = .ok (.iadd, 1) := by decide +kernel
theorem d_Mo_word_94 : decode b_Mo_word 94 = .ok (.iastore, 1) := by decide +kernel
theorem d_Mo_word_95 : decode b_Mo_word 95 = .ok (.iinc 5 1, 3) := by decide +kernel
theorem d_Mo_word_98 : decode b_Mo_word 98 = .ok (.goto (-36), 3) := by decide +kernel
theorem d_Mo_word_101 : decode b_Mo_word 101 = .ok (.aload_n 0, 1) := by decide +kernel
theorem d_Mo_word_102 : decode b_Mo_word 102 = .ok (.getfield 25, 3) := by decide +kernel
theorem d_Mo_word_105 : decode b_Mo_word 105 = .ok (.aload_n 0, 1) := by decide +kernel
theorem d_Mo_word_106 : decode b_Mo_word 106 = .ok (.getfield 140, 3) := by decide +kernel
theorem d_Mo_word_109 : decode b_Mo_word 109 = .ok (.iload 4, 2) := by decide +kernel
theorem d_Mo_word_111 : decode b_Mo_word 111 = .ok (.iadd, 1) := by decide +kernel
theorem d_Mo_word_112 : decode b_Mo_word 112 = .ok (.bipush 32, 2) := by decide +kernel
theorem d_Mo_word_114 : decode b_Mo_word 114 = .ok (.iastore, 1) := by decide +kernel
theorem d_Mo_word_115 : decode b_Mo_word 115 = .ok (.aload_n 0, 1) := by decide +kernel
theorem d_Mo_word_116 : decode b_Mo_word 116 = .ok (.dup, 1) := by decide +kernel
theorem d_Mo_word_117 : decode b_Mo_word 117 = .ok (.getfield 140, 3) := by decide +kernel
theorem d_Mo_word_120 : decode b_Mo_word 120 = .ok (.iload 4, 2) := by decide +kernel
theorem d_Mo_word_122 : decode b_Mo_word 122 = .ok (.iconst 1, 1) := by decide +kernel
theorem d_Mo_word_123 : decode b_Mo_word 123 = .ok (.iadd, 1) := by decide +kernel
theorem d_Mo_word_124 : decode b_Mo_word 124 = .ok (.iadd, 1) := by decide +kernel
theorem d_Mo_word_125 : decode b_Mo_word 125 = .ok (.putfield 140, 3) := by decide +kernel
theorem d_Mo_word_128 : decode b_Mo_word 128 = .ok (.iconst 1, 1) := by decide +kernel
theorem d_Mo_word_129 : decode b_Mo_word 129 = .ok (.ireturn, 1) := by decide +kernel
abbrev b_Mo_insert : ByteArray := prog_11_method_10_code
def y_Mo_insert : MethodName := ⟨"ProgramDeskModel", "insert", "(IC)V"⟩
theorem d_Mo_insert_0 : decode b_Mo_insert 0 = .ok (.aload_n 0, 1) := by decide +kernel
theorem d_Mo_insert_1 : decode b_Mo_insert 1 = .ok (.iload_n 2, 1) := by decide +kernel
theorem d_Mo_insert_2 : decode b_Mo_insert 2 = .ok (.invokestatic 136, 3) := by decide +kernel
theorem d_Mo_insert_5 : decode b_Mo_insert 5 = .ok (.ifCond .ne 7, 3) := by decide +kernel
theorem d_Mo_insert_8 : decode b_Mo_insert 8 = .ok (.iconst 1, 1) := by decide +kernel
theorem d_Mo_insert_9 : decode b_Mo_insert 9 = .ok (.goto 34, 3) := by decide +kernel
theorem d_Mo_insert_12 : decode b_Mo_insert 12 = .ok (.iload_n 1, 1) := by decide +kernel
theorem d_Mo_insert_13 : decode b_Mo_insert 13 = .ok (.ifCond .lt 11, 3) := by decide +kernel
theorem d_Mo_insert_16 : decode b_Mo_insert 16 = .ok (.iload_n 1, 1) := by decide +kernel
theorem d_Mo_insert_17 : decode b_Mo_insert 17 = .ok (.aload_n 0, 1) := by decide +kernel
theorem d_Mo_insert_18 : decode b_Mo_insert 18 = .ok (.getfield 140, 3) := by decide +kernel
theorem d_Mo_insert_21 : decode b_Mo_insert 21 = .ok (.if_icmp .le 7, 3) := by decide +kernel
theorem d_Mo_insert_24 : decode b_Mo_insert 24 = .ok (.iconst 2, 1) := by decide +kernel
theorem d_Mo_insert_25 : decode b_Mo_insert 25 = .ok (.goto 18, 3) := by decide +kernel
theorem d_Mo_insert_28 : decode b_Mo_insert 28 = .ok (.aload_n 0, 1) := by decide +kernel
theorem d_Mo_insert_29 : decode b_Mo_insert 29 = .ok (.getfield 140, 3) := by decide +kernel
theorem d_Mo_insert_32 : decode b_Mo_insert 32 = .ok (.sipush 240, 3) := by decide +kernel
theorem d_Mo_insert_35 : decode b_Mo_insert 35 = .ok (.if_icmp .ne 7, 3) := by decide +kernel
theorem d_Mo_insert_38 : decode b_Mo_insert 38 = .ok (.iconst 3, 1) := by decide +kernel
theorem d_Mo_insert_39 : decode b_Mo_insert 39 = .ok (.goto 4, 3) := by decide +kernel
theorem d_Mo_insert_42 : decode b_Mo_insert 42 = .ok (.iconst 0, 1) := by decide +kernel
theorem d_Mo_insert_43 : decode b_Mo_insert 43 = .ok (.putfield 132, 3) := by decide +kernel
theorem d_Mo_insert_46 : decode b_Mo_insert 46 = .ok (.aload_n 0, 1) := by decide +kernel
theorem d_Mo_insert_47 : decode b_Mo_insert 47 = .ok (.getfield 132, 3) := by decide +kernel
theorem d_Mo_insert_50 : decode b_Mo_insert 50 = .ok (.ifCond .eq 4, 3) := by decide +kernel
theorem d_Mo_insert_53 : decode b_Mo_insert 53 = .ok (.return_, 1) := by decide +kernel
theorem d_Mo_insert_54 : decode b_Mo_insert 54 = .ok (.aload_n 0, 1) := by decide +kernel
theorem d_Mo_insert_55 : decode b_Mo_insert 55 = .ok (.getfield 140, 3) := by decide +kernel
theorem d_Mo_insert_58 : decode b_Mo_insert 58 = .ok (.istore_n 3, 1) := by decide +kernel
theorem d_Mo_insert_59 : decode b_Mo_insert 59 = .ok (.iload_n 3, 1) := by decide +kernel
theorem d_Mo_insert_60 : decode b_Mo_insert 60 = .ok (.iload_n 1, 1) := by decide +kernel
theorem d_Mo_insert_61 : decode b_Mo_insert 61 = .ok (.if_icmp .le 23, 3) := by decide +kernel
theorem d_Mo_insert_64 : decode b_Mo_insert 64 = .ok (.aload_n 0, 1) := by decide +kernel
theorem d_Mo_insert_65 : decode b_Mo_insert 65 = .ok (.getfield 25, 3) := by decide +kernel
theorem d_Mo_insert_68 : decode b_Mo_insert 68 = .ok (.iload_n 3, 1) := by decide +kernel
theorem d_Mo_insert_69 : decode b_Mo_insert 69 = .ok (.aload_n 0, 1) := by decide +kernel
theorem d_Mo_insert_70 : decode b_Mo_insert 70 = .ok (.getfield 25, 3) := by decide +kernel
theorem d_Mo_insert_73 : decode b_Mo_insert 73 = .ok (.iload_n 3, 1) := by decide +kernel
theorem d_Mo_insert_74 : decode b_Mo_insert 74 = .ok (.iconst 1, 1) := by decide +kernel
theorem d_Mo_insert_75 : decode b_Mo_insert 75 = .ok (.isub, 1) := by decide +kernel
theorem d_Mo_insert_76 : decode b_Mo_insert 76 = .ok (.iaload, 1) := by decide +kernel
theorem d_Mo_insert_77 : decode b_Mo_insert 77 = .ok (.iastore, 1) := by decide +kernel
theorem d_Mo_insert_78 : decode b_Mo_insert 78 = .ok (.iinc 3 (-1), 3) := by decide +kernel
theorem d_Mo_insert_81 : decode b_Mo_insert 81 = .ok (.goto (-22), 3) := by decide +kernel
theorem d_Mo_insert_84 : decode b_Mo_insert 84 = .ok (.aload_n 0, 1) := by decide +kernel
theorem d_Mo_insert_85 : decode b_Mo_insert 85 = .ok (.getfield 25, 3) := by decide +kernel
theorem d_Mo_insert_88 : decode b_Mo_insert 88 = .ok (.iload_n 1, 1) := by decide +kernel
theorem d_Mo_insert_89 : decode b_Mo_insert 89 = .ok (.iload_n 2, 1) := by decide +kernel
theorem d_Mo_insert_90 : decode b_Mo_insert 90 = .ok (.iastore, 1) := by decide +kernel
theorem d_Mo_insert_91 : decode b_Mo_insert 91 = .ok (.aload_n 0, 1) := by decide +kernel
theorem d_Mo_insert_92 : decode b_Mo_insert 92 = .ok (.dup, 1) := by decide +kernel
theorem d_Mo_insert_93 : decode b_Mo_insert 93 = .ok (.getfield 140, 3) := by decide +kernel
theorem d_Mo_insert_96 : decode b_Mo_insert 96 = .ok (.iconst 1, 1) := by decide +kernel
theorem d_Mo_insert_97 : decode b_Mo_insert 97 = .ok (.iadd, 1) := by decide +kernel
theorem d_Mo_insert_98 : decode b_Mo_insert 98 = .ok (.putfield 140, 3) := by decide +kernel
theorem d_Mo_insert_101 : decode b_Mo_insert 101 = .ok (.return_, 1) := by decide +kernel
abbrev b_Mo_remove : ByteArray := prog_11_method_11_code
def y_Mo_remove : MethodName := ⟨"ProgramDeskModel", "remove", "(II)V"⟩
theorem d_Mo_remove_0 : decode b_Mo_remove 0 = .ok (.aload_n 0, 1) := by decide +kernel
theorem d_Mo_remove_1 : decode b_Mo_remove 1 = .ok (.iload_n 2, 1) := by decide +kernel
theorem d_Mo_remove_2 : decode b_Mo_remove 2 = .ok (.ifCond .ge 7, 3) := by decide +kernel
theorem d_Mo_remove_5 : decode b_Mo_remove 5 = .ok (.iconst 1, 1) := by decide +kernel
theorem d_Mo_remove_6 : decode b_Mo_remove 6 = .ok (.goto 26, 3) := by decide +kernel
theorem d_Mo_remove_9 : decode b_Mo_remove 9 = .ok (.iload_n 1, 1) := by decide +kernel
theorem d_Mo_remove_10 : decode b_Mo_remove 10 = .ok (.ifCond .lt 17, 3) := by decide +kernel
theorem d_Mo_remove_13 : decode b_Mo_remove 13 = .ok (.iload_n 1, 1) := by decide +kernel
theorem d_Mo_remove_14 : decode b_Mo_remove 14 = .ok (.i2l, 1) := by decide +kernel
theorem d_Mo_remove_15 : decode b_Mo_remove 15 = .ok (.iload_n 2, 1) := by decide +kernel
theorem d_Mo_remove_16 : decode b_Mo_remove 16 = .ok (.i2l, 1) := by decide +kernel
theorem d_Mo_remove_17 : decode b_Mo_remove 17 = .ok (.ladd, 1) := by decide +kernel
theorem d_Mo_remove_18 : decode b_Mo_remove 18 = .ok (.aload_n 0, 1) := by decide +kernel
theorem d_Mo_remove_19 : decode b_Mo_remove 19 = .ok (.getfield 140, 3) := by decide +kernel
theorem d_Mo_remove_22 : decode b_Mo_remove 22 = .ok (.i2l, 1) := by decide +kernel
theorem d_Mo_remove_23 : decode b_Mo_remove 23 = .ok (.lcmp, 1) := by decide +kernel
theorem d_Mo_remove_24 : decode b_Mo_remove 24 = .ok (.ifCond .le 7, 3) := by decide +kernel
theorem d_Mo_remove_27 : decode b_Mo_remove 27 = .ok (.iconst 2, 1) := by decide +kernel
theorem d_Mo_remove_28 : decode b_Mo_remove 28 = .ok (.goto 4, 3) := by decide +kernel
theorem d_Mo_remove_31 : decode b_Mo_remove 31 = .ok (.iconst 0, 1) := by decide +kernel
theorem d_Mo_remove_32 : decode b_Mo_remove 32 = .ok (.putfield 132, 3) := by decide +kernel
theorem d_Mo_remove_35 : decode b_Mo_remove 35 = .ok (.aload_n 0, 1) := by decide +kernel
theorem d_Mo_remove_36 : decode b_Mo_remove 36 = .ok (.getfield 132, 3) := by decide +kernel
theorem d_Mo_remove_39 : decode b_Mo_remove 39 = .ok (.ifCond .eq 4, 3) := by decide +kernel
theorem d_Mo_remove_42 : decode b_Mo_remove 42 = .ok (.return_, 1) := by decide +kernel
theorem d_Mo_remove_43 : decode b_Mo_remove 43 = .ok (.iload_n 1, 1) := by decide +kernel
theorem d_Mo_remove_44 : decode b_Mo_remove 44 = .ok (.istore_n 3, 1) := by decide +kernel
theorem d_Mo_remove_45 : decode b_Mo_remove 45 = .ok (.iload_n 3, 1) := by decide +kernel
theorem d_Mo_remove_46 : decode b_Mo_remove 46 = .ok (.iload_n 2, 1) := by decide +kernel
theorem d_Mo_remove_47 : decode b_Mo_remove 47 = .ok (.iadd, 1) := by decide +kernel
theorem d_Mo_remove_48 : decode b_Mo_remove 48 = .ok (.aload_n 0, 1) := by decide +kernel
theorem d_Mo_remove_49 : decode b_Mo_remove 49 = .ok (.getfield 140, 3) := by decide +kernel
theorem d_Mo_remove_52 : decode b_Mo_remove 52 = .ok (.if_icmp .ge 23, 3) := by decide +kernel
theorem d_Mo_remove_55 : decode b_Mo_remove 55 = .ok (.aload_n 0, 1) := by decide +kernel
theorem d_Mo_remove_56 : decode b_Mo_remove 56 = .ok (.getfield 25, 3) := by decide +kernel
theorem d_Mo_remove_59 : decode b_Mo_remove 59 = .ok (.iload_n 3, 1) := by decide +kernel
theorem d_Mo_remove_60 : decode b_Mo_remove 60 = .ok (.aload_n 0, 1) := by decide +kernel
theorem d_Mo_remove_61 : decode b_Mo_remove 61 = .ok (.getfield 25, 3) := by decide +kernel
theorem d_Mo_remove_64 : decode b_Mo_remove 64 = .ok (.iload_n 3, 1) := by decide +kernel
theorem d_Mo_remove_65 : decode b_Mo_remove 65 = .ok (.iload_n 2, 1) := by decide +kernel
theorem d_Mo_remove_66 : decode b_Mo_remove 66 = .ok (.iadd, 1) := by decide +kernel
theorem d_Mo_remove_67 : decode b_Mo_remove 67 = .ok (.iaload, 1) := by decide +kernel
theorem d_Mo_remove_68 : decode b_Mo_remove 68 = .ok (.iastore, 1) := by decide +kernel
theorem d_Mo_remove_69 : decode b_Mo_remove 69 = .ok (.iinc 3 1, 3) := by decide +kernel
theorem d_Mo_remove_72 : decode b_Mo_remove 72 = .ok (.goto (-27), 3) := by decide +kernel
theorem d_Mo_remove_75 : decode b_Mo_remove 75 = .ok (.aload_n 0, 1) := by decide +kernel
theorem d_Mo_remove_76 : decode b_Mo_remove 76 = .ok (.dup, 1) := by decide +kernel
theorem d_Mo_remove_77 : decode b_Mo_remove 77 = .ok (.getfield 140, 3) := by decide +kernel
theorem d_Mo_remove_80 : decode b_Mo_remove 80 = .ok (.iload_n 2, 1) := by decide +kernel
theorem d_Mo_remove_81 : decode b_Mo_remove 81 = .ok (.isub, 1) := by decide +kernel
theorem d_Mo_remove_82 : decode b_Mo_remove 82 = .ok (.putfield 140, 3) := by decide +kernel
theorem d_Mo_remove_85 : decode b_Mo_remove 85 = .ok (.return_, 1) := by decide +kernel
abbrev b_Mo_length : ByteArray := prog_11_method_12_code
def y_Mo_length : MethodName := ⟨"ProgramDeskModel", "length", "()I"⟩
theorem d_Mo_length_0 : decode b_Mo_length 0 = .ok (.aload_n 0, 1) := by decide +kernel
theorem d_Mo_length_1 : decode b_Mo_length 1 = .ok (.iconst 0, 1) := by decide +kernel
theorem d_Mo_length_2 : decode b_Mo_length 2 = .ok (.putfield 132, 3) := by decide +kernel
theorem d_Mo_length_5 : decode b_Mo_length 5 = .ok (.aload_n 0, 1) := by decide +kernel
theorem d_Mo_length_6 : decode b_Mo_length 6 = .ok (.getfield 140, 3) := by decide +kernel
theorem d_Mo_length_9 : decode b_Mo_length 9 = .ok (.ireturn, 1) := by decide +kernel
abbrev b_Mo_letter : ByteArray := prog_11_method_13_code
def y_Mo_letter : MethodName := ⟨"ProgramDeskModel", "letter", "(I)C"⟩
theorem d_Mo_letter_0 : decode b_Mo_letter 0 = .ok (.aload_n 0, 1) := by decide +kernel
theorem d_Mo_letter_1 : decode b_Mo_letter 1 = .ok (.iload_n 1, 1) := by decide +kernel
theorem d_Mo_letter_2 : decode b_Mo_letter 2 = .ok (.ifCond .lt 11, 3) := by decide +kernel
theorem d_Mo_letter_5 : decode b_Mo_letter 5 = .ok (.iload_n 1, 1) := by decide +kernel
theorem d_Mo_letter_6 : decode b_Mo_letter 6 = .ok (.aload_n 0, 1) := by decide +kernel
theorem d_Mo_letter_7 : decode b_Mo_letter 7 = .ok (.getfield 140, 3) := by decide +kernel
theorem d_Mo_letter_10 : decode b_Mo_letter 10 = .ok (.if_icmp .lt 7, 3) := by decide +kernel
theorem d_Mo_letter_13 : decode b_Mo_letter 13 = .ok (.iconst 1, 1) := by decide +kernel
theorem d_Mo_letter_14 : decode b_Mo_letter 14 = .ok (.goto 4, 3) := by decide +kernel
theorem d_Mo_letter_17 : decode b_Mo_letter 17 = .ok (.iconst 0, 1) := by decide +kernel
theorem d_Mo_letter_18 : decode b_Mo_letter 18 = .ok (.putfield 132, 3) := by decide +kernel
theorem d_Mo_letter_21 : decode b_Mo_letter 21 = .ok (.aload_n 0, 1) := by decide +kernel
theorem d_Mo_letter_22 : decode b_Mo_letter 22 = .ok (.getfield 132, 3) := by decide +kernel
theorem d_Mo_letter_25 : decode b_Mo_letter 25 = .ok (.ifCond .ne 13, 3) := by decide +kernel
theorem d_Mo_letter_28 : decode b_Mo_letter 28 = .ok (.aload_n 0, 1) := by decide +kernel
theorem d_Mo_letter_29 : decode b_Mo_letter 29 = .ok (.getfield 25, 3) := by decide +kernel
theorem d_Mo_letter_32 : decode b_Mo_letter 32 = .ok (.iload_n 1, 1) := by decide +kernel
theorem d_Mo_letter_33 : decode b_Mo_letter 33 = .ok (.iaload, 1) := by decide +kernel
theorem d_Mo_letter_34 : decode b_Mo_letter 34 = .ok (.i2c, 1) := by decide +kernel
theorem d_Mo_letter_35 : decode b_Mo_letter 35 = .ok (.goto 5, 3) := by decide +kernel
theorem d_Mo_letter_38 : decode b_Mo_letter 38 = .ok (.bipush 32, 2) := by decide +kernel
theorem d_Mo_letter_40 : decode b_Mo_letter 40 = .ok (.ireturn, 1) := by decide +kernel
abbrev b_Mo_isSign : ByteArray := prog_11_method_14_code
def y_Mo_isSign : MethodName := ⟨"ProgramDeskModel", "isSign", "(I)Z"⟩
theorem d_Mo_isSign_0 : decode b_Mo_isSign 0 = .ok (.iload_n 0, 1) := by decide +kernel
theorem d_Mo_isSign_1 : decode b_Mo_isSign 1 = .ok (.bipush 43, 2) := by decide +kernel
theorem d_Mo_isSign_3 : decode b_Mo_isSign 3 = .ok (.if_icmp .eq 63, 3) := by decide +kernel
theorem d_Mo_isSign_6 : decode b_Mo_isSign 6 = .ok (.iload_n 0, 1) := by decide +kernel
theorem d_Mo_isSign_7 : decode b_Mo_isSign 7 = .ok (.bipush 45, 2) := by decide +kernel
theorem d_Mo_isSign_9 : decode b_Mo_isSign 9 = .ok (.if_icmp .eq 57, 3) := by decide +kernel
theorem d_Mo_isSign_12 : decode b_Mo_isSign 12 = .ok (.iload_n 0, 1) := by decide +kernel
theorem d_Mo_isSign_13 : decode b_Mo_isSign 13 = .ok (.bipush 42, 2) := by decide +kernel
theorem d_Mo_isSign_15 : decode b_Mo_isSign 15 = .ok (.if_icmp .eq 51, 3) := by decide +kernel
theorem d_Mo_isSign_18 : decode b_Mo_isSign 18 = .ok (.iload_n 0, 1) := by decide +kernel
theorem d_Mo_isSign_19 : decode b_Mo_isSign 19 = .ok (.bipush 60, 2) := by decide +kernel
theorem d_Mo_isSign_21 : decode b_Mo_isSign 21 = .ok (.if_icmp .eq 45, 3) := by decide +kernel
theorem d_Mo_isSign_24 : decode b_Mo_isSign 24 = .ok (.iload_n 0, 1) := by decide +kernel
theorem d_Mo_isSign_25 : decode b_Mo_isSign 25 = .ok (.bipush 61, 2) := by decide +kernel
theorem d_Mo_isSign_27 : decode b_Mo_isSign 27 = .ok (.if_icmp .eq 39, 3) := by decide +kernel
theorem d_Mo_isSign_30 : decode b_Mo_isSign 30 = .ok (.iload_n 0, 1) := by decide +kernel
theorem d_Mo_isSign_31 : decode b_Mo_isSign 31 = .ok (.bipush 40, 2) := by decide +kernel
theorem d_Mo_isSign_33 : decode b_Mo_isSign 33 = .ok (.if_icmp .eq 33, 3) := by decide +kernel
theorem d_Mo_isSign_36 : decode b_Mo_isSign 36 = .ok (.iload_n 0, 1) := by decide +kernel
theorem d_Mo_isSign_37 : decode b_Mo_isSign 37 = .ok (.bipush 41, 2) := by decide +kernel
theorem d_Mo_isSign_39 : decode b_Mo_isSign 39 = .ok (.if_icmp .eq 27, 3) := by decide +kernel
theorem d_Mo_isSign_42 : decode b_Mo_isSign 42 = .ok (.iload_n 0, 1) := by decide +kernel
theorem d_Mo_isSign_43 : decode b_Mo_isSign 43 = .ok (.bipush 123, 2) := by decide +kernel
theorem d_Mo_isSign_45 : decode b_Mo_isSign 45 = .ok (.if_icmp .eq 21, 3) := by decide +kernel
theorem d_Mo_isSign_48 : decode b_Mo_isSign 48 = .ok (.iload_n 0, 1) := by decide +kernel
theorem d_Mo_isSign_49 : decode b_Mo_isSign 49 = .ok (.bipush 125, 2) := by decide +kernel
theorem d_Mo_isSign_51 : decode b_Mo_isSign 51 = .ok (.if_icmp .eq 15, 3) := by decide +kernel
theorem d_Mo_isSign_54 : decode b_Mo_isSign 54 = .ok (.iload_n 0, 1) := by decide +kernel
theorem d_Mo_isSign_55 : decode b_Mo_isSign 55 = .ok (.bipush 44, 2) := by decide +kernel
theorem d_Mo_isSign_57 : decode b_Mo_isSign 57 = .ok (.if_icmp .eq 9, 3) := by decide +kernel
theorem d_Mo_isSign_60 : decode b_Mo_isSign 60 = .ok (.iload_n 0, 1) := by decide +kernel
theorem d_Mo_isSign_61 : decode b_Mo_isSign 61 = .ok (.bipush 59, 2) := by decide +kernel
theorem d_Mo_isSign_63 : decode b_Mo_isSign 63 = .ok (.if_icmp .ne 7, 3) := by decide +kernel
theorem d_Mo_isSign_66 : decode b_Mo_isSign 66 = .ok (.iconst 1, 1) := by decide +kernel
theorem d_Mo_isSign_67 : decode b_Mo_isSign 67 = .ok (.goto 4, 3) := by decide +kernel
theorem d_Mo_isSign_70 : decode b_Mo_isSign 70 = .ok (.iconst 0, 1) := by decide +kernel
theorem d_Mo_isSign_71 : decode b_Mo_isSign 71 = .ok (.ireturn, 1) := by decide +kernel
abbrev b_Mo_behindRun : ByteArray := prog_11_method_15_code
def y_Mo_behindRun : MethodName := ⟨"ProgramDeskModel", "behindRun", "(IZ)I"⟩
theorem d_Mo_behindRun_0 : decode b_Mo_behindRun 0 = .ok (.iload_n 1, 1) := by decide +kernel
theorem d_Mo_behindRun_1 : decode b_Mo_behindRun 1 = .ok (.istore_n 3, 1) := by decide +kernel
theorem d_Mo_behindRun_2 : decode b_Mo_behindRun 2 = .ok (.iload_n 3, 1) := by decide +kernel
theorem d_Mo_behindRun_3 : decode b_Mo_behindRun 3 = .ok (.aload_n 0, 1) := by decide +kernel
theorem d_Mo_behindRun_4 : decode b_Mo_behindRun 4 = .ok (.getfield 140, 3) := by decide +kernel
theorem d_Mo_behindRun_7 : decode b_Mo_behindRun 7 = .ok (.if_icmp .ge 40, 3) := by decide +kernel
theorem d_Mo_behindRun_10 : decode b_Mo_behindRun 10 = .ok (.iload_n 2, 1) := by decide +kernel
theorem d_Mo_behindRun_11 : decode b_Mo_behindRun 11 = .ok (.ifCond .eq 18, 3) := by decide +kernel
theorem d_Mo_behindRun_14 : decode b_Mo_behindRun 14 = .ok (.aload_n 0, 1) := by decide +kernel
theorem d_Mo_behindRun_15 : decode b_Mo_behindRun 15 = .ok (.getfield 25, 3) := by decide +kernel
theorem d_Mo_behindRun_18 : decode b_Mo_behindRun 18 = .ok (.iload_n 3, 1) := by decide +kernel
theorem d_Mo_behindRun_19 : decode b_Mo_behindRun 19 = .ok (.iaload, 1) := by decide +kernel
theorem d_Mo_behindRun_20 : decode b_Mo_behindRun 20 = .ok (.invokestatic 151, 3) := by decide +kernel
theorem d_Mo_behindRun_23 : decode b_Mo_behindRun 23 = .ok (.ifCond .eq 24, 3) := by decide +kernel
theorem d_Mo_behindRun_26 : decode b_Mo_behindRun 26 = .ok (.goto 15, 3) := by decide +kernel
theorem d_Mo_behindRun_29 : decode b_Mo_behindRun 29 = .ok (.aload_n 0, 1) := by decide +kernel
theorem d_Mo_behindRun_30 : decode b_Mo_behindRun 30 = .ok (.getfield 25, 3) := by decide +kernel
theorem d_Mo_behindRun_33 : decode b_Mo_behindRun 33 = .ok (.iload_n 3, 1) := by decide +kernel
theorem d_Mo_behindRun_34 : decode b_Mo_behindRun 34 = .ok (.iaload, 1) := by decide +kernel
theorem d_Mo_behindRun_35 : decode b_Mo_behindRun 35 = .ok (.invokestatic 154, 3) := by decide +kernel
theorem d_Mo_behindRun_38 : decode b_Mo_behindRun 38 = .ok (.ifCond .eq 9, 3) := by decide +kernel
theorem d_Mo_behindRun_41 : decode b_Mo_behindRun 41 = .ok (.iinc 3 1, 3) := by decide +kernel
theorem d_Mo_behindRun_44 : decode b_Mo_behindRun 44 = .ok (.goto (-42), 3) := by decide +kernel
theorem d_Mo_behindRun_47 : decode b_Mo_behindRun 47 = .ok (.iload_n 3, 1) := by decide +kernel
theorem d_Mo_behindRun_48 : decode b_Mo_behindRun 48 = .ok (.ireturn, 1) := by decide +kernel
abbrev b_Mo_keyword : ByteArray := prog_11_method_16_code
def y_Mo_keyword : MethodName := ⟨"ProgramDeskModel", "keyword", "(J)I"⟩
theorem d_Mo_keyword_0 : decode b_Mo_keyword 0 = .ok (.iconst 0, 1) := by decide +kernel
theorem d_Mo_keyword_1 : decode b_Mo_keyword 1 = .ok (.istore_n 3, 1) := by decide +kernel
theorem d_Mo_keyword_2 : decode b_Mo_keyword 2 = .ok (.iload_n 3, 1) := by decide +kernel
theorem d_Mo_keyword_3 : decode b_Mo_keyword 3 = .ok (.bipush 6, 2) := by decide +kernel
theorem d_Mo_keyword_5 : decode b_Mo_keyword 5 = .ok (.if_icmp .ge 22, 3) := by decide +kernel
theorem d_Mo_keyword_8 : decode b_Mo_keyword 8 = .ok (.aload_n 0, 1) := by decide +kernel
theorem d_Mo_keyword_9 : decode b_Mo_keyword 9 = .ok (.getfield 19, 3) := by decide +kernel
theorem d_Mo_keyword_12 : decode b_Mo_keyword 12 = .ok (.iload_n 3, 1) := by decide +kernel
theorem d_Mo_keyword_13 : decode b_Mo_keyword 13 = .ok (.laload, 1) := by decide +kernel
theorem d_Mo_keyword_14 : decode b_Mo_keyword 14 = .ok (.lload_n 1, 1) := by decide +kernel
theorem d_Mo_keyword_15 : decode b_Mo_keyword 15 = .ok (.lcmp, 1) := by decide +kernel
theorem d_Mo_keyword_16 : decode b_Mo_keyword 16 = .ok (.ifCond .ne 5, 3) := by decide +kernel
theorem d_Mo_keyword_19 : decode b_Mo_keyword 19 = .ok (.iload_n 3, 1) := by decide +kernel
theorem d_Mo_keyword_20 : decode b_Mo_keyword 20 = .ok (.ireturn, 1) := by decide +kernel
theorem d_Mo_keyword_21 : decode b_Mo_keyword 21 = .ok (.iinc 3 1, 3) := by decide +kernel
theorem d_Mo_keyword_24 : decode b_Mo_keyword 24 = .ok (.goto (-22), 3) := by decide +kernel
theorem d_Mo_keyword_27 : decode b_Mo_keyword 27 = .ok (.iconst (-1), 1) := by decide +kernel
theorem d_Mo_keyword_28 : decode b_Mo_keyword 28 = .ok (.ireturn, 1) := by decide +kernel
abbrev b_Mo_scan : ByteArray := prog_11_method_17_code
def y_Mo_scan : MethodName := ⟨"ProgramDeskModel", "scan", "()V"⟩
theorem d_Mo_scan_0 : decode b_Mo_scan 0 = .ok (.aload_n 0, 1) := by decide +kernel
theorem d_Mo_scan_1 : decode b_Mo_scan 1 = .ok (.iconst 0, 1) := by decide +kernel
theorem d_Mo_scan_2 : decode b_Mo_scan 2 = .ok (.putfield 157, 3) := by decide +kernel
theorem d_Mo_scan_5 : decode b_Mo_scan 5 = .ok (.iconst 0, 1) := by decide +kernel
theorem d_Mo_scan_6 : decode b_Mo_scan 6 = .ok (.istore_n 1, 1) := by decide +kernel
theorem d_Mo_scan_7 : decode b_Mo_scan 7 = .ok (.iload_n 1, 1) := by decide +kernel
theorem d_Mo_scan_8 : decode b_Mo_scan 8 = .ok (.aload_n 0, 1) := by decide +kernel
theorem d_Mo_scan_9 : decode b_Mo_scan 9 = .ok (.getfield 140, 3) := by decide +kernel
theorem d_Mo_scan_12 : decode b_Mo_scan 12 = .ok (.if_icmp .ge 69, 3) := by decide +kernel
theorem d_Mo_scan_15 : decode b_Mo_scan 15 = .ok (.aload_n 0, 1) := by decide +kernel
theorem d_Mo_scan_16 : decode b_Mo_scan 16 = .ok (.getfield 25, 3) := by decide +kernel
theorem d_Mo_scan_19 : decode b_Mo_scan 19 = .ok (.iload_n 1, 1) := by decide +kernel
theorem d_Mo_scan_20 : decode b_Mo_scan 20 = .ok (.iaload, 1) := by decide +kernel
theorem d_Mo_scan_21 : decode b_Mo_scan 21 = .ok (.istore_n 2, 1) := by decide +kernel
theorem d_Mo_scan_22 : decode b_Mo_scan 22 = .ok (.iload_n 2, 1) := by decide +kernel
theorem d_Mo_scan_23 : decode b_Mo_scan 23 = .ok (.bipush 32, 2) := by decide +kernel
theorem d_Mo_scan_25 : decode b_Mo_scan 25 = .ok (.if_icmp .ne 9, 3) := by decide +kernel
theorem d_Mo_scan_28 : decode b_Mo_scan 28 = .ok (.iinc 1 1, 3) := by decide +kernel
theorem d_Mo_scan_31 : decode b_Mo_scan 31 = .ok (.goto 47, 3) := by decide +kernel
theorem d_Mo_scan_34 : decode b_Mo_scan 34 = .ok (.iload_n 2, 1) := by decide +kernel
theorem d_Mo_scan_35 : decode b_Mo_scan 35 = .ok (.invokestatic 151, 3) := by decide +kernel
theorem d_Mo_scan_38 : decode b_Mo_scan 38 = .ok (.ifCond .eq 12, 3) := by decide +kernel
theorem d_Mo_scan_41 : decode b_Mo_scan 41 = .ok (.aload_n 0, 1) := by decide +kernel
theorem d_Mo_scan_42 : decode b_Mo_scan 42 = .ok (.iload_n 1, 1) := by decide +kernel
theorem d_Mo_scan_43 : decode b_Mo_scan 43 = .ok (.iconst 1, 1) := by decide +kernel
theorem d_Mo_scan_44 : decode b_Mo_scan 44 = .ok (.invokevirtual 160, 3) := by decide +kernel
theorem d_Mo_scan_47 : decode b_Mo_scan 47 = .ok (.goto 22, 3) := by decide +kernel
theorem d_Mo_scan_50 : decode b_Mo_scan 50 = .ok (.iload_n 2, 1) := by decide +kernel
theorem d_Mo_scan_51 : decode b_Mo_scan 51 = .ok (.invokestatic 154, 3) := by decide +kernel
theorem d_Mo_scan_54 : decode b_Mo_scan 54 = .ok (.ifCond .eq 12, 3) := by decide +kernel
theorem d_Mo_scan_57 : decode b_Mo_scan 57 = .ok (.aload_n 0, 1) := by decide +kernel
theorem d_Mo_scan_58 : decode b_Mo_scan 58 = .ok (.iload_n 1, 1) := by decide +kernel
theorem d_Mo_scan_59 : decode b_Mo_scan 59 = .ok (.iconst 0, 1) := by decide +kernel
theorem d_Mo_scan_60 : decode b_Mo_scan 60 = .ok (.invokevirtual 160, 3) := by decide +kernel
theorem d_Mo_scan_63 : decode b_Mo_scan 63 = .ok (.goto 6, 3) := by decide +kernel
theorem d_Mo_scan_66 : decode b_Mo_scan 66 = .ok (.iload_n 1, 1) := by decide +kernel
theorem d_Mo_scan_67 : decode b_Mo_scan 67 = .ok (.iconst 1, 1) := by decide +kernel
theorem d_Mo_scan_68 : decode b_Mo_scan 68 = .ok (.iadd, 1) := by decide +kernel
theorem d_Mo_scan_69 : decode b_Mo_scan 69 = .ok (.istore_n 3, 1) := by decide +kernel
theorem d_Mo_scan_70 : decode b_Mo_scan 70 = .ok (.aload_n 0, 1) := by decide +kernel
theorem d_Mo_scan_71 : decode b_Mo_scan 71 = .ok (.iload_n 1, 1) := by decide +kernel
theorem d_Mo_scan_72 : decode b_Mo_scan 72 = .ok (.iload_n 3, 1) := by decide +kernel
theorem d_Mo_scan_73 : decode b_Mo_scan 73 = .ok (.invokevirtual 164, 3) := by decide +kernel
theorem d_Mo_scan_76 : decode b_Mo_scan 76 = .ok (.iload_n 3, 1) := by decide +kernel
theorem d_Mo_scan_77 : decode b_Mo_scan 77 = .ok (.istore_n 1, 1) := by decide +kernel
theorem d_Mo_scan_78 : decode b_Mo_scan 78 = .ok (.goto (-71), 3) := by decide +kernel
theorem d_Mo_scan_81 : decode b_Mo_scan 81 = .ok (.return_, 1) := by decide +kernel
abbrev b_Mo_makeToken : ByteArray := prog_11_method_18_code
def y_Mo_makeToken : MethodName := ⟨"ProgramDeskModel", "makeToken", "(II)V"⟩
theorem d_Mo_makeToken_0 : decode b_Mo_makeToken 0 = .ok (.aload_n 0, 1) := by decide +kernel
theorem d_Mo_makeToken_1 : decode b_Mo_makeToken 1 = .ok (.getfield 157, 3) := by decide +kernel
theorem d_Mo_makeToken_4 : decode b_Mo_makeToken 4 = .ok (.istore_n 3, 1) := by decide +kernel
theorem d_Mo_makeToken_5 : decode b_Mo_makeToken 5 = .ok (.aload_n 0, 1) := by decide +kernel
theorem d_Mo_makeToken_6 : decode b_Mo_makeToken 6 = .ok (.dup, 1) := by decide +kernel
theorem d_Mo_makeToken_7 : decode b_Mo_makeToken 7 = .ok (.getfield 157, 3) := by decide +kernel
theorem d_Mo_makeToken_10 : decode b_Mo_makeToken 10 = .ok (.iconst 1, 1) := by decide +kernel
theorem d_Mo_makeToken_11 : decode b_Mo_makeToken 11 = .ok (.iadd, 1) := by decide +kernel
theorem d_Mo_makeToken_12 : decode b_Mo_makeToken 12 = .ok (.putfield 157, 3) := by decide +kernel
theorem d_Mo_makeToken_15 : decode b_Mo_makeToken 15 = .ok (.aload_n 0, 1) := by decide +kernel
theorem d_Mo_makeToken_16 : decode b_Mo_makeToken 16 = .ok (.getfield 38, 3) := by decide +kernel
theorem d_Mo_makeToken_19 : decode b_Mo_makeToken 19 = .ok (.iload_n 3, 1) := by decide +kernel
theorem d_Mo_makeToken_20 : decode b_Mo_makeToken 20 = .ok (.iload_n 1, 1) := by decide +kernel
theorem d_Mo_makeToken_21 : decode b_Mo_makeToken 21 = .ok (.iastore, 1) := by decide +kernel
theorem d_Mo_makeToken_22 : decode b_Mo_makeToken 22 = .ok (.aload_n 0, 1) := by decide +kernel
theorem d_Mo_makeToken_23 : decode b_Mo_makeToken 23 = .ok (.getfield 41, 3) := by decide +kernel
theorem d_Mo_makeToken_26 : decode b_Mo_makeToken 26 = .ok (.iload_n 3, 1) := by decide +kernel
theorem d_Mo_makeToken_27 : decode b_Mo_makeToken 27 = .ok (.iload_n 2, 1) := by decide +kernel
theorem d_Mo_makeToken_28 : decode b_Mo_makeToken 28 = .ok (.iastore, 1) := by decide +kernel
theorem d_Mo_makeToken_29 : decode b_Mo_makeToken 29 = .ok (.aload_n 0, 1) := by decide +kernel
theorem d_Mo_makeToken_30 : decode b_Mo_makeToken 30 = .ok (.getfield 44, 3) := by decide +kernel
theorem d_Mo_makeToken_33 : decode b_Mo_makeToken 33 = .ok (.iload_n 3, 1) := by decide +kernel
theorem d_Mo_makeToken_34 : decode b_Mo_makeToken 34 = .ok (.lconst 0, 1) := by decide +kernel
theorem d_Mo_makeToken_35 : decode b_Mo_makeToken 35 = .ok (.lastore, 1) := by decide +kernel
theorem d_Mo_makeToken_36 : decode b_Mo_makeToken 36 = .ok (.aload_n 0, 1) := by decide +kernel
theorem d_Mo_makeToken_37 : decode b_Mo_makeToken 37 = .ok (.getfield 47, 3) := by decide +kernel
theorem d_Mo_makeToken_40 : decode b_Mo_makeToken 40 = .ok (.iload_n 3, 1) := by decide +kernel
theorem d_Mo_makeToken_41 : decode b_Mo_makeToken 41 = .ok (.iconst 0, 1) := by decide +kernel
theorem d_Mo_makeToken_42 : decode b_Mo_makeToken 42 = .ok (.iastore, 1) := by decide +kernel
theorem d_Mo_makeToken_43 : decode b_Mo_makeToken 43 = .ok (.aload_n 0, 1) := by decide +kernel
theorem d_Mo_makeToken_44 : decode b_Mo_makeToken 44 = .ok (.getfield 50, 3) := by decide +kernel
theorem d_Mo_makeToken_47 : decode b_Mo_makeToken 47 = .ok (.iload_n 3, 1) := by decide +kernel
theorem d_Mo_makeToken_48 : decode b_Mo_makeToken 48 = .ok (.iconst (-1), 1) := by decide +kernel
theorem d_Mo_makeToken_49 : decode b_Mo_makeToken 49 = .ok (.iastore, 1) := by decide +kernel
theorem d_Mo_makeToken_50 : decode b_Mo_makeToken 50 = .ok (.aload_n 0, 1) := by decide +kernel
theorem d_Mo_makeToken_51 : decode b_Mo_makeToken 51 = .ok (.getfield 56, 3) := by decide +kernel
theorem d_Mo_makeToken_54 : decode b_Mo_makeToken 54 = .ok (.iload_n 3, 1) := by decide +kernel
theorem d_Mo_makeToken_55 : decode b_Mo_makeToken 55 = .ok (.iconst 0, 1) := by decide +kernel
theorem d_Mo_makeToken_56 : decode b_Mo_makeToken 56 = .ok (.iastore, 1) := by decide +kernel
theorem d_Mo_makeToken_57 : decode b_Mo_makeToken 57 = .ok (.aload_n 0, 1) := by decide +kernel
theorem d_Mo_makeToken_58 : decode b_Mo_makeToken 58 = .ok (.getfield 62, 3) := by decide +kernel
theorem d_Mo_makeToken_61 : decode b_Mo_makeToken 61 = .ok (.iload_n 3, 1) := by decide +kernel
theorem d_Mo_makeToken_62 : decode b_Mo_makeToken 62 = .ok (.iconst 0, 1) := by decide +kernel
theorem d_Mo_makeToken_63 : decode b_Mo_makeToken 63 = .ok (.iastore, 1) := by decide +kernel
theorem d_Mo_makeToken_64 : decode b_Mo_makeToken 64 = .ok (.aload_n 0, 1) := by decide +kernel
theorem d_Mo_makeToken_65 : decode b_Mo_makeToken 65 = .ok (.getfield 65, 3) := by decide +kernel
theorem d_Mo_makeToken_68 : decode b_Mo_makeToken 68 = .ok (.iload_n 3, 1) := by decide +kernel
theorem d_Mo_makeToken_69 : decode b_Mo_makeToken 69 = .ok (.iconst 0, 1) := by decide +kernel
theorem d_Mo_makeToken_70 : decode b_Mo_makeToken 70 = .ok (.iastore, 1) := by decide +kernel
theorem d_Mo_makeToken_71 : decode b_Mo_makeToken 71 = .ok (.aload_n 0, 1) := by decide +kernel
theorem d_Mo_makeToken_72 : decode b_Mo_makeToken 72 = .ok (.getfield 25, 3) := by decide +kernel
theorem d_Mo_makeToken_75 : decode b_Mo_makeToken 75 = .ok (.iload_n 1, 1) := by decide +kernel
theorem d_Mo_makeToken_76 : decode b_Mo_makeToken 76 = .ok (.iaload, 1) := by decide +kernel
theorem d_Mo_makeToken_77 : decode b_Mo_makeToken 77 = .ok (.istore 4, 2) := by decide +kernel
theorem d_Mo_makeToken_79 : decode b_Mo_makeToken 79 = .ok (.iload 4, 2) := by decide +kernel
theorem d_Mo_makeToken_81 : decode b_Mo_makeToken 81 = .ok (.invokestatic 151, 3) := by decide +kernel
theorem d_Mo_makeToken_84 : decode b_Mo_makeToken 84 = .ok (.ifCond .eq 105, 3) := by decide +kernel
theorem d_Mo_makeToken_87 : decode b_Mo_makeToken 87 = .ok (.iload_n 2, 1) := by decide +kernel
theorem d_Mo_makeToken_88 : decode b_Mo_makeToken 88 = .ok (.iload_n 1, 1) := by decide +kernel
theorem d_Mo_makeToken_89 : decode b_Mo_makeToken 89 = .ok (.isub, 1) := by decide +kernel
theorem d_Mo_makeToken_90 : decode b_Mo_makeToken 90 = .ok (.bipush 6, 2) := by decide +kernel
theorem d_Mo_makeToken_92 : decode b_Mo_makeToken 92 = .ok (.if_icmp .gt 7, 3) := by decide +kernel
theorem d_Mo_makeToken_95 : decode b_Mo_makeToken 95 = .ok (.iconst 1, 1) := by decide +kernel
theorem d_Mo_makeToken_96 : decode b_Mo_makeToken 96 = .ok (.goto 4, 3) := by decide +kernel
theorem d_Mo_makeToken_99 : decode b_Mo_makeToken 99 = .ok (.iconst 0, 1) := by decide +kernel
theorem d_Mo_makeToken_100 : decode b_Mo_makeToken 100 = .ok (.istore 5, 2) := by decide +kernel
theorem d_Mo_makeToken_102 : decode b_Mo_makeToken 102 = .ok (.iload_n 1, 1) := by decide +kernel
theorem d_Mo_makeToken_103 : decode b_Mo_makeToken 103 = .ok (.istore 6, 2) := by decide +kernel
theorem d_Mo_makeToken_105 : decode b_Mo_makeToken 105 = .ok (.iload 6, 2) := by decide +kernel
theorem d_Mo_makeToken_107 : decode b_Mo_makeToken 107 = .ok (.iload_n 2, 1) := by decide +kernel
theorem d_Mo_makeToken_108 : decode b_Mo_makeToken 108 = .ok (.if_icmp .ge 45, 3) := by decide +kernel
theorem d_Mo_makeToken_111 : decode b_Mo_makeToken 111 = .ok (.iload 5, 2) := by decide +kernel
theorem d_Mo_makeToken_113 : decode b_Mo_makeToken 113 = .ok (.ifCond .eq 40, 3) := by decide +kernel
theorem d_Mo_makeToken_116 : decode b_Mo_makeToken 116 = .ok (.aload_n 0, 1) := by decide +kernel
theorem d_Mo_makeToken_117 : decode b_Mo_makeToken 117 = .ok (.getfield 44, 3) := by decide +kernel
theorem d_Mo_makeToken_120 : decode b_Mo_makeToken 120 = .ok (.iload_n 3, 1) := by decide +kernel
theorem d_Mo_makeToken_121 : decode b_Mo_makeToken 121 = .ok (.aload_n 0, 1) := by decide +kernel
theorem d_Mo_makeToken_122 : decode b_Mo_makeToken 122 = .ok (.getfield 44, 3) := by decide +kernel
theorem d_Mo_makeToken_125 : decode b_Mo_makeToken 125 = .ok (.iload_n 3, 1) := by decide +kernel
theorem d_Mo_makeToken_126 : decode b_Mo_makeToken 126 = .ok (.laload, 1) := by decide +kernel
theorem d_Mo_makeToken_127 : decode b_Mo_makeToken 127 = .ok (.aload_n 0, 1) := by decide +kernel
theorem d_Mo_makeToken_128 : decode b_Mo_makeToken 128 = .ok (.getfield 25, 3) := by decide +kernel
theorem d_Mo_makeToken_131 : decode b_Mo_makeToken 131 = .ok (.iload 6, 2) := by decide +kernel
theorem d_Mo_makeToken_133 : decode b_Mo_makeToken 133 = .ok (.iaload, 1) := by decide +kernel
theorem d_Mo_makeToken_134 : decode b_Mo_makeToken 134 = .ok (.bipush 96, 2) := by decide +kernel
theorem d_Mo_makeToken_136 : decode b_Mo_makeToken 136 = .ok (.isub, 1) := by decide +kernel
theorem d_Mo_makeToken_137 : decode b_Mo_makeToken 137 = .ok (.i2l, 1) := by decide +kernel
theorem d_Mo_makeToken_138 : decode b_Mo_makeToken 138 = .ok (.iconst 5, 1) := by decide +kernel
theorem d_Mo_makeToken_139 : decode b_Mo_makeToken 139 = .ok (.iload 6, 2) := by decide +kernel
theorem d_Mo_makeToken_141 : decode b_Mo_makeToken 141 = .ok (.iload_n 1, 1) := by decide +kernel
theorem d_Mo_makeToken_142 : decode b_Mo_makeToken 142 = .ok (.isub, 1) := by decide +kernel
theorem d_Mo_makeToken_143 : decode b_Mo_makeToken 143 = .ok (.imul, 1) := by decide +kernel
theorem d_Mo_makeToken_144 : decode b_Mo_makeToken 144 = .ok (.lshl, 1) := by decide +kernel
theorem d_Mo_makeToken_145 : decode b_Mo_makeToken 145 = .ok (.lor, 1) := by decide +kernel
theorem d_Mo_makeToken_146 : decode b_Mo_makeToken 146 = .ok (.lastore, 1) := by decide +kernel
theorem d_Mo_makeToken_147 : decode b_Mo_makeToken 147 = .ok (.iinc 6 1, 3) := by decide +kernel
theorem d_Mo_makeToken_150 : decode b_Mo_makeToken 150 = .ok (.goto (-45), 3) := by decide +kernel
theorem d_Mo_makeToken_153 : decode b_Mo_makeToken 153 = .ok (.aload_n 0, 1) := by decide +kernel
theorem d_Mo_makeToken_154 : decode b_Mo_makeToken 154 = .ok (.getfield 35, 3) := by decide +kernel
theorem d_Mo_makeToken_157 : decode b_Mo_makeToken 157 = .ok (.iload_n 3, 1) := by decide +kernel
theorem d_Mo_makeToken_158 : decode b_Mo_makeToken 158 = .ok (.iload 5, 2) := by decide +kernel
theorem d_Mo_makeToken_160 : decode b_Mo_makeToken 160 = .ok (.ifCond .ne 7, 3) := by decide +kernel
theorem d_Mo_makeToken_163 : decode b_Mo_makeToken 163 = .ok (.iconst 5, 1) := by decide +kernel
theorem d_Mo_makeToken_164 : decode b_Mo_makeToken 164 = .ok (.goto 21, 3) := by decide +kernel
theorem d_Mo_makeToken_167 : decode b_Mo_makeToken 167 = .ok (.aload_n 0, 1) := by decide +kernel
theorem d_Mo_makeToken_168 : decode b_Mo_makeToken 168 = .ok (.aload_n 0, 1) := by decide +kernel
theorem d_Mo_makeToken_169 : decode b_Mo_makeToken 169 = .ok (.getfield 44, 3) := by decide +kernel
theorem d_Mo_makeToken_172 : decode b_Mo_makeToken 172 = .ok (.iload_n 3, 1) := by decide +kernel
theorem d_Mo_makeToken_173 : decode b_Mo_makeToken 173 = .ok (.laload, 1) := by decide +kernel
theorem d_Mo_makeToken_174 : decode b_Mo_makeToken 174 = .ok (.invokevirtual 168, 3) := by decide +kernel
theorem d_Mo_makeToken_177 : decode b_Mo_makeToken 177 = .ok (.ifCond .lt 7, 3) := by decide +kernel
theorem d_Mo_makeToken_180 : decode b_Mo_makeToken 180 = .ok (.iconst 1, 1) := by decide +kernel
theorem d_Mo_makeToken_181 : decode b_Mo_makeToken 181 = .ok (.goto 4, 3) := by decide +kernel
theorem d_Mo_makeToken_184 : decode b_Mo_makeToken 184 = .ok (.iconst 2, 1) := by decide +kernel
theorem d_Mo_makeToken_185 : decode b_Mo_makeToken 185 = .ok (.iastore, 1) := by decide +kernel
theorem d_Mo_makeToken_186 : decode b_Mo_makeToken 186 = .ok (.goto 102, 3) := by decide +kernel
theorem d_Mo_makeToken_189 : decode b_Mo_makeToken 189 = .ok (.iload 4, 2) := by decide +kernel
theorem d_Mo_makeToken_191 : decode b_Mo_makeToken 191 = .ok (.invokestatic 154, 3) := by decide +kernel
theorem d_Mo_makeToken_194 : decode b_Mo_makeToken 194 = .ok (.ifCond .eq 75, 3) := by decide +kernel
theorem d_Mo_makeToken_197 : decode b_Mo_makeToken 197 = .ok (.aload_n 0, 1) := by decide +kernel
theorem d_Mo_makeToken_198 : decode b_Mo_makeToken 198 = .ok (.getfield 35, 3) := by decide +kernel
theorem d_Mo_makeToken_201 : decode b_Mo_makeToken 201 = .ok (.iload_n 3, 1) := by decide +kernel
theorem d_Mo_makeToken_202 : decode b_Mo_makeToken 202 = .ok (.iload_n 2, 1) := by decide +kernel
theorem d_Mo_makeToken_203 : decode b_Mo_makeToken 203 = .ok (.iload_n 1, 1) := by decide +kernel
theorem d_Mo_makeToken_204 : decode b_Mo_makeToken 204 = .ok (.isub, 1) := by decide +kernel
theorem d_Mo_makeToken_205 : decode b_Mo_makeToken 205 = .ok (.iconst 4, 1) := by decide +kernel
theorem d_Mo_makeToken_206 : decode b_Mo_makeToken 206 = .ok (.if_icmp .gt 7, 3) := by decide +kernel
theorem d_Mo_makeToken_209 : decode b_Mo_makeToken 209 = .ok (.iconst 3, 1) := by decide +kernel
theorem d_Mo_makeToken_210 : decode b_Mo_makeToken 210 = .ok (.goto 4, 3) := by decide +kernel
theorem d_Mo_makeToken_213 : decode b_Mo_makeToken 213 = .ok (.iconst 5, 1) := by decide +kernel
theorem d_Mo_makeToken_214 : decode b_Mo_makeToken 214 = .ok (.iastore, 1) := by decide +kernel
theorem d_Mo_makeToken_215 : decode b_Mo_makeToken 215 = .ok (.iload_n 1, 1) := by decide +kernel
theorem d_Mo_makeToken_216 : decode b_Mo_makeToken 216 = .ok (.istore 5, 2) := by decide +kernel
theorem d_Mo_makeToken_218 : decode b_Mo_makeToken 218 = .ok (.iload 5, 2) := by decide +kernel
theorem d_Mo_makeToken_220 : decode b_Mo_makeToken 220 = .ok (.iload_n 2, 1) := by decide +kernel
theorem d_Mo_makeToken_221 : decode b_Mo_makeToken 221 = .ok (.if_icmp .ge 45, 3) := by decide +kernel
theorem d_Mo_makeToken_224 : decode b_Mo_makeToken 224 = .ok (.iload_n 2, 1) := by decide +kernel
theorem d_Mo_makeToken_225 : decode b_Mo_makeToken 225 = .ok (.iload_n 1, 1) := by decide +kernel
theorem d_Mo_makeToken_226 : decode b_Mo_makeToken 226 = .ok (.isub, 1) := by decide +kernel
theorem d_Mo_makeToken_227 : decode b_Mo_makeToken 227 = .ok (.iconst 4, 1) := by decide +kernel
theorem d_Mo_makeToken_228 : decode b_Mo_makeToken 228 = .ok (.if_icmp .gt 38, 3) := by decide +kernel
theorem d_Mo_makeToken_231 : decode b_Mo_makeToken 231 = .ok (.aload_n 0, 1) := by decide +kernel
theorem d_Mo_makeToken_232 : decode b_Mo_makeToken 232 = .ok (.getfield 44, 3) := by decide +kernel
theorem d_Mo_makeToken_235 : decode b_Mo_makeToken 235 = .ok (.iload_n 3, 1) := by decide +kernel
theorem d_Mo_makeToken_236 : decode b_Mo_makeToken 236 = .ok (.ldc2_w 171, 3) := by decide +kernel
theorem d_Mo_makeToken_239 : decode b_Mo_makeToken 239 = .ok (.aload_n 0, 1) := by decide +kernel
theorem d_Mo_makeToken_240 : decode b_Mo_makeToken 240 = .ok (.getfield 44, 3) := by decide +kernel
theorem d_Mo_makeToken_243 : decode b_Mo_makeToken 243 = .ok (.iload_n 3, 1) := by decide +kernel
theorem d_Mo_makeToken_244 : decode b_Mo_makeToken 244 = .ok (.laload, 1) := by decide +kernel
theorem d_Mo_makeToken_245 : decode b_Mo_makeToken 245 = .ok (.lmul, 1) := by decide +kernel
theorem d_Mo_makeToken_246 : decode b_Mo_makeToken 246 = .ok (.aload_n 0, 1) := by decide +kernel
theorem d_Mo_makeToken_247 : decode b_Mo_makeToken 247 = .ok (.getfield 25, 3) := by decide +kernel
theorem d_Mo_makeToken_250 : decode b_Mo_makeToken 250 = .ok (.iload 5, 2) := by decide +kernel
theorem d_Mo_makeToken_252 : decode b_Mo_makeToken 252 = .ok (.iaload, 1) := by decide +kernel
theorem d_Mo_makeToken_253 : decode b_Mo_makeToken 253 = .ok (.i2l, 1) := by decide +kernel
theorem d_Mo_makeToken_254 : decode b_Mo_makeToken 254 = .ok (.ladd, 1) := by decide +kernel
theorem d_Mo_makeToken_255 : decode b_Mo_makeToken 255 = .ok (.ldc2_w 173, 3) := by decide +kernel
theorem d_Mo_makeToken_258 : decode b_Mo_makeToken 258 = .ok (.lsub, 1) := by decide +kernel
theorem d_Mo_makeToken_259 : decode b_Mo_makeToken 259 = .ok (.lastore, 1) := by decide +kernel
theorem d_Mo_makeToken_260 : decode b_Mo_makeToken 260 = .ok (.iinc 5 1, 3) := by decide +kernel
theorem d_Mo_makeToken_263 : decode b_Mo_makeToken 263 = .ok (.goto (-45), 3) := by decide +kernel
theorem d_Mo_makeToken_266 : decode b_Mo_makeToken 266 = .ok (.goto 22, 3) := by decide +kernel
theorem d_Mo_makeToken_269 : decode b_Mo_makeToken 269 = .ok (.aload_n 0, 1) := by decide +kernel
theorem d_Mo_makeToken_270 : decode b_Mo_makeToken 270 = .ok (.getfield 35, 3) := by decide +kernel
theorem d_Mo_makeToken_273 : decode b_Mo_makeToken 273 = .ok (.iload_n 3, 1) := by decide +kernel
theorem d_Mo_makeToken_274 : decode b_Mo_makeToken 274 = .ok (.iload 4, 2) := by decide +kernel
theorem d_Mo_makeToken_276 : decode b_Mo_makeToken 276 = .ok (.invokestatic 175, 3) := by decide +kernel
theorem d_Mo_makeToken_279 : decode b_Mo_makeToken 279 = .ok (.ifCond .eq 7, 3) := by decide +kernel
theorem d_Mo_makeToken_282 : decode b_Mo_makeToken 282 = .ok (.iconst 4, 1) := by decide +kernel
theorem d_Mo_makeToken_283 : decode b_Mo_makeToken 283 = .ok (.goto 4, 3) := by decide +kernel
theorem d_Mo_makeToken_286 : decode b_Mo_makeToken 286 = .ok (.iconst 5, 1) := by decide +kernel
theorem d_Mo_makeToken_287 : decode b_Mo_makeToken 287 = .ok (.iastore, 1) := by decide +kernel
theorem d_Mo_makeToken_288 : decode b_Mo_makeToken 288 = .ok (.return_, 1) := by decide +kernel
abbrev b_Mo_is : ByteArray := prog_11_method_19_code
def y_Mo_is : MethodName := ⟨"ProgramDeskModel", "is", "(II)Z"⟩
theorem d_Mo_is_0 : decode b_Mo_is 0 = .ok (.aload_n 0, 1) := by decide +kernel
theorem d_Mo_is_1 : decode b_Mo_is 1 = .ok (.getfield 35, 3) := by decide +kernel
theorem d_Mo_is_4 : decode b_Mo_is 4 = .ok (.iload_n 1, 1) := by decide +kernel
theorem d_Mo_is_5 : decode b_Mo_is 5 = .ok (.iaload, 1) := by decide +kernel
theorem d_Mo_is_6 : decode b_Mo_is 6 = .ok (.iconst 4, 1) := by decide +kernel
theorem d_Mo_is_7 : decode b_Mo_is 7 = .ok (.if_icmp .ne 22, 3) := by decide +kernel
theorem d_Mo_is_10 : decode b_Mo_is 10 = .ok (.aload_n 0, 1) := by decide +kernel
theorem d_Mo_is_11 : decode b_Mo_is 11 = .ok (.getfield 25, 3) := by decide +kernel
theorem d_Mo_is_14 : decode b_Mo_is 14 = .ok (.aload_n 0, 1) := by decide +kernel
theorem d_Mo_is_15 : decode b_Mo_is 15 = .ok (.getfield 38, 3) := by decide +kernel
theorem d_Mo_is_18 : decode b_Mo_is 18 = .ok (.iload_n 1, 1) := by decide +kernel
theorem d_Mo_is_19 : decode b_Mo_is 19 = .ok (.iaload, 1) := by decide +kernel
theorem d_Mo_is_20 : decode b_Mo_is 20 = .ok (.iaload, 1) := by decide +kernel
theorem d_Mo_is_21 : decode b_Mo_is 21 = .ok (.iload_n 2, 1) := by decide +kernel
theorem d_Mo_is_22 : decode b_Mo_is 22 = .ok (.if_icmp .ne 7, 3) := by decide +kernel
theorem d_Mo_is_25 : decode b_Mo_is 25 = .ok (.iconst 1, 1) := by decide +kernel
theorem d_Mo_is_26 : decode b_Mo_is 26 = .ok (.goto 4, 3) := by decide +kernel
theorem d_Mo_is_29 : decode b_Mo_is 29 = .ok (.iconst 0, 1) := by decide +kernel
theorem d_Mo_is_30 : decode b_Mo_is 30 = .ok (.ireturn, 1) := by decide +kernel
abbrev b_Mo_isFn : ByteArray := prog_11_method_20_code
def y_Mo_isFn : MethodName := ⟨"ProgramDeskModel", "isFn", "(I)Z"⟩
theorem d_Mo_isFn_0 : decode b_Mo_isFn 0 = .ok (.aload_n 0, 1) := by decide +kernel
theorem d_Mo_isFn_1 : decode b_Mo_isFn 1 = .ok (.getfield 35, 3) := by decide +kernel
theorem d_Mo_isFn_4 : decode b_Mo_isFn 4 = .ok (.iload_n 1, 1) := by decide +kernel
theorem d_Mo_isFn_5 : decode b_Mo_isFn 5 = .ok (.iaload, 1) := by decide +kernel
theorem d_Mo_isFn_6 : decode b_Mo_isFn 6 = .ok (.iconst 1, 1) := by decide +kernel
theorem d_Mo_isFn_7 : decode b_Mo_isFn 7 = .ok (.if_icmp .ne 20, 3) := by decide +kernel
theorem d_Mo_isFn_10 : decode b_Mo_isFn 10 = .ok (.aload_n 0, 1) := by decide +kernel
theorem d_Mo_isFn_11 : decode b_Mo_isFn 11 = .ok (.aload_n 0, 1) := by decide +kernel
theorem d_Mo_isFn_12 : decode b_Mo_isFn 12 = .ok (.getfield 44, 3) := by decide +kernel
theorem d_Mo_isFn_15 : decode b_Mo_isFn 15 = .ok (.iload_n 1, 1) := by decide +kernel
theorem d_Mo_isFn_16 : decode b_Mo_isFn 16 = .ok (.laload, 1) := by decide +kernel
theorem d_Mo_isFn_17 : decode b_Mo_isFn 17 = .ok (.invokevirtual 168, 3) := by decide +kernel
theorem d_Mo_isFn_20 : decode b_Mo_isFn 20 = .ok (.ifCond .ne 7, 3) := by decide +kernel
theorem d_Mo_isFn_23 : decode b_Mo_isFn 23 = .ok (.iconst 1, 1) := by decide +kernel
theorem d_Mo_isFn_24 : decode b_Mo_isFn 24 = .ok (.goto 4, 3) := by decide +kernel
theorem d_Mo_isFn_27 : decode b_Mo_isFn 27 = .ok (.iconst 0, 1) := by decide +kernel
theorem d_Mo_isFn_28 : decode b_Mo_isFn 28 = .ok (.ireturn, 1) := by decide +kernel
abbrev b_Mo_goesTo : ByteArray := prog_11_method_21_code
def y_Mo_goesTo : MethodName := ⟨"ProgramDeskModel", "goesTo", "(I)Z"⟩
theorem d_Mo_goesTo_0 : decode b_Mo_goesTo 0 = .ok (.aload_n 0, 1) := by decide +kernel
theorem d_Mo_goesTo_1 : decode b_Mo_goesTo 1 = .ok (.iload_n 1, 1) := by decide +kernel
theorem d_Mo_goesTo_2 : decode b_Mo_goesTo 2 = .ok (.putfield 178, 3) := by decide +kernel
theorem d_Mo_goesTo_5 : decode b_Mo_goesTo 5 = .ok (.iconst 1, 1) := by decide +kernel
theorem d_Mo_goesTo_6 : decode b_Mo_goesTo 6 = .ok (.ireturn, 1) := by decide +kernel
abbrev b_Mo_openBlock : ByteArray := prog_11_method_22_code
def y_Mo_openBlock : MethodName := ⟨"ProgramDeskModel", "openBlock", "(I)Z"⟩
theorem d_Mo_openBlock_0 : decode b_Mo_openBlock 0 = .ok (.aload_n 0, 1) := by decide +kernel
theorem d_Mo_openBlock_1 : decode b_Mo_openBlock 1 = .ok (.getfield 181, 3) := by decide +kernel
theorem d_Mo_openBlock_4 : decode b_Mo_openBlock 4 = .ok (.iconst 4, 1) := by decide +kernel
theorem d_Mo_openBlock_5 : decode b_Mo_openBlock 5 = .ok (.if_icmp .ne 5, 3) := by decide +kernel
theorem d_Mo_openBlock_8 : decode b_Mo_openBlock 8 = .ok (.iconst 0, 1) := by decide +kernel
theorem d_Mo_openBlock_9 : decode b_Mo_openBlock 9 = .ok (.ireturn, 1) := by decide +kernel
theorem d_Mo_openBlock_10 : decode b_Mo_openBlock 10 = .ok (.aload_n 0, 1) := by decide +kernel
theorem d_Mo_openBlock_11 : decode b_Mo_openBlock 11 = .ok (.getfield 83, 3) := by decide +kernel
theorem d_Mo_openBlock_14 : decode b_Mo_openBlock 14 = .ok (.aload_n 0, 1) := by decide +kernel
theorem d_Mo_openBlock_15 : decode b_Mo_openBlock 15 = .ok (.getfield 181, 3) := by decide +kernel
theorem d_Mo_openBlock_18 : decode b_Mo_openBlock 18 = .ok (.iload_n 1, 1) := by decide +kernel
theorem d_Mo_openBlock_19 : decode b_Mo_openBlock 19 = .ok (.iastore, 1) := by decide +kernel
theorem d_Mo_openBlock_20 : decode b_Mo_openBlock 20 = .ok (.aload_n 0, 1) := by decide +kernel
theorem d_Mo_openBlock_21 : decode b_Mo_openBlock 21 = .ok (.dup, 1) := by decide +kernel
theorem d_Mo_openBlock_22 : decode b_Mo_openBlock 22 = .ok (.getfield 181, 3) := by decide +kernel
theorem d_Mo_openBlock_25 : decode b_Mo_openBlock 25 = .ok (.iconst 1, 1) := by decide +kernel
theorem d_Mo_openBlock_26 : decode b_Mo_openBlock 26 = .ok (.iadd, 1) := by decide +kernel
theorem d_Mo_openBlock_27 : decode b_Mo_openBlock 27 = .ok (.putfield 181, 3) := by decide +kernel
theorem d_Mo_openBlock_30 : decode b_Mo_openBlock 30 = .ok (.aload_n 0, 1) := by decide +kernel
theorem d_Mo_openBlock_31 : decode b_Mo_openBlock 31 = .ok (.bipush 6, 2) := by decide +kernel
theorem d_Mo_openBlock_33 : decode b_Mo_openBlock 33 = .ok (.invokevirtual 184, 3) := by decide +kernel
theorem d_Mo_openBlock_36 : decode b_Mo_openBlock 36 = .ok (.ireturn, 1) := by decide +kernel
abbrev b_Mo_closeBlock : ByteArray := prog_11_method_23_code
def y_Mo_closeBlock : MethodName := ⟨"ProgramDeskModel", "closeBlock", "(I)Z"⟩
theorem d_Mo_closeBlock_0 : decode b_Mo_closeBlock 0 = .ok (.aload_n 0, 1) := by decide +kernel
theorem d_Mo_closeBlock_1 : decode b_Mo_closeBlock 1 = .ok (.dup, 1) := by decide +kernel
theorem d_Mo_closeBlock_2 : decode b_Mo_closeBlock 2 = .ok (.getfield 181, 3) := by decide +kernel
theorem d_Mo_closeBlock_5 : decode b_Mo_closeBlock 5 = .ok (.iconst 1, 1) := by decide +kernel
theorem d_Mo_closeBlock_6 : decode b_Mo_closeBlock 6 = .ok (.isub, 1) := by decide +kernel
theorem d_Mo_closeBlock_7 : decode b_Mo_closeBlock 7 = .ok (.putfield 181, 3) := by decide +kernel
theorem d_Mo_closeBlock_10 : decode b_Mo_closeBlock 10 = .ok (.aload_n 0, 1) := by decide +kernel
theorem d_Mo_closeBlock_11 : decode b_Mo_closeBlock 11 = .ok (.getfield 83, 3) := by decide +kernel
theorem d_Mo_closeBlock_14 : decode b_Mo_closeBlock 14 = .ok (.aload_n 0, 1) := by decide +kernel
theorem d_Mo_closeBlock_15 : decode b_Mo_closeBlock 15 = .ok (.getfield 181, 3) := by decide +kernel
theorem d_Mo_closeBlock_18 : decode b_Mo_closeBlock 18 = .ok (.iaload, 1) := by decide +kernel
theorem d_Mo_closeBlock_19 : decode b_Mo_closeBlock 19 = .ok (.istore_n 2, 1) := by decide +kernel
theorem d_Mo_closeBlock_20 : decode b_Mo_closeBlock 20 = .ok (.iload_n 2, 1) := by decide +kernel
theorem d_Mo_closeBlock_21 : decode b_Mo_closeBlock 21 = .ok (.istore_n 3, 1) := by decide +kernel
theorem d_Mo_closeBlock_22 : decode b_Mo_closeBlock 22 = .ok (.iload_n 3, 1) := by decide +kernel
theorem d_Mo_closeBlock_23 : decode b_Mo_closeBlock 23 = .ok (.iload_n 1, 1) := by decide +kernel
theorem d_Mo_closeBlock_24 : decode b_Mo_closeBlock 24 = .ok (.if_icmp .ge 36, 3) := by decide +kernel
theorem d_Mo_closeBlock_27 : decode b_Mo_closeBlock 27 = .ok (.aload_n 0, 1) := by decide +kernel
theorem d_Mo_closeBlock_28 : decode b_Mo_closeBlock 28 = .ok (.getfield 47, 3) := by decide +kernel
theorem d_Mo_closeBlock_31 : decode b_Mo_closeBlock 31 = .ok (.iload_n 3, 1) := by decide +kernel
theorem d_Mo_closeBlock_32 : decode b_Mo_closeBlock 32 = .ok (.iaload, 1) := by decide +kernel
theorem d_Mo_closeBlock_33 : decode b_Mo_closeBlock 33 = .ok (.iconst 3, 1) := by decide +kernel
theorem d_Mo_closeBlock_34 : decode b_Mo_closeBlock 34 = .ok (.if_icmp .ne 20, 3) := by decide +kernel
theorem d_Mo_closeBlock_37 : decode b_Mo_closeBlock 37 = .ok (.aload_n 0, 1) := by decide +kernel
theorem d_Mo_closeBlock_38 : decode b_Mo_closeBlock 38 = .ok (.getfield 59, 3) := by decide +kernel
theorem d_Mo_closeBlock_41 : decode b_Mo_closeBlock 41 = .ok (.iload_n 3, 1) := by decide +kernel
theorem d_Mo_closeBlock_42 : decode b_Mo_closeBlock 42 = .ok (.iaload, 1) := by decide +kernel
theorem d_Mo_closeBlock_43 : decode b_Mo_closeBlock 43 = .ok (.iload_n 2, 1) := by decide +kernel
theorem d_Mo_closeBlock_44 : decode b_Mo_closeBlock 44 = .ok (.if_icmp .ne 10, 3) := by decide +kernel
theorem d_Mo_closeBlock_47 : decode b_Mo_closeBlock 47 = .ok (.aload_n 0, 1) := by decide +kernel
theorem d_Mo_closeBlock_48 : decode b_Mo_closeBlock 48 = .ok (.getfield 65, 3) := by decide +kernel
theorem d_Mo_closeBlock_51 : decode b_Mo_closeBlock 51 = .ok (.iload_n 3, 1) := by decide +kernel
theorem d_Mo_closeBlock_52 : decode b_Mo_closeBlock 52 = .ok (.iload_n 1, 1) := by decide +kernel
theorem d_Mo_closeBlock_53 : decode b_Mo_closeBlock 53 = .ok (.iastore, 1) := by decide +kernel
theorem d_Mo_closeBlock_54 : decode b_Mo_closeBlock 54 = .ok (.iinc 3 1, 3) := by decide +kernel
theorem d_Mo_closeBlock_57 : decode b_Mo_closeBlock 57 = .ok (.goto (-35), 3) := by decide +kernel
theorem d_Mo_closeBlock_60 : decode b_Mo_closeBlock 60 = .ok (.aload_n 0, 1) := by decide +kernel
theorem d_Mo_closeBlock_61 : decode b_Mo_closeBlock 61 = .ok (.aload_n 0, 1) := by decide +kernel
theorem d_Mo_closeBlock_62 : decode b_Mo_closeBlock 62 = .ok (.getfield 181, 3) := by decide +kernel
theorem d_Mo_closeBlock_65 : decode b_Mo_closeBlock 65 = .ok (.ifCond .ne 8, 3) := by decide +kernel
theorem d_Mo_closeBlock_68 : decode b_Mo_closeBlock 68 = .ok (.bipush 13, 2) := by decide +kernel
theorem d_Mo_closeBlock_70 : decode b_Mo_closeBlock 70 = .ok (.goto 5, 3) := by decide +kernel
theorem d_Mo_closeBlock_73 : decode b_Mo_closeBlock 73 = .ok (.bipush 6, 2) := by decide +kernel
theorem d_Mo_closeBlock_75 : decode b_Mo_closeBlock 75 = .ok (.invokevirtual 184, 3) := by decide +kernel
theorem d_Mo_closeBlock_78 : decode b_Mo_closeBlock 78 = .ok (.ireturn, 1) := by decide +kernel
abbrev b_Mo_expression : ByteArray := prog_11_method_24_code
def y_Mo_expression : MethodName := ⟨"ProgramDeskModel", "expression", "(I)Z"⟩
theorem d_Mo_expression_0 : decode b_Mo_expression 0 = .ok (.aload_n 0, 1) := by decide +kernel
theorem d_Mo_expression_1 : decode b_Mo_expression 1 = .ok (.iload_n 1, 1) := by decide +kernel
theorem d_Mo_expression_2 : decode b_Mo_expression 2 = .ok (.putfield 187, 3) := by decide +kernel
theorem d_Mo_expression_5 : decode b_Mo_expression 5 = .ok (.aload_n 0, 1) := by decide +kernel
theorem d_Mo_expression_6 : decode b_Mo_expression 6 = .ok (.iconst 0, 1) := by decide +kernel
theorem d_Mo_expression_7 : decode b_Mo_expression 7 = .ok (.putfield 190, 3) := by decide +kernel
theorem d_Mo_expression_10 : decode b_Mo_expression 10 = .ok (.aload_n 0, 1) := by decide +kernel
theorem d_Mo_expression_11 : decode b_Mo_expression 11 = .ok (.getfield 89, 3) := by decide +kernel
theorem d_Mo_expression_14 : decode b_Mo_expression 14 = .ok (.iconst 0, 1) := by decide +kernel
theorem d_Mo_expression_15 : decode b_Mo_expression 15 = .ok (.iconst 0, 1) := by decide +kernel
theorem d_Mo_expression_16 : decode b_Mo_expression 16 = .ok (.bastore, 1) := by decide +kernel
theorem d_Mo_expression_17 : decode b_Mo_expression 17 = .ok (.aload_n 0, 1) := by decide +kernel
theorem d_Mo_expression_18 : decode b_Mo_expression 18 = .ok (.bipush 9, 2) := by decide +kernel
theorem d_Mo_expression_20 : decode b_Mo_expression 20 = .ok (.invokevirtual 184, 3) := by decide +kernel
theorem d_Mo_expression_23 : decode b_Mo_expression 23 = .ok (.ireturn, 1) := by decide +kernel
abbrev b_Mo_openFrame : ByteArray := prog_11_method_25_code
def y_Mo_openFrame : MethodName := ⟨"ProgramDeskModel", "openFrame", "(I)Z"⟩
theorem d_Mo_openFrame_0 : decode b_Mo_openFrame 0 = .ok (.aload_n 0, 1) := by decide +kernel
theorem d_Mo_openFrame_1 : decode b_Mo_openFrame 1 = .ok (.getfield 190, 3) := by decide +kernel
theorem d_Mo_openFrame_4 : decode b_Mo_openFrame 4 = .ok (.iconst 4, 1) := by decide +kernel
theorem d_Mo_openFrame_5 : decode b_Mo_openFrame 5 = .ok (.if_icmp .ne 5, 3) := by decide +kernel
theorem d_Mo_openFrame_8 : decode b_Mo_openFrame 8 = .ok (.iconst 0, 1) := by decide +kernel
theorem d_Mo_openFrame_9 : decode b_Mo_openFrame 9 = .ok (.ireturn, 1) := by decide +kernel
theorem d_Mo_openFrame_10 : decode b_Mo_openFrame 10 = .ok (.aload_n 0, 1) := by decide +kernel
theorem d_Mo_openFrame_11 : decode b_Mo_openFrame 11 = .ok (.dup, 1) := by decide +kernel
theorem d_Mo_openFrame_12 : decode b_Mo_openFrame 12 = .ok (.getfield 190, 3) := by decide +kernel
theorem d_Mo_openFrame_15 : decode b_Mo_openFrame 15 = .ok (.iconst 1, 1) := by decide +kernel
theorem d_Mo_openFrame_16 : decode b_Mo_openFrame 16 = .ok (.iadd, 1) := by decide +kernel
theorem d_Mo_openFrame_17 : decode b_Mo_openFrame 17 = .ok (.putfield 190, 3) := by decide +kernel
theorem d_Mo_openFrame_20 : decode b_Mo_openFrame 20 = .ok (.aload_n 0, 1) := by decide +kernel
theorem d_Mo_openFrame_21 : decode b_Mo_openFrame 21 = .ok (.getfield 86, 3) := by decide +kernel
theorem d_Mo_openFrame_24 : decode b_Mo_openFrame 24 = .ok (.aload_n 0, 1) := by decide +kernel
theorem d_Mo_openFrame_25 : decode b_Mo_openFrame 25 = .ok (.getfield 190, 3) := by decide +kernel
theorem d_Mo_openFrame_28 : decode b_Mo_openFrame 28 = .ok (.iload_n 1, 1) := by decide +kernel
theorem d_Mo_openFrame_29 : decode b_Mo_openFrame 29 = .ok (.iastore, 1) := by decide +kernel
theorem d_Mo_openFrame_30 : decode b_Mo_openFrame 30 = .ok (.aload_n 0, 1) := by decide +kernel
theorem d_Mo_openFrame_31 : decode b_Mo_openFrame 31 = .ok (.getfield 89, 3) := by decide +kernel
theorem d_Mo_openFrame_34 : decode b_Mo_openFrame 34 = .ok (.aload_n 0, 1) := by decide +kernel
theorem d_Mo_openFrame_35 : decode b_Mo_openFrame 35 = .ok (.getfield 190, 3) := by decide +kernel
theorem d_Mo_openFrame_38 : decode b_Mo_openFrame 38 = .ok (.iconst 0, 1) := by decide +kernel
theorem d_Mo_openFrame_39 : decode b_Mo_openFrame 39 = .ok (.bastore, 1) := by decide +kernel
theorem d_Mo_openFrame_40 : decode b_Mo_openFrame 40 = .ok (.aload_n 0, 1) := by decide +kernel
theorem d_Mo_openFrame_41 : decode b_Mo_openFrame 41 = .ok (.iload_n 1, 1) := by decide +kernel
theorem d_Mo_openFrame_42 : decode b_Mo_openFrame 42 = .ok (.ifCond .ge 8, 3) := by decide +kernel
theorem d_Mo_openFrame_45 : decode b_Mo_openFrame 45 = .ok (.bipush 9, 2) := by decide +kernel
theorem d_Mo_openFrame_47 : decode b_Mo_openFrame 47 = .ok (.goto 5, 3) := by decide +kernel
theorem d_Mo_openFrame_50 : decode b_Mo_openFrame 50 = .ok (.bipush 10, 2) := by decide +kernel
theorem d_Mo_openFrame_52 : decode b_Mo_openFrame 52 = .ok (.invokevirtual 184, 3) := by decide +kernel
theorem d_Mo_openFrame_55 : decode b_Mo_openFrame 55 = .ok (.ireturn, 1) := by decide +kernel
abbrev b_Mo_head : ByteArray := prog_11_method_26_code
def y_Mo_head : MethodName := ⟨"ProgramDeskModel", "head", "(II)Z"⟩
theorem d_Mo_head_0 : decode b_Mo_head 0 = .ok (.aload_n 0, 1) := by decide +kernel
theorem d_Mo_head_1 : decode b_Mo_head 1 = .ok (.getfield 35, 3) := by decide +kernel
theorem d_Mo_head_4 : decode b_Mo_head 4 = .ok (.iload_n 1, 1) := by decide +kernel
theorem d_Mo_head_5 : decode b_Mo_head 5 = .ok (.iaload, 1) := by decide +kernel
theorem d_Mo_head_6 : decode b_Mo_head 6 = .ok (.iconst 2, 1) := by decide +kernel
theorem d_Mo_head_7 : decode b_Mo_head 7 = .ok (.if_icmp .ne 7, 3) := by decide +kernel
theorem d_Mo_head_10 : decode b_Mo_head 10 = .ok (.iconst 1, 1) := by decide +kernel
theorem d_Mo_head_11 : decode b_Mo_head 11 = .ok (.goto 4, 3) := by decide +kernel
theorem d_Mo_head_14 : decode b_Mo_head 14 = .ok (.iconst 0, 1) := by decide +kernel
theorem d_Mo_head_15 : decode b_Mo_head 15 = .ok (.istore_n 3, 1) := by decide +kernel
theorem d_Mo_head_16 : decode b_Mo_head 16 = .ok (.aload_n 0, 1) := by decide +kernel
theorem d_Mo_head_17 : decode b_Mo_head 17 = .ok (.getfield 178, 3) := by decide +kernel
theorem d_Mo_head_20 : decode b_Mo_head 20 = .ok (.ifCond .ne 28, 3) := by decide +kernel
theorem d_Mo_head_23 : decode b_Mo_head 23 = .ok (.aload_n 0, 1) := by decide +kernel
theorem d_Mo_head_24 : decode b_Mo_head 24 = .ok (.getfield 47, 3) := by decide +kernel
theorem d_Mo_head_27 : decode b_Mo_head 27 = .ok (.iload_n 1, 1) := by decide +kernel
theorem d_Mo_head_28 : decode b_Mo_head 28 = .ok (.iconst 1, 1) := by decide +kernel
theorem d_Mo_head_29 : decode b_Mo_head 29 = .ok (.iastore, 1) := by decide +kernel
theorem d_Mo_head_30 : decode b_Mo_head 30 = .ok (.iload_n 3, 1) := by decide +kernel
theorem d_Mo_head_31 : decode b_Mo_head 31 = .ok (.ifCond .eq 15, 3) := by decide +kernel
theorem d_Mo_head_34 : decode b_Mo_head 34 = .ok (.aload_n 0, 1) := by decide +kernel
theorem d_Mo_head_35 : decode b_Mo_head 35 = .ok (.iconst 1, 1) := by decide +kernel
theorem d_Mo_head_36 : decode b_Mo_head 36 = .ok (.invokevirtual 184, 3) := by decide +kernel
theorem d_Mo_head_39 : decode b_Mo_head 39 = .ok (.ifCond .eq 7, 3) := by decide +kernel
theorem d_Mo_head_42 : decode b_Mo_head 42 = .ok (.iconst 1, 1) := by decide +kernel
theorem d_Mo_head_43 : decode b_Mo_head 43 = .ok (.goto 4, 3) := by decide +kernel
theorem d_Mo_head_46 : decode b_Mo_head 46 = .ok (.iconst 0, 1) := by decide +kernel
theorem d_Mo_head_47 : decode b_Mo_head 47 = .ok (.ireturn, 1) := by decide +kernel
theorem d_Mo_head_48 : decode b_Mo_head 48 = .ok (.aload_n 0, 1) := by decide +kernel
theorem d_Mo_head_49 : decode b_Mo_head 49 = .ok (.getfield 178, 3) := by decide +kernel
theorem d_Mo_head_52 : decode b_Mo_head 52 = .ok (.iconst 1, 1) := by decide +kernel
theorem d_Mo_head_53 : decode b_Mo_head 53 = .ok (.if_icmp .ne 27, 3) := by decide +kernel
theorem d_Mo_head_56 : decode b_Mo_head 56 = .ok (.aload_n 0, 1) := by decide +kernel
theorem d_Mo_head_57 : decode b_Mo_head 57 = .ok (.iload_n 1, 1) := by decide +kernel
theorem d_Mo_head_58 : decode b_Mo_head 58 = .ok (.bipush 40, 2) := by decide +kernel
theorem d_Mo_head_60 : decode b_Mo_head 60 = .ok (.invokevirtual 193, 3) := by decide +kernel
theorem d_Mo_head_63 : decode b_Mo_head 63 = .ok (.ifCond .eq 15, 3) := by decide +kernel
theorem d_Mo_head_66 : decode b_Mo_head 66 = .ok (.aload_n 0, 1) := by decide +kernel
theorem d_Mo_head_67 : decode b_Mo_head 67 = .ok (.iconst 2, 1) := by decide +kernel
theorem d_Mo_head_68 : decode b_Mo_head 68 = .ok (.invokevirtual 184, 3) := by decide +kernel
theorem d_Mo_head_71 : decode b_Mo_head 71 = .ok (.ifCond .eq 7, 3) := by decide +kernel
theorem d_Mo_head_74 : decode b_Mo_head 74 = .ok (.iconst 1, 1) := by decide +kernel
theorem d_Mo_head_75 : decode b_Mo_head 75 = .ok (.goto 4, 3) := by decide +kernel
theorem d_Mo_head_78 : decode b_Mo_head 78 = .ok (.iconst 0, 1) := by decide +kernel
theorem d_Mo_head_79 : decode b_Mo_head 79 = .ok (.ireturn, 1) := by decide +kernel
theorem d_Mo_head_80 : decode b_Mo_head 80 = .ok (.aload_n 0, 1) := by decide +kernel
theorem d_Mo_head_81 : decode b_Mo_head 81 = .ok (.getfield 178, 3) := by decide +kernel
theorem d_Mo_head_84 : decode b_Mo_head 84 = .ok (.iconst 5, 1) := by decide +kernel
theorem d_Mo_head_85 : decode b_Mo_head 85 = .ok (.if_icmp .ne 27, 3) := by decide +kernel
theorem d_Mo_head_88 : decode b_Mo_head 88 = .ok (.aload_n 0, 1) := by decide +kernel
theorem d_Mo_head_89 : decode b_Mo_head 89 = .ok (.iload_n 1, 1) := by decide +kernel
theorem d_Mo_head_90 : decode b_Mo_head 90 = .ok (.bipush 123, 2) := by decide +kernel
theorem d_Mo_head_92 : decode b_Mo_head 92 = .ok (.invokevirtual 193, 3) := by decide +kernel
theorem d_Mo_head_95 : decode b_Mo_head 95 = .ok (.ifCond .eq 15, 3) := by decide +kernel
theorem d_Mo_head_98 : decode b_Mo_head 98 = .ok (.aload_n 0, 1) := by decide +kernel
theorem d_Mo_head_99 : decode b_Mo_head 99 = .ok (.iload_n 1, 1) := by decide +kernel
theorem d_Mo_head_100 : decode b_Mo_head 100 = .ok (.invokevirtual 197, 3) := by decide +kernel
theorem d_Mo_head_103 : decode b_Mo_head 103 = .ok (.ifCond .eq 7, 3) := by decide +kernel
theorem d_Mo_head_106 : decode b_Mo_head 106 = .ok (.iconst 1, 1) := by decide +kernel
theorem d_Mo_head_107 : decode b_Mo_head 107 = .ok (.goto 4, 3) := by decide +kernel
theorem d_Mo_head_110 : decode b_Mo_head 110 = .ok (.iconst 0, 1) := by decide +kernel
theorem d_Mo_head_111 : decode b_Mo_head 111 = .ok (.ireturn, 1) := by decide +kernel
theorem d_Mo_head_112 : decode b_Mo_head 112 = .ok (.aload_n 0, 1) := by decide +kernel
theorem d_Mo_head_113 : decode b_Mo_head 113 = .ok (.getfield 178, 3) := by decide +kernel
theorem d_Mo_head_116 : decode b_Mo_head 116 = .ok (.iconst 4, 1) := by decide +kernel
theorem d_Mo_head_117 : decode b_Mo_head 117 = .ok (.if_icmp .eq 19, 3) := by decide +kernel
theorem d_Mo_head_120 : decode b_Mo_head 120 = .ok (.aload_n 0, 1) := by decide +kernel
theorem d_Mo_head_121 : decode b_Mo_head 121 = .ok (.iload_n 1, 1) := by decide +kernel
theorem d_Mo_head_122 : decode b_Mo_head 122 = .ok (.bipush 41, 2) := by decide +kernel
theorem d_Mo_head_124 : decode b_Mo_head 124 = .ok (.invokevirtual 193, 3) := by decide +kernel
theorem d_Mo_head_127 : decode b_Mo_head 127 = .ok (.ifCond .eq 9, 3) := by decide +kernel
theorem d_Mo_head_130 : decode b_Mo_head 130 = .ok (.aload_n 0, 1) := by decide +kernel
theorem d_Mo_head_131 : decode b_Mo_head 131 = .ok (.iconst 5, 1) := by decide +kernel
theorem d_Mo_head_132 : decode b_Mo_head 132 = .ok (.invokevirtual 184, 3) := by decide +kernel
theorem d_Mo_head_135 : decode b_Mo_head 135 = .ok (.ireturn, 1) := by decide +kernel
theorem d_Mo_head_136 : decode b_Mo_head 136 = .ok (.aload_n 0, 1) := by decide +kernel
theorem d_Mo_head_137 : decode b_Mo_head 137 = .ok (.getfield 178, 3) := by decide +kernel
theorem d_Mo_head_140 : decode b_Mo_head 140 = .ok (.iconst 3, 1) := by decide +kernel
theorem d_Mo_head_141 : decode b_Mo_head 141 = .ok (.if_icmp .ne 27, 3) := by decide +kernel
theorem d_Mo_head_144 : decode b_Mo_head 144 = .ok (.aload_n 0, 1) := by decide +kernel
theorem d_Mo_head_145 : decode b_Mo_head 145 = .ok (.iload_n 1, 1) := by decide +kernel
theorem d_Mo_head_146 : decode b_Mo_head 146 = .ok (.bipush 44, 2) := by decide +kernel
theorem d_Mo_head_148 : decode b_Mo_head 148 = .ok (.invokevirtual 193, 3) := by decide +kernel
theorem d_Mo_head_151 : decode b_Mo_head 151 = .ok (.ifCond .eq 15, 3) := by decide +kernel
theorem d_Mo_head_154 : decode b_Mo_head 154 = .ok (.aload_n 0, 1) := by decide +kernel
theorem d_Mo_head_155 : decode b_Mo_head 155 = .ok (.iconst 4, 1) := by decide +kernel
theorem d_Mo_head_156 : decode b_Mo_head 156 = .ok (.invokevirtual 184, 3) := by decide +kernel
theorem d_Mo_head_159 : decode b_Mo_head 159 = .ok (.ifCond .eq 7, 3) := by decide +kernel
theorem d_Mo_head_162 : decode b_Mo_head 162 = .ok (.iconst 1, 1) := by decide +kernel
theorem d_Mo_head_163 : decode b_Mo_head 163 = .ok (.goto 4, 3) := by decide +kernel
theorem d_Mo_head_166 : decode b_Mo_head 166 = .ok (.iconst 0, 1) := by decide +kernel
theorem d_Mo_head_167 : decode b_Mo_head 167 = .ok (.ireturn, 1) := by decide +kernel
theorem d_Mo_head_168 : decode b_Mo_head 168 = .ok (.aload_n 0, 1) := by decide +kernel
theorem d_Mo_head_169 : decode b_Mo_head 169 = .ok (.getfield 47, 3) := by decide +kernel
theorem d_Mo_head_172 : decode b_Mo_head 172 = .ok (.iload_n 1, 1) := by decide +kernel
theorem d_Mo_head_173 : decode b_Mo_head 173 = .ok (.iconst 2, 1) := by decide +kernel
theorem d_Mo_head_174 : decode b_Mo_head 174 = .ok (.iastore, 1) := by decide +kernel
theorem d_Mo_head_175 : decode b_Mo_head 175 = .ok (.aload_n 0, 1) := by decide +kernel
theorem d_Mo_head_176 : decode b_Mo_head 176 = .ok (.getfield 59, 3) := by decide +kernel
theorem d_Mo_head_179 : decode b_Mo_head 179 = .ok (.iload_n 1, 1) := by decide +kernel
theorem d_Mo_head_180 : decode b_Mo_head 180 = .ok (.aload_n 0, 1) := by decide +kernel
theorem d_Mo_head_181 : decode b_Mo_head 181 = .ok (.getfield 68, 3) := by decide +kernel
theorem d_Mo_head_184 : decode b_Mo_head 184 = .ok (.iload_n 2, 1) := by decide +kernel
theorem d_Mo_head_185 : decode b_Mo_head 185 = .ok (.iaload, 1) := by decide +kernel
theorem d_Mo_head_186 : decode b_Mo_head 186 = .ok (.iastore, 1) := by decide +kernel
theorem d_Mo_head_187 : decode b_Mo_head 187 = .ok (.aload_n 0, 1) := by decide +kernel
theorem d_Mo_head_188 : decode b_Mo_head 188 = .ok (.getfield 77, 3) := by decide +kernel
theorem d_Mo_head_191 : decode b_Mo_head 191 = .ok (.iload_n 2, 1) := by decide +kernel
theorem d_Mo_head_192 : decode b_Mo_head 192 = .ok (.dup2, 1) := by decide +kernel
theorem d_Mo_head_193 : decode b_Mo_head 193 = .ok (.iaload, 1) := by decide +kernel
theorem d_Mo_head_194 : decode b_Mo_head 194 = .ok (.iconst 1, 1) := by decide +kernel
theorem d_Mo_head_195 : decode b_Mo_head 195 = .ok (.iadd, 1) := by decide +kernel
theorem d_Mo_head_196 : decode b_Mo_head 196 = .ok (.iastore, 1) := by decide +kernel
theorem d_Mo_head_197 : decode b_Mo_head 197 = .ok (.iload_n 3, 1) := by decide +kernel
theorem d_Mo_head_198 : decode b_Mo_head 198 = .ok (.ifCond .eq 15, 3) := by decide +kernel
theorem d_Mo_head_201 : decode b_Mo_head 201 = .ok (.aload_n 0, 1) := by decide +kernel
theorem d_Mo_head_202 : decode b_Mo_head 202 = .ok (.iconst 3, 1) := by decide +kernel
theorem d_Mo_head_203 : decode b_Mo_head 203 = .ok (.invokevirtual 184, 3) := by decide +kernel
theorem d_Mo_head_206 : decode b_Mo_head 206 = .ok (.ifCond .eq 7, 3) := by decide +kernel
theorem d_Mo_head_209 : decode b_Mo_head 209 = .ok (.iconst 1, 1) := by decide +kernel
theorem d_Mo_head_210 : decode b_Mo_head 210 = .ok (.goto 4, 3) := by decide +kernel
theorem d_Mo_head_213 : decode b_Mo_head 213 = .ok (.iconst 0, 1) := by decide +kernel
theorem d_Mo_head_214 : decode b_Mo_head 214 = .ok (.ireturn, 1) := by decide +kernel
abbrev b_Mo_statement : ByteArray := prog_11_method_27_code
def y_Mo_statement : MethodName := ⟨"ProgramDeskModel", "statement", "(I)Z"⟩
theorem d_Mo_statement_0 : decode b_Mo_statement 0 = .ok (.aload_n 0, 1) := by decide +kernel
theorem d_Mo_statement_1 : decode b_Mo_statement 1 = .ok (.iconst (-1), 1) := by decide +kernel
theorem d_Mo_statement_2 : decode b_Mo_statement 2 = .ok (.putfield 200, 3) := by decide +kernel
theorem d_Mo_statement_5 : decode b_Mo_statement 5 = .ok (.aload_n 0, 1) := by decide +kernel
theorem d_Mo_statement_6 : decode b_Mo_statement 6 = .ok (.iload_n 1, 1) := by decide +kernel
theorem d_Mo_statement_7 : decode b_Mo_statement 7 = .ok (.bipush 123, 2) := by decide +kernel
theorem d_Mo_statement_9 : decode b_Mo_statement 9 = .ok (.invokevirtual 193, 3) := by decide +kernel
theorem d_Mo_statement_12 : decode b_Mo_statement 12 = .ok (.ifCond .eq 9, 3) := by decide +kernel
theorem d_Mo_statement_15 : decode b_Mo_statement 15 = .ok (.aload_n 0, 1) := by decide +kernel
theorem d_Mo_statement_16 : decode b_Mo_statement 16 = .ok (.iload_n 1, 1) := by decide +kernel
theorem d_Mo_statement_17 : decode b_Mo_statement 17 = .ok (.invokevirtual 197, 3) := by decide +kernel
theorem d_Mo_statement_20 : decode b_Mo_statement 20 = .ok (.ireturn, 1) := by decide +kernel
theorem d_Mo_statement_21 : decode b_Mo_statement 21 = .ok (.aload_n 0, 1) := by decide +kernel
theorem d_Mo_statement_22 : decode b_Mo_statement 22 = .ok (.iload_n 1, 1) := by decide +kernel
theorem d_Mo_statement_23 : decode b_Mo_statement 23 = .ok (.bipush 125, 2) := by decide +kernel
theorem d_Mo_statement_25 : decode b_Mo_statement 25 = .ok (.invokevirtual 193, 3) := by decide +kernel
theorem d_Mo_statement_28 : decode b_Mo_statement 28 = .ok (.ifCond .eq 9, 3) := by decide +kernel
theorem d_Mo_statement_31 : decode b_Mo_statement 31 = .ok (.aload_n 0, 1) := by decide +kernel
theorem d_Mo_statement_32 : decode b_Mo_statement 32 = .ok (.iload_n 1, 1) := by decide +kernel
theorem d_Mo_statement_33 : decode b_Mo_statement 33 = .ok (.invokevirtual 203, 3) := by decide +kernel
theorem d_Mo_statement_36 : decode b_Mo_statement 36 = .ok (.ireturn, 1) := by decide +kernel
theorem d_Mo_statement_37 : decode b_Mo_statement 37 = .ok (.aload_n 0, 1) := by decide +kernel
theorem d_Mo_statement_38 : decode b_Mo_statement 38 = .ok (.getfield 35, 3) := by decide +kernel
theorem d_Mo_statement_41 : decode b_Mo_statement 41 = .ok (.iload_n 1, 1) := by decide +kernel
theorem d_Mo_statement_42 : decode b_Mo_statement 42 = .ok (.iaload, 1) := by decide +kernel
theorem d_Mo_statement_43 : decode b_Mo_statement 43 = .ok (.iconst 2, 1) := by decide +kernel
theorem d_Mo_statement_44 : decode b_Mo_statement 44 = .ok (.if_icmp .ne 17, 3) := by decide +kernel
theorem d_Mo_statement_47 : decode b_Mo_statement 47 = .ok (.aload_n 0, 1) := by decide +kernel
theorem d_Mo_statement_48 : decode b_Mo_statement 48 = .ok (.getfield 47, 3) := by decide +kernel
theorem d_Mo_statement_51 : decode b_Mo_statement 51 = .ok (.iload_n 1, 1) := by decide +kernel
theorem d_Mo_statement_52 : decode b_Mo_statement 52 = .ok (.iconst 4, 1) := by decide +kernel
theorem d_Mo_statement_53 : decode b_Mo_statement 53 = .ok (.iastore, 1) := by decide +kernel
theorem d_Mo_statement_54 : decode b_Mo_statement 54 = .ok (.aload_n 0, 1) := by decide +kernel
theorem d_Mo_statement_55 : decode b_Mo_statement 55 = .ok (.bipush 8, 2) := by decide +kernel
theorem d_Mo_statement_57 : decode b_Mo_statement 57 = .ok (.invokevirtual 184, 3) := by decide +kernel
theorem d_Mo_statement_60 : decode b_Mo_statement 60 = .ok (.ireturn, 1) := by decide +kernel
theorem d_Mo_statement_61 : decode b_Mo_statement 61 = .ok (.aload_n 0, 1) := by decide +kernel
theorem d_Mo_statement_62 : decode b_Mo_statement 62 = .ok (.getfield 35, 3) := by decide +kernel
theorem d_Mo_statement_65 : decode b_Mo_statement 65 = .ok (.iload_n 1, 1) := by decide +kernel
theorem d_Mo_statement_66 : decode b_Mo_statement 66 = .ok (.iaload, 1) := by decide +kernel
theorem d_Mo_statement_67 : decode b_Mo_statement 67 = .ok (.iconst 1, 1) := by decide +kernel
theorem d_Mo_statement_68 : decode b_Mo_statement 68 = .ok (.if_icmp .ne 16, 3) := by decide +kernel
theorem d_Mo_statement_71 : decode b_Mo_statement 71 = .ok (.aload_n 0, 1) := by decide +kernel
theorem d_Mo_statement_72 : decode b_Mo_statement 72 = .ok (.aload_n 0, 1) := by decide +kernel
theorem d_Mo_statement_73 : decode b_Mo_statement 73 = .ok (.getfield 44, 3) := by decide +kernel
theorem d_Mo_statement_76 : decode b_Mo_statement 76 = .ok (.iload_n 1, 1) := by decide +kernel
theorem d_Mo_statement_77 : decode b_Mo_statement 77 = .ok (.laload, 1) := by decide +kernel
theorem d_Mo_statement_78 : decode b_Mo_statement 78 = .ok (.invokevirtual 168, 3) := by decide +kernel
theorem d_Mo_statement_81 : decode b_Mo_statement 81 = .ok (.goto 4, 3) := by decide +kernel
theorem d_Mo_statement_84 : decode b_Mo_statement 84 = .ok (.iconst (-1), 1) := by decide +kernel
theorem d_Mo_statement_85 : decode b_Mo_statement 85 = .ok (.istore_n 2, 1) := by decide +kernel
theorem d_Mo_statement_86 : decode b_Mo_statement 86 = .ok (.iload_n 2, 1) := by decide +kernel
theorem d_Mo_statement_87 : decode b_Mo_statement 87 = .ok (.iconst 1, 1) := by decide +kernel
theorem d_Mo_statement_88 : decode b_Mo_statement 88 = .ok (.if_icmp .ne 10, 3) := by decide +kernel
theorem d_Mo_statement_91 : decode b_Mo_statement 91 = .ok (.aload_n 0, 1) := by decide +kernel
theorem d_Mo_statement_92 : decode b_Mo_statement 92 = .ok (.bipush 7, 2) := by decide +kernel
theorem d_Mo_statement_94 : decode b_Mo_statement 94 = .ok (.invokevirtual 184, 3) := by decide +kernel
theorem d_Mo_statement_97 : decode b_Mo_statement 97 = .ok (.ireturn, 1) := by decide +kernel
theorem d_Mo_statement_98 : decode b_Mo_statement 98 = .ok (.iload_n 2, 1) := by decide +kernel
theorem d_Mo_statement_99 : decode b_Mo_statement 99 = .ok (.iconst 4, 1) := by decide +kernel
theorem d_Mo_statement_100 : decode b_Mo_statement 100 = .ok (.if_icmp .eq 8, 3) := by decide +kernel
theorem d_Mo_statement_103 : decode b_Mo_statement 103 = .ok (.iload_n 2, 1) := by decide +kernel
theorem d_Mo_statement_104 : decode b_Mo_statement 104 = .ok (.iconst 5, 1) := by decide +kernel
theorem d_Mo_statement_105 : decode b_Mo_statement 105 = .ok (.if_icmp .ne 10, 3) := by decide +kernel
theorem d_Mo_statement_108 : decode b_Mo_statement 108 = .ok (.aload_n 0, 1) := by decide +kernel
theorem d_Mo_statement_109 : decode b_Mo_statement 109 = .ok (.bipush 59, 2) := by decide +kernel
theorem d_Mo_statement_111 : decode b_Mo_statement 111 = .ok (.invokevirtual 206, 3) := by decide +kernel
theorem d_Mo_statement_114 : decode b_Mo_statement 114 = .ok (.ireturn, 1) := by decide +kernel
theorem d_Mo_statement_115 : decode b_Mo_statement 115 = .ok (.iload_n 2, 1) := by decide +kernel
theorem d_Mo_statement_116 : decode b_Mo_statement 116 = .ok (.iconst 2, 1) := by decide +kernel
theorem d_Mo_statement_117 : decode b_Mo_statement 117 = .ok (.if_icmp .eq 8, 3) := by decide +kernel
theorem d_Mo_statement_120 : decode b_Mo_statement 120 = .ok (.iload_n 2, 1) := by decide +kernel
theorem d_Mo_statement_121 : decode b_Mo_statement 121 = .ok (.iconst 3, 1) := by decide +kernel
theorem d_Mo_statement_122 : decode b_Mo_statement 122 = .ok (.if_icmp .ne 16, 3) := by decide +kernel
theorem d_Mo_statement_125 : decode b_Mo_statement 125 = .ok (.aload_n 0, 1) := by decide +kernel
theorem d_Mo_statement_126 : decode b_Mo_statement 126 = .ok (.bipush 123, 2) := by decide +kernel
theorem d_Mo_statement_128 : decode b_Mo_statement 128 = .ok (.invokevirtual 206, 3) := by decide +kernel
theorem d_Mo_statement_131 : decode b_Mo_statement 131 = .ok (.ifCond .eq 7, 3) := by decide +kernel
theorem d_Mo_statement_134 : decode b_Mo_statement 134 = .ok (.iconst 1, 1) := by decide +kernel
theorem d_Mo_statement_135 : decode b_Mo_statement 135 = .ok (.goto 4, 3) := by decide +kernel
theorem d_Mo_statement_138 : decode b_Mo_statement 138 = .ok (.iconst 0, 1) := by decide +kernel
theorem d_Mo_statement_139 : decode b_Mo_statement 139 = .ok (.ireturn, 1) := by decide +kernel
abbrev b_Mo_operand : ByteArray := prog_11_method_28_code
def y_Mo_operand : MethodName := ⟨"ProgramDeskModel", "operand", "(I)Z"⟩
theorem d_Mo_operand_0 : decode b_Mo_operand 0 = .ok (.aload_n 0, 1) := by decide +kernel
theorem d_Mo_operand_1 : decode b_Mo_operand 1 = .ok (.getfield 178, 3) := by decide +kernel
theorem d_Mo_operand_4 : decode b_Mo_operand 4 = .ok (.bipush 10, 2) := by decide +kernel
theorem d_Mo_operand_6 : decode b_Mo_operand 6 = .ok (.if_icmp .ne 18, 3) := by decide +kernel
theorem d_Mo_operand_9 : decode b_Mo_operand 9 = .ok (.aload_n 0, 1) := by decide +kernel
theorem d_Mo_operand_10 : decode b_Mo_operand 10 = .ok (.iload_n 1, 1) := by decide +kernel
theorem d_Mo_operand_11 : decode b_Mo_operand 11 = .ok (.bipush 41, 2) := by decide +kernel
theorem d_Mo_operand_13 : decode b_Mo_operand 13 = .ok (.invokevirtual 193, 3) := by decide +kernel
theorem d_Mo_operand_16 : decode b_Mo_operand 16 = .ok (.ifCond .eq 8, 3) := by decide +kernel
theorem d_Mo_operand_19 : decode b_Mo_operand 19 = .ok (.aload_n 0, 1) := by decide +kernel
theorem d_Mo_operand_20 : decode b_Mo_operand 20 = .ok (.invokevirtual 209, 3) := by decide +kernel
theorem d_Mo_operand_23 : decode b_Mo_operand 23 = .ok (.ireturn, 1) := by decide +kernel
theorem d_Mo_operand_24 : decode b_Mo_operand 24 = .ok (.aload_n 0, 1) := by decide +kernel
theorem d_Mo_operand_25 : decode b_Mo_operand 25 = .ok (.getfield 178, 3) := by decide +kernel
theorem d_Mo_operand_28 : decode b_Mo_operand 28 = .ok (.bipush 10, 2) := by decide +kernel
theorem d_Mo_operand_30 : decode b_Mo_operand 30 = .ok (.if_icmp .ne 18, 3) := by decide +kernel
theorem d_Mo_operand_33 : decode b_Mo_operand 33 = .ok (.aload_n 0, 1) := by decide +kernel
theorem d_Mo_operand_34 : decode b_Mo_operand 34 = .ok (.getfield 56, 3) := by decide +kernel
theorem d_Mo_operand_37 : decode b_Mo_operand 37 = .ok (.aload_n 0, 1) := by decide +kernel
theorem d_Mo_operand_38 : decode b_Mo_operand 38 = .ok (.getfield 86, 3) := by decide +kernel
theorem d_Mo_operand_41 : decode b_Mo_operand 41 = .ok (.aload_n 0, 1) := by decide +kernel
theorem d_Mo_operand_42 : decode b_Mo_operand 42 = .ok (.getfield 190, 3) := by decide +kernel
theorem d_Mo_operand_45 : decode b_Mo_operand 45 = .ok (.iaload, 1) := by decide +kernel
theorem d_Mo_operand_46 : decode b_Mo_operand 46 = .ok (.iconst 1, 1) := by decide +kernel
theorem d_Mo_operand_47 : decode b_Mo_operand 47 = .ok (.iastore, 1) := by decide +kernel
theorem d_Mo_operand_48 : decode b_Mo_operand 48 = .ok (.aload_n 0, 1) := by decide +kernel
theorem d_Mo_operand_49 : decode b_Mo_operand 49 = .ok (.getfield 35, 3) := by decide +kernel
theorem d_Mo_operand_52 : decode b_Mo_operand 52 = .ok (.iload_n 1, 1) := by decide +kernel
theorem d_Mo_operand_53 : decode b_Mo_operand 53 = .ok (.iaload, 1) := by decide +kernel
theorem d_Mo_operand_54 : decode b_Mo_operand 54 = .ok (.iconst 3, 1) := by decide +kernel
theorem d_Mo_operand_55 : decode b_Mo_operand 55 = .ok (.if_icmp .ne 10, 3) := by decide +kernel
theorem d_Mo_operand_58 : decode b_Mo_operand 58 = .ok (.aload_n 0, 1) := by decide +kernel
theorem d_Mo_operand_59 : decode b_Mo_operand 59 = .ok (.bipush 11, 2) := by decide +kernel
theorem d_Mo_operand_61 : decode b_Mo_operand 61 = .ok (.invokevirtual 184, 3) := by decide +kernel
theorem d_Mo_operand_64 : decode b_Mo_operand 64 = .ok (.ireturn, 1) := by decide +kernel
theorem d_Mo_operand_65 : decode b_Mo_operand 65 = .ok (.aload_n 0, 1) := by decide +kernel
theorem d_Mo_operand_66 : decode b_Mo_operand 66 = .ok (.getfield 35, 3) := by decide +kernel
theorem d_Mo_operand_69 : decode b_Mo_operand 69 = .ok (.iload_n 1, 1) := by decide +kernel
theorem d_Mo_operand_70 : decode b_Mo_operand 70 = .ok (.iaload, 1) := by decide +kernel
theorem d_Mo_operand_71 : decode b_Mo_operand 71 = .ok (.iconst 2, 1) := by decide +kernel
theorem d_Mo_operand_72 : decode b_Mo_operand 72 = .ok (.if_icmp .ne 17, 3) := by decide +kernel
theorem d_Mo_operand_75 : decode b_Mo_operand 75 = .ok (.aload_n 0, 1) := by decide +kernel
theorem d_Mo_operand_76 : decode b_Mo_operand 76 = .ok (.getfield 47, 3) := by decide +kernel
theorem d_Mo_operand_79 : decode b_Mo_operand 79 = .ok (.iload_n 1, 1) := by decide +kernel
theorem d_Mo_operand_80 : decode b_Mo_operand 80 = .ok (.iconst 5, 1) := by decide +kernel
theorem d_Mo_operand_81 : decode b_Mo_operand 81 = .ok (.iastore, 1) := by decide +kernel
theorem d_Mo_operand_82 : decode b_Mo_operand 82 = .ok (.aload_n 0, 1) := by decide +kernel
theorem d_Mo_operand_83 : decode b_Mo_operand 83 = .ok (.bipush 12, 2) := by decide +kernel
theorem d_Mo_operand_85 : decode b_Mo_operand 85 = .ok (.invokevirtual 184, 3) := by decide +kernel
theorem d_Mo_operand_88 : decode b_Mo_operand 88 = .ok (.ireturn, 1) := by decide +kernel
theorem d_Mo_operand_89 : decode b_Mo_operand 89 = .ok (.aload_n 0, 1) := by decide +kernel
theorem d_Mo_operand_90 : decode b_Mo_operand 90 = .ok (.iload_n 1, 1) := by decide +kernel
theorem d_Mo_operand_91 : decode b_Mo_operand 91 = .ok (.bipush 40, 2) := by decide +kernel
theorem d_Mo_operand_93 : decode b_Mo_operand 93 = .ok (.invokevirtual 193, 3) := by decide +kernel
theorem d_Mo_operand_96 : decode b_Mo_operand 96 = .ok (.ifCond .eq 15, 3) := by decide +kernel
theorem d_Mo_operand_99 : decode b_Mo_operand 99 = .ok (.aload_n 0, 1) := by decide +kernel
theorem d_Mo_operand_100 : decode b_Mo_operand 100 = .ok (.iconst (-1), 1) := by decide +kernel
theorem d_Mo_operand_101 : decode b_Mo_operand 101 = .ok (.invokevirtual 213, 3) := by decide +kernel
theorem d_Mo_operand_104 : decode b_Mo_operand 104 = .ok (.ifCond .eq 7, 3) := by decide +kernel
theorem d_Mo_operand_107 : decode b_Mo_operand 107 = .ok (.iconst 1, 1) := by decide +kernel
theorem d_Mo_operand_108 : decode b_Mo_operand 108 = .ok (.goto 4, 3) := by decide +kernel
theorem d_Mo_operand_111 : decode b_Mo_operand 111 = .ok (.iconst 0, 1) := by decide +kernel
theorem d_Mo_operand_112 : decode b_Mo_operand 112 = .ok (.ireturn, 1) := by decide +kernel
abbrev b_Mo_closeFrame : ByteArray := prog_11_method_29_code
def y_Mo_closeFrame : MethodName := ⟨"ProgramDeskModel", "closeFrame", "()Z"⟩
theorem d_Mo_closeFrame_0 : decode b_Mo_closeFrame 0 = .ok (.aload_n 0, 1) := by decide +kernel
theorem d_Mo_closeFrame_1 : decode b_Mo_closeFrame 1 = .ok (.dup, 1) := by decide +kernel
theorem d_Mo_closeFrame_2 : decode b_Mo_closeFrame 2 = .ok (.getfield 190, 3) := by decide +kernel
theorem d_Mo_closeFrame_5 : decode b_Mo_closeFrame 5 = .ok (.iconst 1, 1) := by decide +kernel
theorem d_Mo_closeFrame_6 : decode b_Mo_closeFrame 6 = .ok (.isub, 1) := by decide +kernel
theorem d_Mo_closeFrame_7 : decode b_Mo_closeFrame 7 = .ok (.putfield 190, 3) := by decide +kernel
theorem d_Mo_closeFrame_10 : decode b_Mo_closeFrame 10 = .ok (.aload_n 0, 1) := by decide +kernel
theorem d_Mo_closeFrame_11 : decode b_Mo_closeFrame 11 = .ok (.bipush 11, 2) := by decide +kernel
theorem d_Mo_closeFrame_13 : decode b_Mo_closeFrame 13 = .ok (.invokevirtual 184, 3) := by decide +kernel
theorem d_Mo_closeFrame_16 : decode b_Mo_closeFrame 16 = .ok (.ireturn, 1) := by decide +kernel
abbrev b_Mo_operator : ByteArray := prog_11_method_30_code
def y_Mo_operator : MethodName := ⟨"ProgramDeskModel", "operator", "(I)Z"⟩
theorem d_Mo_operator_0 : decode b_Mo_operator 0 = .ok (.aload_n 0, 1) := by decide +kernel
theorem d_Mo_operator_1 : decode b_Mo_operator 1 = .ok (.iload_n 1, 1) := by decide +kernel
theorem d_Mo_operator_2 : decode b_Mo_operator 2 = .ok (.bipush 43, 2) := by decide +kernel
theorem d_Mo_operator_4 : decode b_Mo_operator 4 = .ok (.invokevirtual 193, 3) := by decide +kernel
theorem d_Mo_operator_7 : decode b_Mo_operator 7 = .ok (.ifCond .ne 23, 3) := by decide +kernel
theorem d_Mo_operator_10 : decode b_Mo_operator 10 = .ok (.aload_n 0, 1) := by decide +kernel
theorem d_Mo_operator_11 : decode b_Mo_operator 11 = .ok (.iload_n 1, 1) := by decide +kernel
theorem d_Mo_operator_12 : decode b_Mo_operator 12 = .ok (.bipush 45, 2) := by decide +kernel
theorem d_Mo_operator_14 : decode b_Mo_operator 14 = .ok (.invokevirtual 193, 3) := by decide +kernel
theorem d_Mo_operator_17 : decode b_Mo_operator 17 = .ok (.ifCond .ne 13, 3) := by decide +kernel
theorem d_Mo_operator_20 : decode b_Mo_operator 20 = .ok (.aload_n 0, 1) := by decide +kernel
theorem d_Mo_operator_21 : decode b_Mo_operator 21 = .ok (.iload_n 1, 1) := by decide +kernel
theorem d_Mo_operator_22 : decode b_Mo_operator 22 = .ok (.bipush 42, 2) := by decide +kernel
theorem d_Mo_operator_24 : decode b_Mo_operator 24 = .ok (.invokevirtual 193, 3) := by decide +kernel
theorem d_Mo_operator_27 : decode b_Mo_operator 27 = .ok (.ifCond .eq 10, 3) := by decide +kernel
theorem d_Mo_operator_30 : decode b_Mo_operator 30 = .ok (.aload_n 0, 1) := by decide +kernel
theorem d_Mo_operator_31 : decode b_Mo_operator 31 = .ok (.bipush 9, 2) := by decide +kernel
theorem d_Mo_operator_33 : decode b_Mo_operator 33 = .ok (.invokevirtual 184, 3) := by decide +kernel
theorem d_Mo_operator_36 : decode b_Mo_operator 36 = .ok (.ireturn, 1) := by decide +kernel
theorem d_Mo_operator_37 : decode b_Mo_operator 37 = .ok (.aload_n 0, 1) := by decide +kernel
theorem d_Mo_operator_38 : decode b_Mo_operator 38 = .ok (.iload_n 1, 1) := by decide +kernel
theorem d_Mo_operator_39 : decode b_Mo_operator 39 = .ok (.bipush 60, 2) := by decide +kernel
theorem d_Mo_operator_41 : decode b_Mo_operator 41 = .ok (.invokevirtual 193, 3) := by decide +kernel
theorem d_Mo_operator_44 : decode b_Mo_operator 44 = .ok (.ifCond .eq 50, 3) := by decide +kernel
theorem d_Mo_operator_47 : decode b_Mo_operator 47 = .ok (.aload_n 0, 1) := by decide +kernel
theorem d_Mo_operator_48 : decode b_Mo_operator 48 = .ok (.getfield 89, 3) := by decide +kernel
theorem d_Mo_operator_51 : decode b_Mo_operator 51 = .ok (.aload_n 0, 1) := by decide +kernel
theorem d_Mo_operator_52 : decode b_Mo_operator 52 = .ok (.getfield 190, 3) := by decide +kernel
theorem d_Mo_operator_55 : decode b_Mo_operator 55 = .ok (.baload, 1) := by decide +kernel
theorem d_Mo_operator_56 : decode b_Mo_operator 56 = .ok (.ifCond .ne 7, 3) := by decide +kernel
theorem d_Mo_operator_59 : decode b_Mo_operator 59 = .ok (.iconst 1, 1) := by decide +kernel
theorem d_Mo_operator_60 : decode b_Mo_operator 60 = .ok (.goto 4, 3) := by decide +kernel
theorem d_Mo_operator_63 : decode b_Mo_operator 63 = .ok (.iconst 0, 1) := by decide +kernel
theorem d_Mo_operator_64 : decode b_Mo_operator 64 = .ok (.istore_n 2, 1) := by decide +kernel
theorem d_Mo_operator_65 : decode b_Mo_operator 65 = .ok (.aload_n 0, 1) := by decide +kernel
theorem d_Mo_operator_66 : decode b_Mo_operator 66 = .ok (.getfield 89, 3) := by decide +kernel
theorem d_Mo_operator_69 : decode b_Mo_operator 69 = .ok (.aload_n 0, 1) := by decide +kernel
theorem d_Mo_operator_70 : decode b_Mo_operator 70 = .ok (.getfield 190, 3) := by decide +kernel
theorem d_Mo_operator_73 : decode b_Mo_operator 73 = .ok (.iconst 1, 1) := by decide +kernel
theorem d_Mo_operator_74 : decode b_Mo_operator 74 = .ok (.bastore, 1) := by decide +kernel
theorem d_Mo_operator_75 : decode b_Mo_operator 75 = .ok (.iload_n 2, 1) := by decide +kernel
theorem d_Mo_operator_76 : decode b_Mo_operator 76 = .ok (.ifCond .eq 16, 3) := by decide +kernel
theorem d_Mo_operator_79 : decode b_Mo_operator 79 = .ok (.aload_n 0, 1) := by decide +kernel
theorem d_Mo_operator_80 : decode b_Mo_operator 80 = .ok (.bipush 9, 2) := by decide +kernel
theorem d_Mo_operator_82 : decode b_Mo_operator 82 = .ok (.invokevirtual 184, 3) := by decide +kernel
theorem d_Mo_operator_85 : decode b_Mo_operator 85 = .ok (.ifCond .eq 7, 3) := by decide +kernel
theorem d_Mo_operator_88 : decode b_Mo_operator 88 = .ok (.iconst 1, 1) := by decide +kernel
theorem d_Mo_operator_89 : decode b_Mo_operator 89 = .ok (.goto 4, 3) := by decide +kernel
theorem d_Mo_operator_92 : decode b_Mo_operator 92 = .ok (.iconst 0, 1) := by decide +kernel
theorem d_Mo_operator_93 : decode b_Mo_operator 93 = .ok (.ireturn, 1) := by decide +kernel
theorem d_Mo_operator_94 : decode b_Mo_operator 94 = .ok (.aload_n 0, 1) := by decide +kernel
theorem d_Mo_operator_95 : decode b_Mo_operator 95 = .ok (.getfield 190, 3) := by decide +kernel
theorem d_Mo_operator_98 : decode b_Mo_operator 98 = .ok (.ifCond .le 77, 3) := by decide +kernel
theorem d_Mo_operator_101 : decode b_Mo_operator 101 = .ok (.aload_n 0, 1) := by decide +kernel
theorem d_Mo_operator_102 : decode b_Mo_operator 102 = .ok (.iload_n 1, 1) := by decide +kernel
theorem d_Mo_operator_103 : decode b_Mo_operator 103 = .ok (.bipush 41, 2) := by decide +kernel
theorem d_Mo_operator_105 : decode b_Mo_operator 105 = .ok (.invokevirtual 193, 3) := by decide +kernel
theorem d_Mo_operator_108 : decode b_Mo_operator 108 = .ok (.ifCond .eq 8, 3) := by decide +kernel
theorem d_Mo_operator_111 : decode b_Mo_operator 111 = .ok (.aload_n 0, 1) := by decide +kernel
theorem d_Mo_operator_112 : decode b_Mo_operator 112 = .ok (.invokevirtual 209, 3) := by decide +kernel
theorem d_Mo_operator_115 : decode b_Mo_operator 115 = .ok (.ireturn, 1) := by decide +kernel
theorem d_Mo_operator_116 : decode b_Mo_operator 116 = .ok (.aload_n 0, 1) := by decide +kernel
theorem d_Mo_operator_117 : decode b_Mo_operator 117 = .ok (.iload_n 1, 1) := by decide +kernel
theorem d_Mo_operator_118 : decode b_Mo_operator 118 = .ok (.bipush 44, 2) := by decide +kernel
theorem d_Mo_operator_120 : decode b_Mo_operator 120 = .ok (.invokevirtual 193, 3) := by decide +kernel
theorem d_Mo_operator_123 : decode b_Mo_operator 123 = .ok (.ifCond .eq 15, 3) := by decide +kernel
theorem d_Mo_operator_126 : decode b_Mo_operator 126 = .ok (.aload_n 0, 1) := by decide +kernel
theorem d_Mo_operator_127 : decode b_Mo_operator 127 = .ok (.getfield 86, 3) := by decide +kernel
theorem d_Mo_operator_130 : decode b_Mo_operator 130 = .ok (.aload_n 0, 1) := by decide +kernel
theorem d_Mo_operator_131 : decode b_Mo_operator 131 = .ok (.getfield 190, 3) := by decide +kernel
theorem d_Mo_operator_134 : decode b_Mo_operator 134 = .ok (.iaload, 1) := by decide +kernel
theorem d_Mo_operator_135 : decode b_Mo_operator 135 = .ok (.ifCond .ge 5, 3) := by decide +kernel
theorem d_Mo_operator_138 : decode b_Mo_operator 138 = .ok (.iconst 0, 1) := by decide +kernel
theorem d_Mo_operator_139 : decode b_Mo_operator 139 = .ok (.ireturn, 1) := by decide +kernel
theorem d_Mo_operator_140 : decode b_Mo_operator 140 = .ok (.aload_n 0, 1) := by decide +kernel
theorem d_Mo_operator_141 : decode b_Mo_operator 141 = .ok (.getfield 56, 3) := by decide +kernel
theorem d_Mo_operator_144 : decode b_Mo_operator 144 = .ok (.aload_n 0, 1) := by decide +kernel
theorem d_Mo_operator_145 : decode b_Mo_operator 145 = .ok (.getfield 86, 3) := by decide +kernel
theorem d_Mo_operator_148 : decode b_Mo_operator 148 = .ok (.aload_n 0, 1) := by decide +kernel
theorem d_Mo_operator_149 : decode b_Mo_operator 149 = .ok (.getfield 190, 3) := by decide +kernel
theorem d_Mo_operator_152 : decode b_Mo_operator 152 = .ok (.iaload, 1) := by decide +kernel
theorem d_Mo_operator_153 : decode b_Mo_operator 153 = .ok (.dup2, 1) := by decide +kernel
theorem d_Mo_operator_154 : decode b_Mo_operator 154 = .ok (.iaload, 1) := by decide +kernel
theorem d_Mo_operator_155 : decode b_Mo_operator 155 = .ok (.iconst 1, 1) := by decide +kernel
theorem d_Mo_operator_156 : decode b_Mo_operator 156 = .ok (.iadd, 1) := by decide +kernel
theorem d_Mo_operator_157 : decode b_Mo_operator 157 = .ok (.iastore, 1) := by decide +kernel
theorem d_Mo_operator_158 : decode b_Mo_operator 158 = .ok (.aload_n 0, 1) := by decide +kernel
theorem d_Mo_operator_159 : decode b_Mo_operator 159 = .ok (.getfield 89, 3) := by decide +kernel
theorem d_Mo_operator_162 : decode b_Mo_operator 162 = .ok (.aload_n 0, 1) := by decide +kernel
theorem d_Mo_operator_163 : decode b_Mo_operator 163 = .ok (.getfield 190, 3) := by decide +kernel
theorem d_Mo_operator_166 : decode b_Mo_operator 166 = .ok (.iconst 0, 1) := by decide +kernel
theorem d_Mo_operator_167 : decode b_Mo_operator 167 = .ok (.bastore, 1) := by decide +kernel
theorem d_Mo_operator_168 : decode b_Mo_operator 168 = .ok (.aload_n 0, 1) := by decide +kernel
theorem d_Mo_operator_169 : decode b_Mo_operator 169 = .ok (.bipush 9, 2) := by decide +kernel
theorem d_Mo_operator_171 : decode b_Mo_operator 171 = .ok (.invokevirtual 184, 3) := by decide +kernel
theorem d_Mo_operator_174 : decode b_Mo_operator 174 = .ok (.ireturn, 1) := by decide +kernel
theorem d_Mo_operator_175 : decode b_Mo_operator 175 = .ok (.aload_n 0, 1) := by decide +kernel
theorem d_Mo_operator_176 : decode b_Mo_operator 176 = .ok (.iload_n 1, 1) := by decide +kernel
theorem d_Mo_operator_177 : decode b_Mo_operator 177 = .ok (.aload_n 0, 1) := by decide +kernel
theorem d_Mo_operator_178 : decode b_Mo_operator 178 = .ok (.getfield 187, 3) := by decide +kernel
theorem d_Mo_operator_181 : decode b_Mo_operator 181 = .ok (.invokevirtual 193, 3) := by decide +kernel
theorem d_Mo_operator_184 : decode b_Mo_operator 184 = .ok (.ifCond .ne 5, 3) := by decide +kernel
theorem d_Mo_operator_187 : decode b_Mo_operator 187 = .ok (.iconst 0, 1) := by decide +kernel
theorem d_Mo_operator_188 : decode b_Mo_operator 188 = .ok (.ireturn, 1) := by decide +kernel
theorem d_Mo_operator_189 : decode b_Mo_operator 189 = .ok (.aload_n 0, 1) := by decide +kernel
theorem d_Mo_operator_190 : decode b_Mo_operator 190 = .ok (.getfield 187, 3) := by decide +kernel
theorem d_Mo_operator_193 : decode b_Mo_operator 193 = .ok (.bipush 123, 2) := by decide +kernel
theorem d_Mo_operator_195 : decode b_Mo_operator 195 = .ok (.if_icmp .ne 9, 3) := by decide +kernel
theorem d_Mo_operator_198 : decode b_Mo_operator 198 = .ok (.aload_n 0, 1) := by decide +kernel
theorem d_Mo_operator_199 : decode b_Mo_operator 199 = .ok (.iload_n 1, 1) := by decide +kernel
theorem d_Mo_operator_200 : decode b_Mo_operator 200 = .ok (.invokevirtual 197, 3) := by decide +kernel
theorem d_Mo_operator_203 : decode b_Mo_operator 203 = .ok (.ireturn, 1) := by decide +kernel
theorem d_Mo_operator_204 : decode b_Mo_operator 204 = .ok (.aload_n 0, 1) := by decide +kernel
theorem d_Mo_operator_205 : decode b_Mo_operator 205 = .ok (.getfield 200, 3) := by decide +kernel
theorem d_Mo_operator_208 : decode b_Mo_operator 208 = .ok (.ifCond .lt 15, 3) := by decide +kernel
theorem d_Mo_operator_211 : decode b_Mo_operator 211 = .ok (.aload_n 0, 1) := by decide +kernel
theorem d_Mo_operator_212 : decode b_Mo_operator 212 = .ok (.getfield 62, 3) := by decide +kernel
theorem d_Mo_operator_215 : decode b_Mo_operator 215 = .ok (.aload_n 0, 1) := by decide +kernel
theorem d_Mo_operator_216 : decode b_Mo_operator 216 = .ok (.getfield 200, 3) := by decide +kernel
theorem d_Mo_operator_219 : decode b_Mo_operator 219 = .ok (.iload_n 1, 1) := by decide +kernel
theorem d_Mo_operator_220 : decode b_Mo_operator 220 = .ok (.iconst 1, 1) := by decide +kernel
theorem d_Mo_operator_221 : decode b_Mo_operator 221 = .ok (.iadd, 1) := by decide +kernel
theorem d_Mo_operator_222 : decode b_Mo_operator 222 = .ok (.iastore, 1) := by decide +kernel
theorem d_Mo_operator_223 : decode b_Mo_operator 223 = .ok (.aload_n 0, 1) := by decide +kernel
theorem d_Mo_operator_224 : decode b_Mo_operator 224 = .ok (.bipush 6, 2) := by decide +kernel
theorem d_Mo_operator_226 : decode b_Mo_operator 226 = .ok (.invokevirtual 184, 3) := by decide +kernel
theorem d_Mo_operator_229 : decode b_Mo_operator 229 = .ok (.ireturn, 1) := by decide +kernel
abbrev b_Mo_step : ByteArray := prog_11_method_31_code
def y_Mo_step : MethodName := ⟨"ProgramDeskModel", "step", "(II)Z"⟩
theorem d_Mo_step_0 : decode b_Mo_step 0 = .ok (.aload_n 0, 1) := by decide +kernel
theorem d_Mo_step_1 : decode b_Mo_step 1 = .ok (.getfield 178, 3) := by decide +kernel
theorem d_Mo_step_4 : decode b_Mo_step 4 = .ok (.iconst 5, 1) := by decide +kernel
theorem d_Mo_step_5 : decode b_Mo_step 5 = .ok (.if_icmp .gt 10, 3) := by decide +kernel
theorem d_Mo_step_8 : decode b_Mo_step 8 = .ok (.aload_n 0, 1) := by decide +kernel
theorem d_Mo_step_9 : decode b_Mo_step 9 = .ok (.iload_n 1, 1) := by decide +kernel
theorem d_Mo_step_10 : decode b_Mo_step 10 = .ok (.iload_n 2, 1) := by decide +kernel
theorem d_Mo_step_11 : decode b_Mo_step 11 = .ok (.invokevirtual 216, 3) := by decide +kernel
theorem d_Mo_step_14 : decode b_Mo_step 14 = .ok (.ireturn, 1) := by decide +kernel
theorem d_Mo_step_15 : decode b_Mo_step 15 = .ok (.aload_n 0, 1) := by decide +kernel
theorem d_Mo_step_16 : decode b_Mo_step 16 = .ok (.getfield 178, 3) := by decide +kernel
theorem d_Mo_step_19 : decode b_Mo_step 19 = .ok (.bipush 6, 2) := by decide +kernel
theorem d_Mo_step_21 : decode b_Mo_step 21 = .ok (.if_icmp .ne 9, 3) := by decide +kernel
theorem d_Mo_step_24 : decode b_Mo_step 24 = .ok (.aload_n 0, 1) := by decide +kernel
theorem d_Mo_step_25 : decode b_Mo_step 25 = .ok (.iload_n 1, 1) := by decide +kernel
theorem d_Mo_step_26 : decode b_Mo_step 26 = .ok (.invokevirtual 219, 3) := by decide +kernel
theorem d_Mo_step_29 : decode b_Mo_step 29 = .ok (.ireturn, 1) := by decide +kernel
theorem d_Mo_step_30 : decode b_Mo_step 30 = .ok (.aload_n 0, 1) := by decide +kernel
theorem d_Mo_step_31 : decode b_Mo_step 31 = .ok (.getfield 178, 3) := by decide +kernel
theorem d_Mo_step_34 : decode b_Mo_step 34 = .ok (.bipush 7, 2) := by decide +kernel
theorem d_Mo_step_36 : decode b_Mo_step 36 = .ok (.if_icmp .ne 57, 3) := by decide +kernel
theorem d_Mo_step_39 : decode b_Mo_step 39 = .ok (.aload_n 0, 1) := by decide +kernel
theorem d_Mo_step_40 : decode b_Mo_step 40 = .ok (.getfield 47, 3) := by decide +kernel
theorem d_Mo_step_43 : decode b_Mo_step 43 = .ok (.iload_n 1, 1) := by decide +kernel
theorem d_Mo_step_44 : decode b_Mo_step 44 = .ok (.iconst 3, 1) := by decide +kernel
theorem d_Mo_step_45 : decode b_Mo_step 45 = .ok (.iastore, 1) := by decide +kernel
theorem d_Mo_step_46 : decode b_Mo_step 46 = .ok (.aload_n 0, 1) := by decide +kernel
theorem d_Mo_step_47 : decode b_Mo_step 47 = .ok (.getfield 59, 3) := by decide +kernel
theorem d_Mo_step_50 : decode b_Mo_step 50 = .ok (.iload_n 1, 1) := by decide +kernel
theorem d_Mo_step_51 : decode b_Mo_step 51 = .ok (.aload_n 0, 1) := by decide +kernel
theorem d_Mo_step_52 : decode b_Mo_step 52 = .ok (.getfield 83, 3) := by decide +kernel
theorem d_Mo_step_55 : decode b_Mo_step 55 = .ok (.aload_n 0, 1) := by decide +kernel
theorem d_Mo_step_56 : decode b_Mo_step 56 = .ok (.getfield 181, 3) := by decide +kernel
theorem d_Mo_step_59 : decode b_Mo_step 59 = .ok (.iconst 1, 1) := by decide +kernel
theorem d_Mo_step_60 : decode b_Mo_step 60 = .ok (.isub, 1) := by decide +kernel
theorem d_Mo_step_61 : decode b_Mo_step 61 = .ok (.iaload, 1) := by decide +kernel
theorem d_Mo_step_62 : decode b_Mo_step 62 = .ok (.iastore, 1) := by decide +kernel
theorem d_Mo_step_63 : decode b_Mo_step 63 = .ok (.aload_n 0, 1) := by decide +kernel
theorem d_Mo_step_64 : decode b_Mo_step 64 = .ok (.iload_n 1, 1) := by decide +kernel
theorem d_Mo_step_65 : decode b_Mo_step 65 = .ok (.putfield 200, 3) := by decide +kernel
theorem d_Mo_step_68 : decode b_Mo_step 68 = .ok (.aload_n 0, 1) := by decide +kernel
theorem d_Mo_step_69 : decode b_Mo_step 69 = .ok (.getfield 35, 3) := by decide +kernel
theorem d_Mo_step_72 : decode b_Mo_step 72 = .ok (.iload_n 1, 1) := by decide +kernel
theorem d_Mo_step_73 : decode b_Mo_step 73 = .ok (.iaload, 1) := by decide +kernel
theorem d_Mo_step_74 : decode b_Mo_step 74 = .ok (.iconst 2, 1) := by decide +kernel
theorem d_Mo_step_75 : decode b_Mo_step 75 = .ok (.if_icmp .ne 16, 3) := by decide +kernel
theorem d_Mo_step_78 : decode b_Mo_step 78 = .ok (.aload_n 0, 1) := by decide +kernel
theorem d_Mo_step_79 : decode b_Mo_step 79 = .ok (.bipush 8, 2) := by decide +kernel
theorem d_Mo_step_81 : decode b_Mo_step 81 = .ok (.invokevirtual 184, 3) := by decide +kernel
theorem d_Mo_step_84 : decode b_Mo_step 84 = .ok (.ifCond .eq 7, 3) := by decide +kernel
theorem d_Mo_step_87 : decode b_Mo_step 87 = .ok (.iconst 1, 1) := by decide +kernel
theorem d_Mo_step_88 : decode b_Mo_step 88 = .ok (.goto 4, 3) := by decide +kernel
theorem d_Mo_step_91 : decode b_Mo_step 91 = .ok (.iconst 0, 1) := by decide +kernel
theorem d_Mo_step_92 : decode b_Mo_step 92 = .ok (.ireturn, 1) := by decide +kernel
theorem d_Mo_step_93 : decode b_Mo_step 93 = .ok (.aload_n 0, 1) := by decide +kernel
theorem d_Mo_step_94 : decode b_Mo_step 94 = .ok (.getfield 178, 3) := by decide +kernel
theorem d_Mo_step_97 : decode b_Mo_step 97 = .ok (.bipush 8, 2) := by decide +kernel
theorem d_Mo_step_99 : decode b_Mo_step 99 = .ok (.if_icmp .ne 28, 3) := by decide +kernel
theorem d_Mo_step_102 : decode b_Mo_step 102 = .ok (.aload_n 0, 1) := by decide +kernel
theorem d_Mo_step_103 : decode b_Mo_step 103 = .ok (.iload_n 1, 1) := by decide +kernel
theorem d_Mo_step_104 : decode b_Mo_step 104 = .ok (.bipush 61, 2) := by decide +kernel
theorem d_Mo_step_106 : decode b_Mo_step 106 = .ok (.invokevirtual 193, 3) := by decide +kernel
theorem d_Mo_step_109 : decode b_Mo_step 109 = .ok (.ifCond .eq 16, 3) := by decide +kernel
theorem d_Mo_step_112 : decode b_Mo_step 112 = .ok (.aload_n 0, 1) := by decide +kernel
theorem d_Mo_step_113 : decode b_Mo_step 113 = .ok (.bipush 59, 2) := by decide +kernel
theorem d_Mo_step_115 : decode b_Mo_step 115 = .ok (.invokevirtual 206, 3) := by decide +kernel
theorem d_Mo_step_118 : decode b_Mo_step 118 = .ok (.ifCond .eq 7, 3) := by decide +kernel
theorem d_Mo_step_121 : decode b_Mo_step 121 = .ok (.iconst 1, 1) := by decide +kernel
theorem d_Mo_step_122 : decode b_Mo_step 122 = .ok (.goto 4, 3) := by decide +kernel
theorem d_Mo_step_125 : decode b_Mo_step 125 = .ok (.iconst 0, 1) := by decide +kernel
theorem d_Mo_step_126 : decode b_Mo_step 126 = .ok (.ireturn, 1) := by decide +kernel
theorem d_Mo_step_127 : decode b_Mo_step 127 = .ok (.aload_n 0, 1) := by decide +kernel
theorem d_Mo_step_128 : decode b_Mo_step 128 = .ok (.getfield 178, 3) := by decide +kernel
theorem d_Mo_step_131 : decode b_Mo_step 131 = .ok (.bipush 9, 2) := by decide +kernel
theorem d_Mo_step_133 : decode b_Mo_step 133 = .ok (.if_icmp .eq 12, 3) := by decide +kernel
theorem d_Mo_step_136 : decode b_Mo_step 136 = .ok (.aload_n 0, 1) := by decide +kernel
theorem d_Mo_step_137 : decode b_Mo_step 137 = .ok (.getfield 178, 3) := by decide +kernel
theorem d_Mo_step_140 : decode b_Mo_step 140 = .ok (.bipush 10, 2) := by decide +kernel
theorem d_Mo_step_142 : decode b_Mo_step 142 = .ok (.if_icmp .ne 9, 3) := by decide +kernel
theorem d_Mo_step_145 : decode b_Mo_step 145 = .ok (.aload_n 0, 1) := by decide +kernel
theorem d_Mo_step_146 : decode b_Mo_step 146 = .ok (.iload_n 1, 1) := by decide +kernel
theorem d_Mo_step_147 : decode b_Mo_step 147 = .ok (.invokevirtual 222, 3) := by decide +kernel
theorem d_Mo_step_150 : decode b_Mo_step 150 = .ok (.ireturn, 1) := by decide +kernel
theorem d_Mo_step_151 : decode b_Mo_step 151 = .ok (.aload_n 0, 1) := by decide +kernel
theorem d_Mo_step_152 : decode b_Mo_step 152 = .ok (.getfield 178, 3) := by decide +kernel
theorem d_Mo_step_155 : decode b_Mo_step 155 = .ok (.bipush 12, 2) := by decide +kernel
theorem d_Mo_step_157 : decode b_Mo_step 157 = .ok (.if_icmp .ne 31, 3) := by decide +kernel
theorem d_Mo_step_160 : decode b_Mo_step 160 = .ok (.aload_n 0, 1) := by decide +kernel
theorem d_Mo_step_161 : decode b_Mo_step 161 = .ok (.iload_n 1, 1) := by decide +kernel
theorem d_Mo_step_162 : decode b_Mo_step 162 = .ok (.bipush 40, 2) := by decide +kernel
theorem d_Mo_step_164 : decode b_Mo_step 164 = .ok (.invokevirtual 193, 3) := by decide +kernel
theorem d_Mo_step_167 : decode b_Mo_step 167 = .ok (.ifCond .eq 21, 3) := by decide +kernel
theorem d_Mo_step_170 : decode b_Mo_step 170 = .ok (.aload_n 0, 1) := by decide +kernel
theorem d_Mo_step_171 : decode b_Mo_step 171 = .ok (.getfield 47, 3) := by decide +kernel
theorem d_Mo_step_174 : decode b_Mo_step 174 = .ok (.iload_n 1, 1) := by decide +kernel
theorem d_Mo_step_175 : decode b_Mo_step 175 = .ok (.iconst 1, 1) := by decide +kernel
theorem d_Mo_step_176 : decode b_Mo_step 176 = .ok (.isub, 1) := by decide +kernel
theorem d_Mo_step_177 : decode b_Mo_step 177 = .ok (.bipush 6, 2) := by decide +kernel
theorem d_Mo_step_179 : decode b_Mo_step 179 = .ok (.iastore, 1) := by decide +kernel
theorem d_Mo_step_180 : decode b_Mo_step 180 = .ok (.aload_n 0, 1) := by decide +kernel
theorem d_Mo_step_181 : decode b_Mo_step 181 = .ok (.iload_n 1, 1) := by decide +kernel
theorem d_Mo_step_182 : decode b_Mo_step 182 = .ok (.iconst 1, 1) := by decide +kernel
theorem d_Mo_step_183 : decode b_Mo_step 183 = .ok (.isub, 1) := by decide +kernel
theorem d_Mo_step_184 : decode b_Mo_step 184 = .ok (.invokevirtual 213, 3) := by decide +kernel
theorem d_Mo_step_187 : decode b_Mo_step 187 = .ok (.ireturn, 1) := by decide +kernel
theorem d_Mo_step_188 : decode b_Mo_step 188 = .ok (.aload_n 0, 1) := by decide +kernel
theorem d_Mo_step_189 : decode b_Mo_step 189 = .ok (.getfield 178, 3) := by decide +kernel
theorem d_Mo_step_192 : decode b_Mo_step 192 = .ok (.bipush 13, 2) := by decide +kernel
theorem d_Mo_step_194 : decode b_Mo_step 194 = .ok (.if_icmp .eq 15, 3) := by decide +kernel
theorem d_Mo_step_197 : decode b_Mo_step 197 = .ok (.aload_n 0, 1) := by decide +kernel
theorem d_Mo_step_198 : decode b_Mo_step 198 = .ok (.iload_n 1, 1) := by decide +kernel
theorem d_Mo_step_199 : decode b_Mo_step 199 = .ok (.invokevirtual 225, 3) := by decide +kernel
theorem d_Mo_step_202 : decode b_Mo_step 202 = .ok (.ifCond .eq 7, 3) := by decide +kernel
theorem d_Mo_step_205 : decode b_Mo_step 205 = .ok (.iconst 1, 1) := by decide +kernel
theorem d_Mo_step_206 : decode b_Mo_step 206 = .ok (.goto 4, 3) := by decide +kernel
theorem d_Mo_step_209 : decode b_Mo_step 209 = .ok (.iconst 0, 1) := by decide +kernel
theorem d_Mo_step_210 : decode b_Mo_step 210 = .ok (.ireturn, 1) := by decide +kernel
abbrev b_Mo_readPart : ByteArray := prog_11_method_32_code
def y_Mo_readPart : MethodName := ⟨"ProgramDeskModel", "readPart", "(I)V"⟩
theorem d_Mo_readPart_0 : decode b_Mo_readPart 0 = .ok (.aload_n 0, 1) := by decide +kernel
theorem d_Mo_readPart_1 : decode b_Mo_readPart 1 = .ok (.getfield 71, 3) := by decide +kernel
theorem d_Mo_readPart_4 : decode b_Mo_readPart 4 = .ok (.iload_n 1, 1) := by decide +kernel
theorem d_Mo_readPart_5 : decode b_Mo_readPart 5 = .ok (.iaload, 1) := by decide +kernel
theorem d_Mo_readPart_6 : decode b_Mo_readPart 6 = .ok (.istore_n 2, 1) := by decide +kernel
theorem d_Mo_readPart_7 : decode b_Mo_readPart 7 = .ok (.aload_n 0, 1) := by decide +kernel
theorem d_Mo_readPart_8 : decode b_Mo_readPart 8 = .ok (.getfield 74, 3) := by decide +kernel
theorem d_Mo_readPart_11 : decode b_Mo_readPart 11 = .ok (.iload_n 1, 1) := by decide +kernel
theorem d_Mo_readPart_12 : decode b_Mo_readPart 12 = .ok (.iconst (-1), 1) := by decide +kernel
theorem d_Mo_readPart_13 : decode b_Mo_readPart 13 = .ok (.iastore, 1) := by decide +kernel
theorem d_Mo_readPart_14 : decode b_Mo_readPart 14 = .ok (.aload_n 0, 1) := by decide +kernel
theorem d_Mo_readPart_15 : decode b_Mo_readPart 15 = .ok (.getfield 77, 3) := by decide +kernel
theorem d_Mo_readPart_18 : decode b_Mo_readPart 18 = .ok (.iload_n 1, 1) := by decide +kernel
theorem d_Mo_readPart_19 : decode b_Mo_readPart 19 = .ok (.iconst 0, 1) := by decide +kernel
theorem d_Mo_readPart_20 : decode b_Mo_readPart 20 = .ok (.iastore, 1) := by decide +kernel
theorem d_Mo_readPart_21 : decode b_Mo_readPart 21 = .ok (.aload_n 0, 1) := by decide +kernel
theorem d_Mo_readPart_22 : decode b_Mo_readPart 22 = .ok (.iconst 0, 1) := by decide +kernel
theorem d_Mo_readPart_23 : decode b_Mo_readPart 23 = .ok (.putfield 178, 3) := by decide +kernel
theorem d_Mo_readPart_26 : decode b_Mo_readPart 26 = .ok (.aload_n 0, 1) := by decide +kernel
theorem d_Mo_readPart_27 : decode b_Mo_readPart 27 = .ok (.iconst 0, 1) := by decide +kernel
theorem d_Mo_readPart_28 : decode b_Mo_readPart 28 = .ok (.putfield 181, 3) := by decide +kernel
theorem d_Mo_readPart_31 : decode b_Mo_readPart 31 = .ok (.aload_n 0, 1) := by decide +kernel
theorem d_Mo_readPart_32 : decode b_Mo_readPart 32 = .ok (.aload_n 0, 1) := by decide +kernel
theorem d_Mo_readPart_33 : decode b_Mo_readPart 33 = .ok (.getfield 68, 3) := by decide +kernel
theorem d_Mo_readPart_36 : decode b_Mo_readPart 36 = .ok (.iload_n 1, 1) := by decide +kernel
theorem d_Mo_readPart_37 : decode b_Mo_readPart 37 = .ok (.iaload, 1) := by decide +kernel
theorem d_Mo_readPart_38 : decode b_Mo_readPart 38 = .ok (.invokevirtual 228, 3) := by decide +kernel
theorem d_Mo_readPart_41 : decode b_Mo_readPart 41 = .ok (.ifCond .ne 20, 3) := by decide +kernel
theorem d_Mo_readPart_44 : decode b_Mo_readPart 44 = .ok (.aload_n 0, 1) := by decide +kernel
theorem d_Mo_readPart_45 : decode b_Mo_readPart 45 = .ok (.getfield 74, 3) := by decide +kernel
theorem d_Mo_readPart_48 : decode b_Mo_readPart 48 = .ok (.iload_n 1, 1) := by decide +kernel
theorem d_Mo_readPart_49 : decode b_Mo_readPart 49 = .ok (.aload_n 0, 1) := by decide +kernel
theorem d_Mo_readPart_50 : decode b_Mo_readPart 50 = .ok (.getfield 38, 3) := by decide +kernel
theorem d_Mo_readPart_53 : decode b_Mo_readPart 53 = .ok (.aload_n 0, 1) := by decide +kernel
theorem d_Mo_readPart_54 : decode b_Mo_readPart 54 = .ok (.getfield 68, 3) := by decide +kernel
theorem d_Mo_readPart_57 : decode b_Mo_readPart 57 = .ok (.iload_n 1, 1) := by decide +kernel
theorem d_Mo_readPart_58 : decode b_Mo_readPart 58 = .ok (.iaload, 1) := by decide +kernel
theorem d_Mo_readPart_59 : decode b_Mo_readPart 59 = .ok (.iaload, 1) := by decide +kernel
theorem d_Mo_readPart_60 : decode b_Mo_readPart 60 = .ok (.iastore, 1) := by decide +kernel
theorem d_Mo_readPart_61 : decode b_Mo_readPart 61 = .ok (.aload_n 0, 1) := by decide +kernel
theorem d_Mo_readPart_62 : decode b_Mo_readPart 62 = .ok (.getfield 68, 3) := by decide +kernel
theorem d_Mo_readPart_65 : decode b_Mo_readPart 65 = .ok (.iload_n 1, 1) := by decide +kernel
theorem d_Mo_readPart_66 : decode b_Mo_readPart 66 = .ok (.iaload, 1) := by decide +kernel
theorem d_Mo_readPart_67 : decode b_Mo_readPart 67 = .ok (.iconst 1, 1) := by decide +kernel
theorem d_Mo_readPart_68 : decode b_Mo_readPart 68 = .ok (.iadd, 1) := by decide +kernel
theorem d_Mo_readPart_69 : decode b_Mo_readPart 69 = .ok (.istore_n 3, 1) := by decide +kernel
theorem d_Mo_readPart_70 : decode b_Mo_readPart 70 = .ok (.iload_n 3, 1) := by decide +kernel
theorem d_Mo_readPart_71 : decode b_Mo_readPart 71 = .ok (.iload_n 2, 1) := by decide +kernel
theorem d_Mo_readPart_72 : decode b_Mo_readPart 72 = .ok (.if_icmp .ge 39, 3) := by decide +kernel
theorem d_Mo_readPart_75 : decode b_Mo_readPart 75 = .ok (.aload_n 0, 1) := by decide +kernel
theorem d_Mo_readPart_76 : decode b_Mo_readPart 76 = .ok (.getfield 74, 3) := by decide +kernel
theorem d_Mo_readPart_79 : decode b_Mo_readPart 79 = .ok (.iload_n 1, 1) := by decide +kernel
theorem d_Mo_readPart_80 : decode b_Mo_readPart 80 = .ok (.iaload, 1) := by decide +kernel
theorem d_Mo_readPart_81 : decode b_Mo_readPart 81 = .ok (.ifCond .ge 30, 3) := by decide +kernel
theorem d_Mo_readPart_84 : decode b_Mo_readPart 84 = .ok (.aload_n 0, 1) := by decide +kernel
theorem d_Mo_readPart_85 : decode b_Mo_readPart 85 = .ok (.iload_n 3, 1) := by decide +kernel
theorem d_Mo_readPart_86 : decode b_Mo_readPart 86 = .ok (.iload_n 1, 1) := by decide +kernel
theorem d_Mo_readPart_87 : decode b_Mo_readPart 87 = .ok (.invokevirtual 231, 3) := by decide +kernel
theorem d_Mo_readPart_90 : decode b_Mo_readPart 90 = .ok (.ifCond .ne 15, 3) := by decide +kernel
theorem d_Mo_readPart_93 : decode b_Mo_readPart 93 = .ok (.aload_n 0, 1) := by decide +kernel
theorem d_Mo_readPart_94 : decode b_Mo_readPart 94 = .ok (.getfield 74, 3) := by decide +kernel
theorem d_Mo_readPart_97 : decode b_Mo_readPart 97 = .ok (.iload_n 1, 1) := by decide +kernel
theorem d_Mo_readPart_98 : decode b_Mo_readPart 98 = .ok (.aload_n 0, 1) := by decide +kernel
theorem d_Mo_readPart_99 : decode b_Mo_readPart 99 = .ok (.getfield 38, 3) := by decide +kernel
theorem d_Mo_readPart_102 : decode b_Mo_readPart 102 = .ok (.iload_n 3, 1) := by decide +kernel
theorem d_Mo_readPart_103 : decode b_Mo_readPart 103 = .ok (.iaload, 1) := by decide +kernel
theorem d_Mo_readPart_104 : decode b_Mo_readPart 104 = .ok (.iastore, 1) := by decide +kernel
theorem d_Mo_readPart_105 : decode b_Mo_readPart 105 = .ok (.iinc 3 1, 3) := by decide +kernel
theorem d_Mo_readPart_108 : decode b_Mo_readPart 108 = .ok (.goto (-38), 3) := by decide +kernel
theorem d_Mo_readPart_111 : decode b_Mo_readPart 111 = .ok (.aload_n 0, 1) := by decide +kernel
theorem d_Mo_readPart_112 : decode b_Mo_readPart 112 = .ok (.getfield 74, 3) := by decide +kernel
theorem d_Mo_readPart_115 : decode b_Mo_readPart 115 = .ok (.iload_n 1, 1) := by decide +kernel
theorem d_Mo_readPart_116 : decode b_Mo_readPart 116 = .ok (.iaload, 1) := by decide +kernel
theorem d_Mo_readPart_117 : decode b_Mo_readPart 117 = .ok (.ifCond .ge 26, 3) := by decide +kernel
theorem d_Mo_readPart_120 : decode b_Mo_readPart 120 = .ok (.aload_n 0, 1) := by decide +kernel
theorem d_Mo_readPart_121 : decode b_Mo_readPart 121 = .ok (.getfield 178, 3) := by decide +kernel
theorem d_Mo_readPart_124 : decode b_Mo_readPart 124 = .ok (.bipush 13, 2) := by decide +kernel
theorem d_Mo_readPart_126 : decode b_Mo_readPart 126 = .ok (.if_icmp .eq 17, 3) := by decide +kernel
theorem d_Mo_readPart_129 : decode b_Mo_readPart 129 = .ok (.aload_n 0, 1) := by decide +kernel
theorem d_Mo_readPart_130 : decode b_Mo_readPart 130 = .ok (.getfield 74, 3) := by decide +kernel
theorem d_Mo_readPart_133 : decode b_Mo_readPart 133 = .ok (.iload_n 1, 1) := by decide +kernel
theorem d_Mo_readPart_134 : decode b_Mo_readPart 134 = .ok (.aload_n 0, 1) := by decide +kernel
theorem d_Mo_readPart_135 : decode b_Mo_readPart 135 = .ok (.getfield 41, 3) := by decide +kernel
theorem d_Mo_readPart_138 : decode b_Mo_readPart 138 = .ok (.iload_n 2, 1) := by decide +kernel
theorem d_Mo_readPart_139 : decode b_Mo_readPart 139 = .ok (.iconst 1, 1) := by decide +kernel
theorem d_Mo_readPart_140 : decode b_Mo_readPart 140 = .ok (.isub, 1) := by decide +kernel
theorem d_Mo_readPart_141 : decode b_Mo_readPart 141 = .ok (.iaload, 1) := by decide +kernel
theorem d_Mo_readPart_142 : decode b_Mo_readPart 142 = .ok (.iastore, 1) := by decide +kernel
theorem d_Mo_readPart_143 : decode b_Mo_readPart 143 = .ok (.aload_n 0, 1) := by decide +kernel
theorem d_Mo_readPart_144 : decode b_Mo_readPart 144 = .ok (.getfield 68, 3) := by decide +kernel
theorem d_Mo_readPart_147 : decode b_Mo_readPart 147 = .ok (.iload_n 1, 1) := by decide +kernel
theorem d_Mo_readPart_148 : decode b_Mo_readPart 148 = .ok (.iaload, 1) := by decide +kernel
theorem d_Mo_readPart_149 : decode b_Mo_readPart 149 = .ok (.istore_n 3, 1) := by decide +kernel
theorem d_Mo_readPart_150 : decode b_Mo_readPart 150 = .ok (.iload_n 3, 1) := by decide +kernel
theorem d_Mo_readPart_151 : decode b_Mo_readPart 151 = .ok (.iload_n 2, 1) := by decide +kernel
theorem d_Mo_readPart_152 : decode b_Mo_readPart 152 = .ok (.if_icmp .ge 54, 3) := by decide +kernel
theorem d_Mo_readPart_155 : decode b_Mo_readPart 155 = .ok (.aload_n 0, 1) := by decide +kernel
theorem d_Mo_readPart_156 : decode b_Mo_readPart 156 = .ok (.getfield 74, 3) := by decide +kernel
theorem d_Mo_readPart_159 : decode b_Mo_readPart 159 = .ok (.iload_n 1, 1) := by decide +kernel
theorem d_Mo_readPart_160 : decode b_Mo_readPart 160 = .ok (.iaload, 1) := by decide +kernel
theorem d_Mo_readPart_161 : decode b_Mo_readPart 161 = .ok (.ifCond .lt 10, 3) := by decide +kernel
theorem d_Mo_readPart_164 : decode b_Mo_readPart 164 = .ok (.aload_n 0, 1) := by decide +kernel
theorem d_Mo_readPart_165 : decode b_Mo_readPart 165 = .ok (.getfield 47, 3) := by decide +kernel
theorem d_Mo_readPart_168 : decode b_Mo_readPart 168 = .ok (.iload_n 3, 1) := by decide +kernel
theorem d_Mo_readPart_169 : decode b_Mo_readPart 169 = .ok (.iconst 0, 1) := by decide +kernel
theorem d_Mo_readPart_170 : decode b_Mo_readPart 170 = .ok (.iastore, 1) := by decide +kernel
theorem d_Mo_readPart_171 : decode b_Mo_readPart 171 = .ok (.aload_n 0, 1) := by decide +kernel
theorem d_Mo_readPart_172 : decode b_Mo_readPart 172 = .ok (.getfield 47, 3) := by decide +kernel
theorem d_Mo_readPart_175 : decode b_Mo_readPart 175 = .ok (.iload_n 3, 1) := by decide +kernel
theorem d_Mo_readPart_176 : decode b_Mo_readPart 176 = .ok (.iaload, 1) := by decide +kernel
theorem d_Mo_readPart_177 : decode b_Mo_readPart 177 = .ok (.iconst 2, 1) := by decide +kernel
theorem d_Mo_readPart_178 : decode b_Mo_readPart 178 = .ok (.if_icmp .ne 22, 3) := by decide +kernel
theorem d_Mo_readPart_181 : decode b_Mo_readPart 181 = .ok (.aload_n 0, 1) := by decide +kernel
theorem d_Mo_readPart_182 : decode b_Mo_readPart 182 = .ok (.getfield 62, 3) := by decide +kernel
theorem d_Mo_readPart_185 : decode b_Mo_readPart 185 = .ok (.iload_n 3, 1) := by decide +kernel
theorem d_Mo_readPart_186 : decode b_Mo_readPart 186 = .ok (.aload_n 0, 1) := by decide +kernel
theorem d_Mo_readPart_187 : decode b_Mo_readPart 187 = .ok (.getfield 68, 3) := by decide +kernel
theorem d_Mo_readPart_190 : decode b_Mo_readPart 190 = .ok (.iload_n 1, 1) := by decide +kernel
theorem d_Mo_readPart_191 : decode b_Mo_readPart 191 = .ok (.iaload, 1) := by decide +kernel
theorem d_Mo_readPart_192 : decode b_Mo_readPart 192 = .ok (.iastore, 1) := by decide +kernel
theorem d_Mo_readPart_193 : decode b_Mo_readPart 193 = .ok (.aload_n 0, 1) := by decide +kernel
theorem d_Mo_readPart_194 : decode b_Mo_readPart 194 = .ok (.getfield 65, 3) := by decide +kernel
theorem d_Mo_readPart_197 : decode b_Mo_readPart 197 = .ok (.iload_n 3, 1) := by decide +kernel
theorem d_Mo_readPart_198 : decode b_Mo_readPart 198 = .ok (.iload_n 2, 1) := by decide +kernel
theorem d_Mo_readPart_199 : decode b_Mo_readPart 199 = .ok (.iastore, 1) := by decide +kernel
theorem d_Mo_readPart_200 : decode b_Mo_readPart 200 = .ok (.iinc 3 1, 3) := by decide +kernel
theorem d_Mo_readPart_203 : decode b_Mo_readPart 203 = .ok (.goto (-53), 3) := by decide +kernel
theorem d_Mo_readPart_206 : decode b_Mo_readPart 206 = .ok (.return_, 1) := by decide +kernel
abbrev b_Mo_note : ByteArray := prog_11_method_33_code
def y_Mo_note : MethodName := ⟨"ProgramDeskModel", "note", "(II)V"⟩
theorem d_Mo_note_0 : decode b_Mo_note 0 = .ok (.iload_n 1, 1) := by decide +kernel
theorem d_Mo_note_1 : decode b_Mo_note 1 = .ok (.bipush 8, 2) := by decide +kernel
theorem d_Mo_note_3 : decode b_Mo_note 3 = .ok (.iload_n 2, 1) := by decide +kernel
theorem d_Mo_note_4 : decode b_Mo_note 4 = .ok (.imul, 1) := by decide +kernel
theorem d_Mo_note_5 : decode b_Mo_note 5 = .ok (.iadd, 1) := by decide +kernel
theorem d_Mo_note_6 : decode b_Mo_note 6 = .ok (.istore_n 3, 1) := by decide +kernel
theorem d_Mo_note_7 : decode b_Mo_note 7 = .ok (.aload_n 0, 1) := by decide +kernel
theorem d_Mo_note_8 : decode b_Mo_note 8 = .ok (.getfield 234, 3) := by decide +kernel
theorem d_Mo_note_11 : decode b_Mo_note 11 = .ok (.istore 4, 2) := by decide +kernel
theorem d_Mo_note_13 : decode b_Mo_note 13 = .ok (.iload 4, 2) := by decide +kernel
theorem d_Mo_note_15 : decode b_Mo_note 15 = .ok (.ifCond .le 38, 3) := by decide +kernel
theorem d_Mo_note_18 : decode b_Mo_note 18 = .ok (.aload_n 0, 1) := by decide +kernel
theorem d_Mo_note_19 : decode b_Mo_note 19 = .ok (.getfield 80, 3) := by decide +kernel
theorem d_Mo_note_22 : decode b_Mo_note 22 = .ok (.iload 4, 2) := by decide +kernel
theorem d_Mo_note_24 : decode b_Mo_note 24 = .ok (.iconst 1, 1) := by decide +kernel
theorem d_Mo_note_25 : decode b_Mo_note 25 = .ok (.isub, 1) := by decide +kernel
theorem d_Mo_note_26 : decode b_Mo_note 26 = .ok (.iaload, 1) := by decide +kernel
theorem d_Mo_note_27 : decode b_Mo_note 27 = .ok (.iload_n 3, 1) := by decide +kernel
theorem d_Mo_note_28 : decode b_Mo_note 28 = .ok (.if_icmp .le 25, 3) := by decide +kernel
theorem d_Mo_note_31 : decode b_Mo_note 31 = .ok (.aload_n 0, 1) := by decide +kernel
theorem d_Mo_note_32 : decode b_Mo_note 32 = .ok (.getfield 80, 3) := by decide +kernel
theorem d_Mo_note_35 : decode b_Mo_note 35 = .ok (.iload 4, 2) := by decide +kernel
theorem d_Mo_note_37 : decode b_Mo_note 37 = .ok (.aload_n 0, 1) := by decide +kernel
theorem d_Mo_note_38 : decode b_Mo_note 38 = .ok (.getfield 80, 3) := by decide +kernel
theorem d_Mo_note_41 : decode b_Mo_note 41 = .ok (.iload 4, 2) := by decide +kernel
theorem d_Mo_note_43 : decode b_Mo_note 43 = .ok (.iconst 1, 1) := by decide +kernel
theorem d_Mo_note_44 : decode b_Mo_note 44 = .ok (.isub, 1) := by decide +kernel
theorem d_Mo_note_45 : decode b_Mo_note 45 = .ok (.iaload, 1) := by decide +kernel
theorem d_Mo_note_46 : decode b_Mo_note 46 = .ok (.iastore, 1) := by decide +kernel
theorem d_Mo_note_47 : decode b_Mo_note 47 = .ok (.iinc 4 (-1), 3) := by decide +kernel
theorem d_Mo_note_50 : decode b_Mo_note 50 = .ok (.goto (-37), 3) := by decide +kernel
theorem d_Mo_note_53 : decode b_Mo_note 53 = .ok (.aload_n 0, 1) := by decide +kernel
theorem d_Mo_note_54 : decode b_Mo_note 54 = .ok (.getfield 80, 3) := by decide +kernel
theorem d_Mo_note_57 : decode b_Mo_note 57 = .ok (.iload 4, 2) := by decide +kernel
theorem d_Mo_note_59 : decode b_Mo_note 59 = .ok (.iload_n 3, 1) := by decide +kernel
theorem d_Mo_note_60 : decode b_Mo_note 60 = .ok (.iastore, 1) := by decide +kernel
theorem d_Mo_note_61 : decode b_Mo_note 61 = .ok (.aload_n 0, 1) := by decide +kernel
theorem d_Mo_note_62 : decode b_Mo_note 62 = .ok (.dup, 1) := by decide +kernel
theorem d_Mo_note_63 : decode b_Mo_note 63 = .ok (.getfield 234, 3) := by decide +kernel
theorem d_Mo_note_66 : decode b_Mo_note 66 = .ok (.iconst 1, 1) := by decide +kernel
theorem d_Mo_note_67 : decode b_Mo_note 67 = .ok (.iadd, 1) := by decide +kernel
theorem d_Mo_note_68 : decode b_Mo_note 68 = .ok (.putfield 234, 3) := by decide +kernel
theorem d_Mo_note_71 : decode b_Mo_note 71 = .ok (.return_, 1) := by decide +kernel
abbrev b_Mo_isRepeated : ByteArray := prog_11_method_34_code
def y_Mo_isRepeated : MethodName := ⟨"ProgramDeskModel", "isRepeated", "(I)Z"⟩
theorem d_Mo_isRepeated_0 : decode b_Mo_isRepeated 0 = .ok (.iconst 0, 1) := by decide +kernel
theorem d_Mo_isRepeated_1 : decode b_Mo_isRepeated 1 = .ok (.istore_n 2, 1) := by decide +kernel
theorem d_Mo_isRepeated_2 : decode b_Mo_isRepeated 2 = .ok (.iconst 0, 1) := by decide +kernel
theorem d_Mo_isRepeated_3 : decode b_Mo_isRepeated 3 = .ok (.istore_n 3, 1) := by decide +kernel
theorem d_Mo_isRepeated_4 : decode b_Mo_isRepeated 4 = .ok (.iload_n 3, 1) := by decide +kernel
theorem d_Mo_isRepeated_5 : decode b_Mo_isRepeated 5 = .ok (.iload_n 1, 1) := by decide +kernel
theorem d_Mo_isRepeated_6 : decode b_Mo_isRepeated 6 = .ok (.if_icmp .ge 110, 3) := by decide +kernel
theorem d_Mo_isRepeated_9 : decode b_Mo_isRepeated 9 = .ok (.aload_n 0, 1) := by decide +kernel
theorem d_Mo_isRepeated_10 : decode b_Mo_isRepeated 10 = .ok (.getfield 47, 3) := by decide +kernel
theorem d_Mo_isRepeated_13 : decode b_Mo_isRepeated 13 = .ok (.iload_n 1, 1) := by decide +kernel
theorem d_Mo_isRepeated_14 : decode b_Mo_isRepeated 14 = .ok (.iaload, 1) := by decide +kernel
theorem d_Mo_isRepeated_15 : decode b_Mo_isRepeated 15 = .ok (.iconst 1, 1) := by decide +kernel
theorem d_Mo_isRepeated_16 : decode b_Mo_isRepeated 16 = .ok (.if_icmp .ne 21, 3) := by decide +kernel
theorem d_Mo_isRepeated_19 : decode b_Mo_isRepeated 19 = .ok (.aload_n 0, 1) := by decide +kernel
theorem d_Mo_isRepeated_20 : decode b_Mo_isRepeated 20 = .ok (.getfield 47, 3) := by decide +kernel
theorem d_Mo_isRepeated_23 : decode b_Mo_isRepeated 23 = .ok (.iload_n 3, 1) := by decide +kernel
theorem d_Mo_isRepeated_24 : decode b_Mo_isRepeated 24 = .ok (.iaload, 1) := by decide +kernel
theorem d_Mo_isRepeated_25 : decode b_Mo_isRepeated 25 = .ok (.iconst 1, 1) := by decide +kernel
theorem d_Mo_isRepeated_26 : decode b_Mo_isRepeated 26 = .ok (.if_icmp .ne 7, 3) := by decide +kernel
theorem d_Mo_isRepeated_29 : decode b_Mo_isRepeated 29 = .ok (.iconst 1, 1) := by decide +kernel
theorem d_Mo_isRepeated_30 : decode b_Mo_isRepeated 30 = .ok (.goto 47, 3) := by decide +kernel
theorem d_Mo_isRepeated_33 : decode b_Mo_isRepeated 33 = .ok (.iconst 0, 1) := by decide +kernel
theorem d_Mo_isRepeated_34 : decode b_Mo_isRepeated 34 = .ok (.goto 43, 3) := by decide +kernel
theorem d_Mo_isRepeated_37 : decode b_Mo_isRepeated 37 = .ok (.aload_n 0, 1) := by decide +kernel
theorem d_Mo_isRepeated_38 : decode b_Mo_isRepeated 38 = .ok (.getfield 47, 3) := by decide +kernel
theorem d_Mo_isRepeated_41 : decode b_Mo_isRepeated 41 = .ok (.iload_n 3, 1) := by decide +kernel
theorem d_Mo_isRepeated_42 : decode b_Mo_isRepeated 42 = .ok (.iaload, 1) := by decide +kernel
theorem d_Mo_isRepeated_43 : decode b_Mo_isRepeated 43 = .ok (.iconst 2, 1) := by decide +kernel
theorem d_Mo_isRepeated_44 : decode b_Mo_isRepeated 44 = .ok (.if_icmp .eq 13, 3) := by decide +kernel
theorem d_Mo_isRepeated_47 : decode b_Mo_isRepeated 47 = .ok (.aload_n 0, 1) := by decide +kernel
theorem d_Mo_isRepeated_48 : decode b_Mo_isRepeated 48 = .ok (.getfield 47, 3) := by decide +kernel
theorem d_Mo_isRepeated_51 : decode b_Mo_isRepeated 51 = .ok (.iload_n 3, 1) := by decide +kernel
theorem d_Mo_isRepeated_52 : decode b_Mo_isRepeated 52 = .ok (.iaload, 1) := by decide +kernel
theorem d_Mo_isRepeated_53 : decode b_Mo_isRepeated 53 = .ok (.iconst 3, 1) := by decide +kernel
theorem d_Mo_isRepeated_54 : decode b_Mo_isRepeated 54 = .ok (.if_icmp .ne 22, 3) := by decide +kernel
theorem d_Mo_isRepeated_57 : decode b_Mo_isRepeated 57 = .ok (.aload_n 0, 1) := by decide +kernel
theorem d_Mo_isRepeated_58 : decode b_Mo_isRepeated 58 = .ok (.getfield 59, 3) := by decide +kernel
theorem d_Mo_isRepeated_61 : decode b_Mo_isRepeated 61 = .ok (.iload_n 3, 1) := by decide +kernel
theorem d_Mo_isRepeated_62 : decode b_Mo_isRepeated 62 = .ok (.iaload, 1) := by decide +kernel
theorem d_Mo_isRepeated_63 : decode b_Mo_isRepeated 63 = .ok (.aload_n 0, 1) := by decide +kernel
theorem d_Mo_isRepeated_64 : decode b_Mo_isRepeated 64 = .ok (.getfield 59, 3) := by decide +kernel
theorem d_Mo_isRepeated_67 : decode b_Mo_isRepeated 67 = .ok (.iload_n 1, 1) := by decide +kernel
theorem d_Mo_isRepeated_68 : decode b_Mo_isRepeated 68 = .ok (.iaload, 1) := by decide +kernel
theorem d_Mo_isRepeated_69 : decode b_Mo_isRepeated 69 = .ok (.if_icmp .ne 7, 3) := by decide +kernel
theorem d_Mo_isRepeated_72 : decode b_Mo_isRepeated 72 = .ok (.iconst 1, 1) := by decide +kernel
theorem d_Mo_isRepeated_73 : decode b_Mo_isRepeated 73 = .ok (.goto 4, 3) := by decide +kernel
theorem d_Mo_isRepeated_76 : decode b_Mo_isRepeated 76 = .ok (.iconst 0, 1) := by decide +kernel
theorem d_Mo_isRepeated_77 : decode b_Mo_isRepeated 77 = .ok (.istore 4, 2) := by decide +kernel
theorem d_Mo_isRepeated_79 : decode b_Mo_isRepeated 79 = .ok (.iload_n 2, 1) := by decide +kernel
theorem d_Mo_isRepeated_80 : decode b_Mo_isRepeated 80 = .ok (.ifCond .ne 24, 3) := by decide +kernel
theorem d_Mo_isRepeated_83 : decode b_Mo_isRepeated 83 = .ok (.iload 4, 2) := by decide +kernel
theorem d_Mo_isRepeated_85 : decode b_Mo_isRepeated 85 = .ok (.ifCond .eq 23, 3) := by decide +kernel
theorem d_Mo_isRepeated_88 : decode b_Mo_isRepeated 88 = .ok (.aload_n 0, 1) := by decide +kernel
theorem d_Mo_isRepeated_89 : decode b_Mo_isRepeated 89 = .ok (.getfield 44, 3) := by decide +kernel
theorem d_Mo_isRepeated_92 : decode b_Mo_isRepeated 92 = .ok (.iload_n 3, 1) := by decide +kernel
theorem d_Mo_isRepeated_93 : decode b_Mo_isRepeated 93 = .ok (.laload, 1) := by decide +kernel
theorem d_Mo_isRepeated_94 : decode b_Mo_isRepeated 94 = .ok (.aload_n 0, 1) := by decide +kernel
theorem d_Mo_isRepeated_95 : decode b_Mo_isRepeated 95 = .ok (.getfield 44, 3) := by decide +kernel
theorem d_Mo_isRepeated_98 : decode b_Mo_isRepeated 98 = .ok (.iload_n 1, 1) := by decide +kernel
theorem d_Mo_isRepeated_99 : decode b_Mo_isRepeated 99 = .ok (.laload, 1) := by decide +kernel
theorem d_Mo_isRepeated_100 : decode b_Mo_isRepeated 100 = .ok (.lcmp, 1) := by decide +kernel
theorem d_Mo_isRepeated_101 : decode b_Mo_isRepeated 101 = .ok (.ifCond .ne 7, 3) := by decide +kernel
theorem d_Mo_isRepeated_104 : decode b_Mo_isRepeated 104 = .ok (.iconst 1, 1) := by decide +kernel
theorem d_Mo_isRepeated_105 : decode b_Mo_isRepeated 105 = .ok (.goto 4, 3) := by decide +kernel
theorem d_Mo_isRepeated_108 : decode b_Mo_isRepeated 108 = .ok (.iconst 0, 1) := by decide +kernel
theorem d_Mo_isRepeated_109 : decode b_Mo_isRepeated 109 = .ok (.istore_n 2, 1) := by decide +kernel
theorem d_Mo_isRepeated_110 : decode b_Mo_isRepeated 110 = .ok (.iinc 3 1, 3) := by decide +kernel
theorem d_Mo_isRepeated_113 : decode b_Mo_isRepeated 113 = .ok (.goto (-109), 3) := by decide +kernel
theorem d_Mo_isRepeated_116 : decode b_Mo_isRepeated 116 = .ok (.iload_n 2, 1) := by decide +kernel
theorem d_Mo_isRepeated_117 : decode b_Mo_isRepeated 117 = .ok (.ireturn, 1) := by decide +kernel
abbrev b_Mo_meaning : ByteArray := prog_11_method_35_code
def y_Mo_meaning : MethodName := ⟨"ProgramDeskModel", "meaning", "(JI)I"⟩
theorem d_Mo_meaning_0 : decode b_Mo_meaning 0 = .ok (.iconst (-1), 1) := by decide +kernel
theorem d_Mo_meaning_1 : decode b_Mo_meaning 1 = .ok (.istore 4, 2) := by decide +kernel
theorem d_Mo_meaning_3 : decode b_Mo_meaning 3 = .ok (.iconst 0, 1) := by decide +kernel
theorem d_Mo_meaning_4 : decode b_Mo_meaning 4 = .ok (.istore 5, 2) := by decide +kernel
theorem d_Mo_meaning_6 : decode b_Mo_meaning 6 = .ok (.iload 5, 2) := by decide +kernel
theorem d_Mo_meaning_8 : decode b_Mo_meaning 8 = .ok (.aload_n 0, 1) := by decide +kernel
theorem d_Mo_meaning_9 : decode b_Mo_meaning 9 = .ok (.getfield 157, 3) := by decide +kernel
theorem d_Mo_meaning_12 : decode b_Mo_meaning 12 = .ok (.if_icmp .ge 120, 3) := by decide +kernel
theorem d_Mo_meaning_15 : decode b_Mo_meaning 15 = .ok (.aload_n 0, 1) := by decide +kernel
theorem d_Mo_meaning_16 : decode b_Mo_meaning 16 = .ok (.getfield 47, 3) := by decide +kernel
theorem d_Mo_meaning_19 : decode b_Mo_meaning 19 = .ok (.iload 5, 2) := by decide +kernel
theorem d_Mo_meaning_21 : decode b_Mo_meaning 21 = .ok (.iaload, 1) := by decide +kernel
theorem d_Mo_meaning_22 : decode b_Mo_meaning 22 = .ok (.iconst 2, 1) := by decide +kernel
theorem d_Mo_meaning_23 : decode b_Mo_meaning 23 = .ok (.if_icmp .eq 14, 3) := by decide +kernel
theorem d_Mo_meaning_26 : decode b_Mo_meaning 26 = .ok (.aload_n 0, 1) := by decide +kernel
theorem d_Mo_meaning_27 : decode b_Mo_meaning 27 = .ok (.getfield 47, 3) := by decide +kernel
theorem d_Mo_meaning_30 : decode b_Mo_meaning 30 = .ok (.iload 5, 2) := by decide +kernel
theorem d_Mo_meaning_32 : decode b_Mo_meaning 32 = .ok (.iaload, 1) := by decide +kernel
theorem d_Mo_meaning_33 : decode b_Mo_meaning 33 = .ok (.iconst 3, 1) := by decide +kernel
theorem d_Mo_meaning_34 : decode b_Mo_meaning 34 = .ok (.if_icmp .ne 53, 3) := by decide +kernel
theorem d_Mo_meaning_37 : decode b_Mo_meaning 37 = .ok (.aload_n 0, 1) := by decide +kernel
theorem d_Mo_meaning_38 : decode b_Mo_meaning 38 = .ok (.getfield 50, 3) := by decide +kernel
theorem d_Mo_meaning_41 : decode b_Mo_meaning 41 = .ok (.iload 5, 2) := by decide +kernel
theorem d_Mo_meaning_43 : decode b_Mo_meaning 43 = .ok (.iaload, 1) := by decide +kernel
theorem d_Mo_meaning_44 : decode b_Mo_meaning 44 = .ok (.iload 5, 2) := by decide +kernel
theorem d_Mo_meaning_46 : decode b_Mo_meaning 46 = .ok (.if_icmp .ne 41, 3) := by decide +kernel
theorem d_Mo_meaning_49 : decode b_Mo_meaning 49 = .ok (.aload_n 0, 1) := by decide +kernel
theorem d_Mo_meaning_50 : decode b_Mo_meaning 50 = .ok (.getfield 44, 3) := by decide +kernel
theorem d_Mo_meaning_53 : decode b_Mo_meaning 53 = .ok (.iload 5, 2) := by decide +kernel
theorem d_Mo_meaning_55 : decode b_Mo_meaning 55 = .ok (.laload, 1) := by decide +kernel
theorem d_Mo_meaning_56 : decode b_Mo_meaning 56 = .ok (.lload_n 1, 1) := by decide +kernel
theorem d_Mo_meaning_57 : decode b_Mo_meaning 57 = .ok (.lcmp, 1) := by decide +kernel
theorem d_Mo_meaning_58 : decode b_Mo_meaning 58 = .ok (.ifCond .ne 29, 3) := by decide +kernel
theorem d_Mo_meaning_61 : decode b_Mo_meaning 61 = .ok (.aload_n 0, 1) := by decide +kernel
theorem d_Mo_meaning_62 : decode b_Mo_meaning 62 = .ok (.getfield 62, 3) := by decide +kernel
theorem d_Mo_meaning_65 : decode b_Mo_meaning 65 = .ok (.iload 5, 2) := by decide +kernel
theorem d_Mo_meaning_67 : decode b_Mo_meaning 67 = .ok (.iaload, 1) := by decide +kernel
theorem d_Mo_meaning_68 : decode b_Mo_meaning 68 = .ok (.iload_n 3, 1) := by decide +kernel
theorem d_Mo_meaning_69 : decode b_Mo_meaning 69 = .ok (.if_icmp .gt 18, 3) := by decide +kernel
theorem d_Mo_meaning_72 : decode b_Mo_meaning 72 = .ok (.iload_n 3, 1) := by decide +kernel
theorem d_Mo_meaning_73 : decode b_Mo_meaning 73 = .ok (.aload_n 0, 1) := by decide +kernel
theorem d_Mo_meaning_74 : decode b_Mo_meaning 74 = .ok (.getfield 65, 3) := by decide +kernel
theorem d_Mo_meaning_77 : decode b_Mo_meaning 77 = .ok (.iload 5, 2) := by decide +kernel
theorem d_Mo_meaning_79 : decode b_Mo_meaning 79 = .ok (.iaload, 1) := by decide +kernel
theorem d_Mo_meaning_80 : decode b_Mo_meaning 80 = .ok (.if_icmp .ge 7, 3) := by decide +kernel
theorem d_Mo_meaning_83 : decode b_Mo_meaning 83 = .ok (.iconst 1, 1) := by decide +kernel
theorem d_Mo_meaning_84 : decode b_Mo_meaning 84 = .ok (.goto 4, 3) := by decide +kernel
theorem d_Mo_meaning_87 : decode b_Mo_meaning 87 = .ok (.iconst 0, 1) := by decide +kernel
theorem d_Mo_meaning_88 : decode b_Mo_meaning 88 = .ok (.istore 6, 2) := by decide +kernel
theorem d_Mo_meaning_90 : decode b_Mo_meaning 90 = .ok (.iload 6, 2) := by decide +kernel
theorem d_Mo_meaning_92 : decode b_Mo_meaning 92 = .ok (.ifCond .eq 30, 3) := by decide +kernel
theorem d_Mo_meaning_95 : decode b_Mo_meaning 95 = .ok (.iload 4, 2) := by decide +kernel
theorem d_Mo_meaning_97 : decode b_Mo_meaning 97 = .ok (.ifCond .lt 20, 3) := by decide +kernel
theorem d_Mo_meaning_100 : decode b_Mo_meaning 100 = .ok (.aload_n 0, 1) := by decide +kernel
theorem d_Mo_meaning_101 : decode b_Mo_meaning 101 = .ok (.getfield 62, 3) := by decide +kernel
theorem d_Mo_meaning_104 : decode b_Mo_meaning 104 = .ok (.iload 5, 2) := by decide +kernel
theorem d_Mo_meaning_106 : decode b_Mo_meaning 106 = .ok (.iaload, 1) := by decide +kernel
theorem d_Mo_meaning_107 : decode b_Mo_meaning 107 = .ok (.aload_n 0, 1) := by decide +kernel
theorem d_Mo_meaning_108 : decode b_Mo_meaning 108 = .ok (.getfield 62, 3) := by decide +kernel
theorem d_Mo_meaning_111 : decode b_Mo_meaning 111 = .ok (.iload 4, 2) := by decide +kernel
theorem d_Mo_meaning_113 : decode b_Mo_meaning 113 = .ok (.iaload, 1) := by decide +kernel
theorem d_Mo_meaning_114 : decode b_Mo_meaning 114 = .ok (.if_icmp .lt 8, 3) := by decide +kernel
theorem d_Mo_meaning_117 : decode b_Mo_meaning 117 = .ok (.iload 5, 2) := by decide +kernel
theorem d_Mo_meaning_119 : decode b_Mo_meaning 119 = .ok (.goto 5, 3) := by decide +kernel
theorem d_Mo_meaning_122 : decode b_Mo_meaning 122 = .ok (.iload 4, 2) := by decide +kernel
theorem d_Mo_meaning_124 : decode b_Mo_meaning 124 = .ok (.istore 4, 2) := by decide +kernel
theorem d_Mo_meaning_126 : decode b_Mo_meaning 126 = .ok (.iinc 5 1, 3) := by decide +kernel
theorem d_Mo_meaning_129 : decode b_Mo_meaning 129 = .ok (.goto (-123), 3) := by decide +kernel
theorem d_Mo_meaning_132 : decode b_Mo_meaning 132 = .ok (.iload 4, 2) := by decide +kernel
theorem d_Mo_meaning_134 : decode b_Mo_meaning 134 = .ok (.ireturn, 1) := by decide +kernel
abbrev b_Mo_functionNamed : ByteArray := prog_11_method_36_code
def y_Mo_functionNamed : MethodName := ⟨"ProgramDeskModel", "functionNamed", "(J)I"⟩
theorem d_Mo_functionNamed_0 : decode b_Mo_functionNamed 0 = .ok (.iconst 0, 1) := by decide +kernel
theorem d_Mo_functionNamed_1 : decode b_Mo_functionNamed 1 = .ok (.istore_n 3, 1) := by decide +kernel
theorem d_Mo_functionNamed_2 : decode b_Mo_functionNamed 2 = .ok (.iload_n 3, 1) := by decide +kernel
theorem d_Mo_functionNamed_3 : decode b_Mo_functionNamed 3 = .ok (.aload_n 0, 1) := by decide +kernel
theorem d_Mo_functionNamed_4 : decode b_Mo_functionNamed 4 = .ok (.getfield 157, 3) := by decide +kernel
theorem d_Mo_functionNamed_7 : decode b_Mo_functionNamed 7 = .ok (.if_icmp .ge 32, 3) := by decide +kernel
theorem d_Mo_functionNamed_10 : decode b_Mo_functionNamed 10 = .ok (.aload_n 0, 1) := by decide +kernel
theorem d_Mo_functionNamed_11 : decode b_Mo_functionNamed 11 = .ok (.getfield 47, 3) := by decide +kernel
theorem d_Mo_functionNamed_14 : decode b_Mo_functionNamed 14 = .ok (.iload_n 3, 1) := by decide +kernel
theorem d_Mo_functionNamed_15 : decode b_Mo_functionNamed 15 = .ok (.iaload, 1) := by decide +kernel
theorem d_Mo_functionNamed_16 : decode b_Mo_functionNamed 16 = .ok (.iconst 1, 1) := by decide +kernel
theorem d_Mo_functionNamed_17 : decode b_Mo_functionNamed 17 = .ok (.if_icmp .ne 16, 3) := by decide +kernel
theorem d_Mo_functionNamed_20 : decode b_Mo_functionNamed 20 = .ok (.aload_n 0, 1) := by decide +kernel
theorem d_Mo_functionNamed_21 : decode b_Mo_functionNamed 21 = .ok (.getfield 44, 3) := by decide +kernel
theorem d_Mo_functionNamed_24 : decode b_Mo_functionNamed 24 = .ok (.iload_n 3, 1) := by decide +kernel
theorem d_Mo_functionNamed_25 : decode b_Mo_functionNamed 25 = .ok (.laload, 1) := by decide +kernel
theorem d_Mo_functionNamed_26 : decode b_Mo_functionNamed 26 = .ok (.lload_n 1, 1) := by decide +kernel
theorem d_Mo_functionNamed_27 : decode b_Mo_functionNamed 27 = .ok (.lcmp, 1) := by decide +kernel
theorem d_Mo_functionNamed_28 : decode b_Mo_functionNamed 28 = .ok (.ifCond .ne 5, 3) := by decide +kernel
theorem d_Mo_functionNamed_31 : decode b_Mo_functionNamed 31 = .ok (.iload_n 3, 1) := by decide +kernel
theorem d_Mo_functionNamed_32 : decode b_Mo_functionNamed 32 = .ok (.ireturn, 1) := by decide +kernel
theorem d_Mo_functionNamed_33 : decode b_Mo_functionNamed 33 = .ok (.iinc 3 1, 3) := by decide +kernel
theorem d_Mo_functionNamed_36 : decode b_Mo_functionNamed 36 = .ok (.goto (-34), 3) := by decide +kernel
theorem d_Mo_functionNamed_39 : decode b_Mo_functionNamed 39 = .ok (.iconst (-1), 1) := by decide +kernel
theorem d_Mo_functionNamed_40 : decode b_Mo_functionNamed 40 = .ok (.ireturn, 1) := by decide +kernel
abbrev b_Mo_partOf : ByteArray := prog_11_method_37_code
def y_Mo_partOf : MethodName := ⟨"ProgramDeskModel", "partOf", "(I)I"⟩
theorem d_Mo_partOf_0 : decode b_Mo_partOf 0 = .ok (.iconst 0, 1) := by decide +kernel
theorem d_Mo_partOf_1 : decode b_Mo_partOf 1 = .ok (.istore_n 2, 1) := by decide +kernel
theorem d_Mo_partOf_2 : decode b_Mo_partOf 2 = .ok (.iload_n 2, 1) := by decide +kernel
theorem d_Mo_partOf_3 : decode b_Mo_partOf 3 = .ok (.aload_n 0, 1) := by decide +kernel
theorem d_Mo_partOf_4 : decode b_Mo_partOf 4 = .ok (.getfield 237, 3) := by decide +kernel
theorem d_Mo_partOf_7 : decode b_Mo_partOf 7 = .ok (.if_icmp .ge 19, 3) := by decide +kernel
theorem d_Mo_partOf_10 : decode b_Mo_partOf 10 = .ok (.aload_n 0, 1) := by decide +kernel
theorem d_Mo_partOf_11 : decode b_Mo_partOf 11 = .ok (.getfield 71, 3) := by decide +kernel
theorem d_Mo_partOf_14 : decode b_Mo_partOf 14 = .ok (.iload_n 2, 1) := by decide +kernel
theorem d_Mo_partOf_15 : decode b_Mo_partOf 15 = .ok (.iaload, 1) := by decide +kernel
theorem d_Mo_partOf_16 : decode b_Mo_partOf 16 = .ok (.iload_n 1, 1) := by decide +kernel
theorem d_Mo_partOf_17 : decode b_Mo_partOf 17 = .ok (.if_icmp .gt 9, 3) := by decide +kernel
theorem d_Mo_partOf_20 : decode b_Mo_partOf 20 = .ok (.iinc 2 1, 3) := by decide +kernel
theorem d_Mo_partOf_23 : decode b_Mo_partOf 23 = .ok (.goto (-21), 3) := by decide +kernel
theorem d_Mo_partOf_26 : decode b_Mo_partOf 26 = .ok (.iload_n 2, 1) := by decide +kernel
theorem d_Mo_partOf_27 : decode b_Mo_partOf 27 = .ok (.ireturn, 1) := by decide +kernel
abbrev b_Mo_bind : ByteArray := prog_11_method_38_code
def y_Mo_bind : MethodName := ⟨"ProgramDeskModel", "bind", "()V"⟩
theorem d_Mo_bind_0 : decode b_Mo_bind 0 = .ok (.iconst 0, 1) := by decide +kernel
theorem d_Mo_bind_1 : decode b_Mo_bind 1 = .ok (.istore_n 1, 1) := by decide +kernel
theorem d_Mo_bind_2 : decode b_Mo_bind 2 = .ok (.iload_n 1, 1) := by decide +kernel
theorem d_Mo_bind_3 : decode b_Mo_bind 3 = .ok (.aload_n 0, 1) := by decide +kernel
theorem d_Mo_bind_4 : decode b_Mo_bind 4 = .ok (.getfield 157, 3) := by decide +kernel
theorem d_Mo_bind_7 : decode b_Mo_bind 7 = .ok (.if_icmp .ge 73, 3) := by decide +kernel
theorem d_Mo_bind_10 : decode b_Mo_bind 10 = .ok (.aload_n 0, 1) := by decide +kernel
theorem d_Mo_bind_11 : decode b_Mo_bind 11 = .ok (.getfield 47, 3) := by decide +kernel
theorem d_Mo_bind_14 : decode b_Mo_bind 14 = .ok (.iload_n 1, 1) := by decide +kernel
theorem d_Mo_bind_15 : decode b_Mo_bind 15 = .ok (.iaload, 1) := by decide +kernel
theorem d_Mo_bind_16 : decode b_Mo_bind 16 = .ok (.iconst 1, 1) := by decide +kernel
theorem d_Mo_bind_17 : decode b_Mo_bind 17 = .ok (.if_icmp .lt 57, 3) := by decide +kernel
theorem d_Mo_bind_20 : decode b_Mo_bind 20 = .ok (.aload_n 0, 1) := by decide +kernel
theorem d_Mo_bind_21 : decode b_Mo_bind 21 = .ok (.getfield 47, 3) := by decide +kernel
theorem d_Mo_bind_24 : decode b_Mo_bind 24 = .ok (.iload_n 1, 1) := by decide +kernel
theorem d_Mo_bind_25 : decode b_Mo_bind 25 = .ok (.iaload, 1) := by decide +kernel
theorem d_Mo_bind_26 : decode b_Mo_bind 26 = .ok (.iconst 3, 1) := by decide +kernel
theorem d_Mo_bind_27 : decode b_Mo_bind 27 = .ok (.if_icmp .gt 47, 3) := by decide +kernel
theorem d_Mo_bind_30 : decode b_Mo_bind 30 = .ok (.aload_n 0, 1) := by decide +kernel
theorem d_Mo_bind_31 : decode b_Mo_bind 31 = .ok (.iload_n 1, 1) := by decide +kernel
theorem d_Mo_bind_32 : decode b_Mo_bind 32 = .ok (.invokevirtual 240, 3) := by decide +kernel
theorem d_Mo_bind_35 : decode b_Mo_bind 35 = .ok (.ifCond .ne 13, 3) := by decide +kernel
theorem d_Mo_bind_38 : decode b_Mo_bind 38 = .ok (.aload_n 0, 1) := by decide +kernel
theorem d_Mo_bind_39 : decode b_Mo_bind 39 = .ok (.getfield 50, 3) := by decide +kernel
theorem d_Mo_bind_42 : decode b_Mo_bind 42 = .ok (.iload_n 1, 1) := by decide +kernel
theorem d_Mo_bind_43 : decode b_Mo_bind 43 = .ok (.iload_n 1, 1) := by decide +kernel
theorem d_Mo_bind_44 : decode b_Mo_bind 44 = .ok (.iastore, 1) := by decide +kernel
theorem d_Mo_bind_45 : decode b_Mo_bind 45 = .ok (.goto 29, 3) := by decide +kernel
theorem d_Mo_bind_48 : decode b_Mo_bind 48 = .ok (.aload_n 0, 1) := by decide +kernel
theorem d_Mo_bind_49 : decode b_Mo_bind 49 = .ok (.aload_n 0, 1) := by decide +kernel
theorem d_Mo_bind_50 : decode b_Mo_bind 50 = .ok (.getfield 47, 3) := by decide +kernel
theorem d_Mo_bind_53 : decode b_Mo_bind 53 = .ok (.iload_n 1, 1) := by decide +kernel
theorem d_Mo_bind_54 : decode b_Mo_bind 54 = .ok (.iaload, 1) := by decide +kernel
theorem d_Mo_bind_55 : decode b_Mo_bind 55 = .ok (.iconst 1, 1) := by decide +kernel
theorem d_Mo_bind_56 : decode b_Mo_bind 56 = .ok (.if_icmp .ne 8, 3) := by decide +kernel
theorem d_Mo_bind_59 : decode b_Mo_bind 59 = .ok (.bipush 6, 2) := by decide +kernel
theorem d_Mo_bind_61 : decode b_Mo_bind 61 = .ok (.goto 4, 3) := by decide +kernel
theorem d_Mo_bind_64 : decode b_Mo_bind 64 = .ok (.iconst 2, 1) := by decide +kernel
theorem d_Mo_bind_65 : decode b_Mo_bind 65 = .ok (.aload_n 0, 1) := by decide +kernel
theorem d_Mo_bind_66 : decode b_Mo_bind 66 = .ok (.getfield 38, 3) := by decide +kernel
theorem d_Mo_bind_69 : decode b_Mo_bind 69 = .ok (.iload_n 1, 1) := by decide +kernel
theorem d_Mo_bind_70 : decode b_Mo_bind 70 = .ok (.iaload, 1) := by decide +kernel
theorem d_Mo_bind_71 : decode b_Mo_bind 71 = .ok (.invokevirtual 243, 3) := by decide +kernel
theorem d_Mo_bind_74 : decode b_Mo_bind 74 = .ok (.iinc 1 1, 3) := by decide +kernel
theorem d_Mo_bind_77 : decode b_Mo_bind 77 = .ok (.goto (-75), 3) := by decide +kernel
theorem d_Mo_bind_80 : decode b_Mo_bind 80 = .ok (.iconst 0, 1) := by decide +kernel
theorem d_Mo_bind_81 : decode b_Mo_bind 81 = .ok (.istore_n 1, 1) := by decide +kernel
theorem d_Mo_bind_82 : decode b_Mo_bind 82 = .ok (.iload_n 1, 1) := by decide +kernel
theorem d_Mo_bind_83 : decode b_Mo_bind 83 = .ok (.aload_n 0, 1) := by decide +kernel
theorem d_Mo_bind_84 : decode b_Mo_bind 84 = .ok (.getfield 157, 3) := by decide +kernel
theorem d_Mo_bind_87 : decode b_Mo_bind 87 = .ok (.if_icmp .ge 154, 3) := by decide +kernel
theorem d_Mo_bind_90 : decode b_Mo_bind 90 = .ok (.aload_n 0, 1) := by decide +kernel
theorem d_Mo_bind_91 : decode b_Mo_bind 91 = .ok (.getfield 47, 3) := by decide +kernel
theorem d_Mo_bind_94 : decode b_Mo_bind 94 = .ok (.iload_n 1, 1) := by decide +kernel
theorem d_Mo_bind_95 : decode b_Mo_bind 95 = .ok (.iaload, 1) := by decide +kernel
theorem d_Mo_bind_96 : decode b_Mo_bind 96 = .ok (.iconst 4, 1) := by decide +kernel
theorem d_Mo_bind_97 : decode b_Mo_bind 97 = .ok (.if_icmp .eq 13, 3) := by decide +kernel
theorem d_Mo_bind_100 : decode b_Mo_bind 100 = .ok (.aload_n 0, 1) := by decide +kernel
theorem d_Mo_bind_101 : decode b_Mo_bind 101 = .ok (.getfield 47, 3) := by decide +kernel
theorem d_Mo_bind_104 : decode b_Mo_bind 104 = .ok (.iload_n 1, 1) := by decide +kernel
theorem d_Mo_bind_105 : decode b_Mo_bind 105 = .ok (.iaload, 1) := by decide +kernel
theorem d_Mo_bind_106 : decode b_Mo_bind 106 = .ok (.iconst 5, 1) := by decide +kernel
theorem d_Mo_bind_107 : decode b_Mo_bind 107 = .ok (.if_icmp .ne 43, 3) := by decide +kernel
theorem d_Mo_bind_110 : decode b_Mo_bind 110 = .ok (.aload_n 0, 1) := by decide +kernel
theorem d_Mo_bind_111 : decode b_Mo_bind 111 = .ok (.getfield 50, 3) := by decide +kernel
theorem d_Mo_bind_114 : decode b_Mo_bind 114 = .ok (.iload_n 1, 1) := by decide +kernel
theorem d_Mo_bind_115 : decode b_Mo_bind 115 = .ok (.aload_n 0, 1) := by decide +kernel
theorem d_Mo_bind_116 : decode b_Mo_bind 116 = .ok (.aload_n 0, 1) := by decide +kernel
theorem d_Mo_bind_117 : decode b_Mo_bind 117 = .ok (.getfield 44, 3) := by decide +kernel
theorem d_Mo_bind_120 : decode b_Mo_bind 120 = .ok (.iload_n 1, 1) := by decide +kernel
theorem d_Mo_bind_121 : decode b_Mo_bind 121 = .ok (.laload, 1) := by decide +kernel
theorem d_Mo_bind_122 : decode b_Mo_bind 122 = .ok (.iload_n 1, 1) := by decide +kernel
theorem d_Mo_bind_123 : decode b_Mo_bind 123 = .ok (.invokevirtual 246, 3) := by decide +kernel
theorem d_Mo_bind_126 : decode b_Mo_bind 126 = .ok (.iastore, 1) := by decide +kernel
theorem d_Mo_bind_127 : decode b_Mo_bind 127 = .ok (.aload_n 0, 1) := by decide +kernel
theorem d_Mo_bind_128 : decode b_Mo_bind 128 = .ok (.getfield 50, 3) := by decide +kernel
theorem d_Mo_bind_131 : decode b_Mo_bind 131 = .ok (.iload_n 1, 1) := by decide +kernel
theorem d_Mo_bind_132 : decode b_Mo_bind 132 = .ok (.iaload, 1) := by decide +kernel
theorem d_Mo_bind_133 : decode b_Mo_bind 133 = .ok (.ifCond .ge 102, 3) := by decide +kernel
theorem d_Mo_bind_136 : decode b_Mo_bind 136 = .ok (.aload_n 0, 1) := by decide +kernel
theorem d_Mo_bind_137 : decode b_Mo_bind 137 = .ok (.iconst 3, 1) := by decide +kernel
theorem d_Mo_bind_138 : decode b_Mo_bind 138 = .ok (.aload_n 0, 1) := by decide +kernel
theorem d_Mo_bind_139 : decode b_Mo_bind 139 = .ok (.getfield 38, 3) := by decide +kernel
theorem d_Mo_bind_142 : decode b_Mo_bind 142 = .ok (.iload_n 1, 1) := by decide +kernel
theorem d_Mo_bind_143 : decode b_Mo_bind 143 = .ok (.iaload, 1) := by decide +kernel
theorem d_Mo_bind_144 : decode b_Mo_bind 144 = .ok (.invokevirtual 243, 3) := by decide +kernel
theorem d_Mo_bind_147 : decode b_Mo_bind 147 = .ok (.goto 88, 3) := by decide +kernel
theorem d_Mo_bind_150 : decode b_Mo_bind 150 = .ok (.aload_n 0, 1) := by decide +kernel
theorem d_Mo_bind_151 : decode b_Mo_bind 151 = .ok (.getfield 47, 3) := by decide +kernel
theorem d_Mo_bind_154 : decode b_Mo_bind 154 = .ok (.iload_n 1, 1) := by decide +kernel
theorem d_Mo_bind_155 : decode b_Mo_bind 155 = .ok (.iaload, 1) := by decide +kernel
theorem d_Mo_bind_156 : decode b_Mo_bind 156 = .ok (.bipush 6, 2) := by decide +kernel
theorem d_Mo_bind_158 : decode b_Mo_bind 158 = .ok (.if_icmp .ne 77, 3) := by decide +kernel
theorem d_Mo_bind_161 : decode b_Mo_bind 161 = .ok (.aload_n 0, 1) := by decide +kernel
theorem d_Mo_bind_162 : decode b_Mo_bind 162 = .ok (.getfield 50, 3) := by decide +kernel
theorem d_Mo_bind_165 : decode b_Mo_bind 165 = .ok (.iload_n 1, 1) := by decide +kernel
theorem d_Mo_bind_166 : decode b_Mo_bind 166 = .ok (.aload_n 0, 1) := by decide +kernel
theorem d_Mo_bind_167 : decode b_Mo_bind 167 = .ok (.aload_n 0, 1) := by decide +kernel
theorem d_Mo_bind_168 : decode b_Mo_bind 168 = .ok (.getfield 44, 3) := by decide +kernel
theorem d_Mo_bind_171 : decode b_Mo_bind 171 = .ok (.iload_n 1, 1) := by decide +kernel
theorem d_Mo_bind_172 : decode b_Mo_bind 172 = .ok (.laload, 1) := by decide +kernel
theorem d_Mo_bind_173 : decode b_Mo_bind 173 = .ok (.invokevirtual 250, 3) := by decide +kernel
theorem d_Mo_bind_176 : decode b_Mo_bind 176 = .ok (.iastore, 1) := by decide +kernel
theorem d_Mo_bind_177 : decode b_Mo_bind 177 = .ok (.aload_n 0, 1) := by decide +kernel
theorem d_Mo_bind_178 : decode b_Mo_bind 178 = .ok (.getfield 50, 3) := by decide +kernel
theorem d_Mo_bind_181 : decode b_Mo_bind 181 = .ok (.iload_n 1, 1) := by decide +kernel
theorem d_Mo_bind_182 : decode b_Mo_bind 182 = .ok (.iaload, 1) := by decide +kernel
theorem d_Mo_bind_183 : decode b_Mo_bind 183 = .ok (.ifCond .ge 17, 3) := by decide +kernel
theorem d_Mo_bind_186 : decode b_Mo_bind 186 = .ok (.aload_n 0, 1) := by decide +kernel
theorem d_Mo_bind_187 : decode b_Mo_bind 187 = .ok (.iconst 4, 1) := by decide +kernel
theorem d_Mo_bind_188 : decode b_Mo_bind 188 = .ok (.aload_n 0, 1) := by decide +kernel
theorem d_Mo_bind_189 : decode b_Mo_bind 189 = .ok (.getfield 38, 3) := by decide +kernel
theorem d_Mo_bind_192 : decode b_Mo_bind 192 = .ok (.iload_n 1, 1) := by decide +kernel
theorem d_Mo_bind_193 : decode b_Mo_bind 193 = .ok (.iaload, 1) := by decide +kernel
theorem d_Mo_bind_194 : decode b_Mo_bind 194 = .ok (.invokevirtual 243, 3) := by decide +kernel
theorem d_Mo_bind_197 : decode b_Mo_bind 197 = .ok (.goto 38, 3) := by decide +kernel
theorem d_Mo_bind_200 : decode b_Mo_bind 200 = .ok (.aload_n 0, 1) := by decide +kernel
theorem d_Mo_bind_201 : decode b_Mo_bind 201 = .ok (.getfield 77, 3) := by decide +kernel
theorem d_Mo_bind_204 : decode b_Mo_bind 204 = .ok (.aload_n 0, 1) := by decide +kernel
theorem d_Mo_bind_205 : decode b_Mo_bind 205 = .ok (.aload_n 0, 1) := by decide +kernel
theorem d_Mo_bind_206 : decode b_Mo_bind 206 = .ok (.getfield 50, 3) := by decide +kernel
theorem d_Mo_bind_209 : decode b_Mo_bind 209 = .ok (.iload_n 1, 1) := by decide +kernel
theorem d_Mo_bind_210 : decode b_Mo_bind 210 = .ok (.iaload, 1) := by decide +kernel
theorem d_Mo_bind_211 : decode b_Mo_bind 211 = .ok (.invokevirtual 253, 3) := by decide +kernel
theorem d_Mo_bind_214 : decode b_Mo_bind 214 = .ok (.iaload, 1) := by decide +kernel
theorem d_Mo_bind_215 : decode b_Mo_bind 215 = .ok (.aload_n 0, 1) := by decide +kernel
theorem d_Mo_bind_216 : decode b_Mo_bind 216 = .ok (.getfield 56, 3) := by decide +kernel
theorem d_Mo_bind_219 : decode b_Mo_bind 219 = .ok (.iload_n 1, 1) := by decide +kernel
theorem d_Mo_bind_220 : decode b_Mo_bind 220 = .ok (.iaload, 1) := by decide +kernel
theorem d_Mo_bind_221 : decode b_Mo_bind 221 = .ok (.if_icmp .eq 14, 3) := by decide +kernel
theorem d_Mo_bind_224 : decode b_Mo_bind 224 = .ok (.aload_n 0, 1) := by decide +kernel
theorem d_Mo_bind_225 : decode b_Mo_bind 225 = .ok (.iconst 5, 1) := by decide +kernel
theorem d_Mo_bind_226 : decode b_Mo_bind 226 = .ok (.aload_n 0, 1) := by decide +kernel
theorem d_Mo_bind_227 : decode b_Mo_bind 227 = .ok (.getfield 38, 3) := by decide +kernel
theorem d_Mo_bind_230 : decode b_Mo_bind 230 = .ok (.iload_n 1, 1) := by decide +kernel
theorem d_Mo_bind_231 : decode b_Mo_bind 231 = .ok (.iaload, 1) := by decide +kernel
theorem d_Mo_bind_232 : decode b_Mo_bind 232 = .ok (.invokevirtual 243, 3) := by decide +kernel
theorem d_Mo_bind_235 : decode b_Mo_bind 235 = .ok (.iinc 1 1, 3) := by decide +kernel
theorem d_Mo_bind_238 : decode b_Mo_bind 238 = .ok (.goto (-156), 3) := by decide +kernel
theorem d_Mo_bind_241 : decode b_Mo_bind 241 = .ok (.return_, 1) := by decide +kernel
abbrev b_Mo_analyse : ByteArray := prog_11_method_39_code
def y_Mo_analyse : MethodName := ⟨"ProgramDeskModel", "analyse", "()V"⟩
theorem d_Mo_analyse_0 : decode b_Mo_analyse 0 = .ok (.aload_n 0, 1) := by decide +kernel
theorem d_Mo_analyse_1 : decode b_Mo_analyse 1 = .ok (.invokevirtual 257, 3) := by decide +kernel
theorem d_Mo_analyse_4 : decode b_Mo_analyse 4 = .ok (.aload_n 0, 1) := by decide +kernel
theorem d_Mo_analyse_5 : decode b_Mo_analyse 5 = .ok (.iconst 0, 1) := by decide +kernel
theorem d_Mo_analyse_6 : decode b_Mo_analyse 6 = .ok (.putfield 237, 3) := by decide +kernel
theorem d_Mo_analyse_9 : decode b_Mo_analyse 9 = .ok (.aload_n 0, 1) := by decide +kernel
theorem d_Mo_analyse_10 : decode b_Mo_analyse 10 = .ok (.iconst 0, 1) := by decide +kernel
theorem d_Mo_analyse_11 : decode b_Mo_analyse 11 = .ok (.putfield 234, 3) := by decide +kernel
theorem d_Mo_analyse_14 : decode b_Mo_analyse 14 = .ok (.iconst 0, 1) := by decide +kernel
theorem d_Mo_analyse_15 : decode b_Mo_analyse 15 = .ok (.istore_n 1, 1) := by decide +kernel
theorem d_Mo_analyse_16 : decode b_Mo_analyse 16 = .ok (.iload_n 1, 1) := by decide +kernel
theorem d_Mo_analyse_17 : decode b_Mo_analyse 17 = .ok (.aload_n 0, 1) := by decide +kernel
theorem d_Mo_analyse_18 : decode b_Mo_analyse 18 = .ok (.getfield 157, 3) := by decide +kernel
theorem d_Mo_analyse_21 : decode b_Mo_analyse 21 = .ok (.if_icmp .ge 63, 3) := by decide +kernel
theorem d_Mo_analyse_24 : decode b_Mo_analyse 24 = .ok (.iload_n 1, 1) := by decide +kernel
theorem d_Mo_analyse_25 : decode b_Mo_analyse 25 = .ok (.ifCond .eq 19, 3) := by decide +kernel
theorem d_Mo_analyse_28 : decode b_Mo_analyse 28 = .ok (.aload_n 0, 1) := by decide +kernel
theorem d_Mo_analyse_29 : decode b_Mo_analyse 29 = .ok (.iload_n 1, 1) := by decide +kernel
theorem d_Mo_analyse_30 : decode b_Mo_analyse 30 = .ok (.invokevirtual 228, 3) := by decide +kernel
theorem d_Mo_analyse_33 : decode b_Mo_analyse 33 = .ok (.ifCond .eq 31, 3) := by decide +kernel
theorem d_Mo_analyse_36 : decode b_Mo_analyse 36 = .ok (.aload_n 0, 1) := by decide +kernel
theorem d_Mo_analyse_37 : decode b_Mo_analyse 37 = .ok (.getfield 237, 3) := by decide +kernel
theorem d_Mo_analyse_40 : decode b_Mo_analyse 40 = .ok (.iconst 4, 1) := by decide +kernel
theorem d_Mo_analyse_41 : decode b_Mo_analyse 41 = .ok (.if_icmp .ge 23, 3) := by decide +kernel
theorem d_Mo_analyse_44 : decode b_Mo_analyse 44 = .ok (.aload_n 0, 1) := by decide +kernel
theorem d_Mo_analyse_45 : decode b_Mo_analyse 45 = .ok (.getfield 68, 3) := by decide +kernel
theorem d_Mo_analyse_48 : decode b_Mo_analyse 48 = .ok (.aload_n 0, 1) := by decide +kernel
theorem d_Mo_analyse_49 : decode b_Mo_analyse 49 = .ok (.getfield 237, 3) := by decide +kernel
theorem d_Mo_analyse_52 : decode b_Mo_analyse 52 = .ok (.iload_n 1, 1) := by decide +kernel
theorem d_Mo_analyse_53 : decode b_Mo_analyse 53 = .ok (.iastore, 1) := by decide +kernel
theorem d_Mo_analyse_54 : decode b_Mo_analyse 54 = .ok (.aload_n 0, 1) := by decide +kernel
theorem d_Mo_analyse_55 : decode b_Mo_analyse 55 = .ok (.dup, 1) := by decide +kernel
theorem d_Mo_analyse_56 : decode b_Mo_analyse 56 = .ok (.getfield 237, 3) := by decide +kernel
theorem d_Mo_analyse_59 : decode b_Mo_analyse 59 = .ok (.iconst 1, 1) := by decide +kernel
theorem d_Mo_analyse_60 : decode b_Mo_analyse 60 = .ok (.iadd, 1) := by decide +kernel
theorem d_Mo_analyse_61 : decode b_Mo_analyse 61 = .ok (.putfield 237, 3) := by decide +kernel
theorem d_Mo_analyse_64 : decode b_Mo_analyse 64 = .ok (.aload_n 0, 1) := by decide +kernel
theorem d_Mo_analyse_65 : decode b_Mo_analyse 65 = .ok (.getfield 71, 3) := by decide +kernel
theorem d_Mo_analyse_68 : decode b_Mo_analyse 68 = .ok (.aload_n 0, 1) := by decide +kernel
theorem d_Mo_analyse_69 : decode b_Mo_analyse 69 = .ok (.getfield 237, 3) := by decide +kernel
theorem d_Mo_analyse_72 : decode b_Mo_analyse 72 = .ok (.iconst 1, 1) := by decide +kernel
theorem d_Mo_analyse_73 : decode b_Mo_analyse 73 = .ok (.isub, 1) := by decide +kernel
theorem d_Mo_analyse_74 : decode b_Mo_analyse 74 = .ok (.iload_n 1, 1) := by decide +kernel
theorem d_Mo_analyse_75 : decode b_Mo_analyse 75 = .ok (.iconst 1, 1) := by decide +kernel
theorem d_Mo_analyse_76 : decode b_Mo_analyse 76 = .ok (.iadd, 1) := by decide +kernel
theorem d_Mo_analyse_77 : decode b_Mo_analyse 77 = .ok (.iastore, 1) := by decide +kernel
theorem d_Mo_analyse_78 : decode b_Mo_analyse 78 = .ok (.iinc 1 1, 3) := by decide +kernel
theorem d_Mo_analyse_81 : decode b_Mo_analyse 81 = .ok (.goto (-65), 3) := by decide +kernel
theorem d_Mo_analyse_84 : decode b_Mo_analyse 84 = .ok (.iconst 0, 1) := by decide +kernel
theorem d_Mo_analyse_85 : decode b_Mo_analyse 85 = .ok (.istore_n 1, 1) := by decide +kernel
theorem d_Mo_analyse_86 : decode b_Mo_analyse 86 = .ok (.iload_n 1, 1) := by decide +kernel
theorem d_Mo_analyse_87 : decode b_Mo_analyse 87 = .ok (.aload_n 0, 1) := by decide +kernel
theorem d_Mo_analyse_88 : decode b_Mo_analyse 88 = .ok (.getfield 237, 3) := by decide +kernel
theorem d_Mo_analyse_91 : decode b_Mo_analyse 91 = .ok (.if_icmp .ge 34, 3) := by decide +kernel
theorem d_Mo_analyse_94 : decode b_Mo_analyse 94 = .ok (.aload_n 0, 1) := by decide +kernel
theorem d_Mo_analyse_95 : decode b_Mo_analyse 95 = .ok (.iload_n 1, 1) := by decide +kernel
theorem d_Mo_analyse_96 : decode b_Mo_analyse 96 = .ok (.invokevirtual 260, 3) := by decide +kernel
theorem d_Mo_analyse_99 : decode b_Mo_analyse 99 = .ok (.aload_n 0, 1) := by decide +kernel
theorem d_Mo_analyse_100 : decode b_Mo_analyse 100 = .ok (.getfield 74, 3) := by decide +kernel
theorem d_Mo_analyse_103 : decode b_Mo_analyse 103 = .ok (.iload_n 1, 1) := by decide +kernel
theorem d_Mo_analyse_104 : decode b_Mo_analyse 104 = .ok (.iaload, 1) := by decide +kernel
theorem d_Mo_analyse_105 : decode b_Mo_analyse 105 = .ok (.ifCond .lt 14, 3) := by decide +kernel
theorem d_Mo_analyse_108 : decode b_Mo_analyse 108 = .ok (.aload_n 0, 1) := by decide +kernel
theorem d_Mo_analyse_109 : decode b_Mo_analyse 109 = .ok (.iconst 1, 1) := by decide +kernel
theorem d_Mo_analyse_110 : decode b_Mo_analyse 110 = .ok (.aload_n 0, 1) := by decide +kernel
theorem d_Mo_analyse_111 : decode b_Mo_analyse 111 = .ok (.getfield 74, 3) := by decide +kernel
theorem d_Mo_analyse_114 : decode b_Mo_analyse 114 = .ok (.iload_n 1, 1) := by decide +kernel
theorem d_Mo_analyse_115 : decode b_Mo_analyse 115 = .ok (.iaload, 1) := by decide +kernel
theorem d_Mo_analyse_116 : decode b_Mo_analyse 116 = .ok (.invokevirtual 243, 3) := by decide +kernel
theorem d_Mo_analyse_119 : decode b_Mo_analyse 119 = .ok (.iinc 1 1, 3) := by decide +kernel
theorem d_Mo_analyse_122 : decode b_Mo_analyse 122 = .ok (.goto (-36), 3) := by decide +kernel
theorem d_Mo_analyse_125 : decode b_Mo_analyse 125 = .ok (.aload_n 0, 1) := by decide +kernel
theorem d_Mo_analyse_126 : decode b_Mo_analyse 126 = .ok (.invokevirtual 264, 3) := by decide +kernel
theorem d_Mo_analyse_129 : decode b_Mo_analyse 129 = .ok (.return_, 1) := by decide +kernel
abbrev b_Mo_tokens : ByteArray := prog_11_method_40_code
def y_Mo_tokens : MethodName := ⟨"ProgramDeskModel", "tokens", "()I"⟩
theorem d_Mo_tokens_0 : decode b_Mo_tokens 0 = .ok (.aload_n 0, 1) := by decide +kernel
theorem d_Mo_tokens_1 : decode b_Mo_tokens 1 = .ok (.iconst 0, 1) := by decide +kernel
theorem d_Mo_tokens_2 : decode b_Mo_tokens 2 = .ok (.putfield 132, 3) := by decide +kernel
theorem d_Mo_tokens_5 : decode b_Mo_tokens 5 = .ok (.aload_n 0, 1) := by decide +kernel
theorem d_Mo_tokens_6 : decode b_Mo_tokens 6 = .ok (.invokevirtual 267, 3) := by decide +kernel
theorem d_Mo_tokens_9 : decode b_Mo_tokens 9 = .ok (.aload_n 0, 1) := by decide +kernel
theorem d_Mo_tokens_10 : decode b_Mo_tokens 10 = .ok (.getfield 157, 3) := by decide +kernel
theorem d_Mo_tokens_13 : decode b_Mo_tokens 13 = .ok (.ireturn, 1) := by decide +kernel
abbrev b_Mo_token : ByteArray := prog_11_method_41_code
def y_Mo_token : MethodName := ⟨"ProgramDeskModel", "token", "(II)I"⟩
theorem d_Mo_token_0 : decode b_Mo_token 0 = .ok (.aload_n 0, 1) := by decide +kernel
theorem d_Mo_token_1 : decode b_Mo_token 1 = .ok (.iconst 0, 1) := by decide +kernel
theorem d_Mo_token_2 : decode b_Mo_token 2 = .ok (.putfield 132, 3) := by decide +kernel
theorem d_Mo_token_5 : decode b_Mo_token 5 = .ok (.iload_n 2, 1) := by decide +kernel
theorem d_Mo_token_6 : decode b_Mo_token 6 = .ok (.ifCond .lt 8, 3) := by decide +kernel
theorem d_Mo_token_9 : decode b_Mo_token 9 = .ok (.iload_n 2, 1) := by decide +kernel
theorem d_Mo_token_10 : decode b_Mo_token 10 = .ok (.iconst 3, 1) := by decide +kernel
theorem d_Mo_token_11 : decode b_Mo_token 11 = .ok (.if_icmp .le 9, 3) := by decide +kernel
theorem d_Mo_token_14 : decode b_Mo_token 14 = .ok (.aload_n 0, 1) := by decide +kernel
theorem d_Mo_token_15 : decode b_Mo_token 15 = .ok (.iconst 1, 1) := by decide +kernel
theorem d_Mo_token_16 : decode b_Mo_token 16 = .ok (.invokevirtual 270, 3) := by decide +kernel
theorem d_Mo_token_19 : decode b_Mo_token 19 = .ok (.ireturn, 1) := by decide +kernel
theorem d_Mo_token_20 : decode b_Mo_token 20 = .ok (.aload_n 0, 1) := by decide +kernel
theorem d_Mo_token_21 : decode b_Mo_token 21 = .ok (.invokevirtual 267, 3) := by decide +kernel
theorem d_Mo_token_24 : decode b_Mo_token 24 = .ok (.iload_n 1, 1) := by decide +kernel
theorem d_Mo_token_25 : decode b_Mo_token 25 = .ok (.ifCond .lt 11, 3) := by decide +kernel
theorem d_Mo_token_28 : decode b_Mo_token 28 = .ok (.iload_n 1, 1) := by decide +kernel
theorem d_Mo_token_29 : decode b_Mo_token 29 = .ok (.aload_n 0, 1) := by decide +kernel
theorem d_Mo_token_30 : decode b_Mo_token 30 = .ok (.getfield 157, 3) := by decide +kernel
theorem d_Mo_token_33 : decode b_Mo_token 33 = .ok (.if_icmp .lt 9, 3) := by decide +kernel
theorem d_Mo_token_36 : decode b_Mo_token 36 = .ok (.aload_n 0, 1) := by decide +kernel
theorem d_Mo_token_37 : decode b_Mo_token 37 = .ok (.iconst 2, 1) := by decide +kernel
theorem d_Mo_token_38 : decode b_Mo_token 38 = .ok (.invokevirtual 270, 3) := by decide +kernel
theorem d_Mo_token_41 : decode b_Mo_token 41 = .ok (.ireturn, 1) := by decide +kernel
theorem d_Mo_token_42 : decode b_Mo_token 42 = .ok (.iload_n 2, 1) := by decide +kernel
theorem d_Mo_token_43 : decode b_Mo_token 43 = .ok (.ifCond .ne 12, 3) := by decide +kernel
theorem d_Mo_token_46 : decode b_Mo_token 46 = .ok (.aload_n 0, 1) := by decide +kernel
theorem d_Mo_token_47 : decode b_Mo_token 47 = .ok (.getfield 35, 3) := by decide +kernel
theorem d_Mo_token_50 : decode b_Mo_token 50 = .ok (.iload_n 1, 1) := by decide +kernel
theorem d_Mo_token_51 : decode b_Mo_token 51 = .ok (.iaload, 1) := by decide +kernel
theorem d_Mo_token_52 : decode b_Mo_token 52 = .ok (.goto 37, 3) := by decide +kernel
theorem d_Mo_token_55 : decode b_Mo_token 55 = .ok (.iload_n 2, 1) := by decide +kernel
theorem d_Mo_token_56 : decode b_Mo_token 56 = .ok (.iconst 1, 1) := by decide +kernel
theorem d_Mo_token_57 : decode b_Mo_token 57 = .ok (.if_icmp .ne 12, 3) := by decide +kernel
theorem d_Mo_token_60 : decode b_Mo_token 60 = .ok (.aload_n 0, 1) := by decide +kernel
theorem d_Mo_token_61 : decode b_Mo_token 61 = .ok (.getfield 38, 3) := by decide +kernel
theorem d_Mo_token_64 : decode b_Mo_token 64 = .ok (.iload_n 1, 1) := by decide +kernel
theorem d_Mo_token_65 : decode b_Mo_token 65 = .ok (.iaload, 1) := by decide +kernel
theorem d_Mo_token_66 : decode b_Mo_token 66 = .ok (.goto 23, 3) := by decide +kernel
theorem d_Mo_token_69 : decode b_Mo_token 69 = .ok (.iload_n 2, 1) := by decide +kernel
theorem d_Mo_token_70 : decode b_Mo_token 70 = .ok (.iconst 2, 1) := by decide +kernel
theorem d_Mo_token_71 : decode b_Mo_token 71 = .ok (.if_icmp .ne 12, 3) := by decide +kernel
theorem d_Mo_token_74 : decode b_Mo_token 74 = .ok (.aload_n 0, 1) := by decide +kernel
theorem d_Mo_token_75 : decode b_Mo_token 75 = .ok (.getfield 41, 3) := by decide +kernel
theorem d_Mo_token_78 : decode b_Mo_token 78 = .ok (.iload_n 1, 1) := by decide +kernel
theorem d_Mo_token_79 : decode b_Mo_token 79 = .ok (.iaload, 1) := by decide +kernel
theorem d_Mo_token_80 : decode b_Mo_token 80 = .ok (.goto 9, 3) := by decide +kernel
theorem d_Mo_token_83 : decode b_Mo_token 83 = .ok (.aload_n 0, 1) := by decide +kernel
theorem d_Mo_token_84 : decode b_Mo_token 84 = .ok (.getfield 50, 3) := by decide +kernel
theorem d_Mo_token_87 : decode b_Mo_token 87 = .ok (.iload_n 1, 1) := by decide +kernel
theorem d_Mo_token_88 : decode b_Mo_token 88 = .ok (.iaload, 1) := by decide +kernel
theorem d_Mo_token_89 : decode b_Mo_token 89 = .ok (.ireturn, 1) := by decide +kernel
abbrev b_Mo_faults : ByteArray := prog_11_method_42_code
def y_Mo_faults : MethodName := ⟨"ProgramDeskModel", "faults", "()I"⟩
theorem d_Mo_faults_0 : decode b_Mo_faults 0 = .ok (.aload_n 0, 1) := by decide +kernel
theorem d_Mo_faults_1 : decode b_Mo_faults 1 = .ok (.iconst 0, 1) := by decide +kernel
theorem d_Mo_faults_2 : decode b_Mo_faults 2 = .ok (.putfield 132, 3) := by decide +kernel
theorem d_Mo_faults_5 : decode b_Mo_faults 5 = .ok (.aload_n 0, 1) := by decide +kernel
theorem d_Mo_faults_6 : decode b_Mo_faults 6 = .ok (.invokevirtual 267, 3) := by decide +kernel
theorem d_Mo_faults_9 : decode b_Mo_faults 9 = .ok (.aload_n 0, 1) := by decide +kernel
theorem d_Mo_faults_10 : decode b_Mo_faults 10 = .ok (.getfield 234, 3) := by decide +kernel
theorem d_Mo_faults_13 : decode b_Mo_faults 13 = .ok (.ireturn, 1) := by decide +kernel
abbrev b_Mo_fault : ByteArray := prog_11_method_43_code
def y_Mo_fault : MethodName := ⟨"ProgramDeskModel", "fault", "(I)I"⟩
theorem d_Mo_fault_0 : decode b_Mo_fault 0 = .ok (.aload_n 0, 1) := by decide +kernel
theorem d_Mo_fault_1 : decode b_Mo_fault 1 = .ok (.iconst 0, 1) := by decide +kernel
theorem d_Mo_fault_2 : decode b_Mo_fault 2 = .ok (.putfield 132, 3) := by decide +kernel
theorem d_Mo_fault_5 : decode b_Mo_fault 5 = .ok (.aload_n 0, 1) := by decide +kernel
theorem d_Mo_fault_6 : decode b_Mo_fault 6 = .ok (.invokevirtual 267, 3) := by decide +kernel
theorem d_Mo_fault_9 : decode b_Mo_fault 9 = .ok (.iload_n 1, 1) := by decide +kernel
theorem d_Mo_fault_10 : decode b_Mo_fault 10 = .ok (.ifCond .lt 11, 3) := by decide +kernel
theorem d_Mo_fault_13 : decode b_Mo_fault 13 = .ok (.iload_n 1, 1) := by decide +kernel
theorem d_Mo_fault_14 : decode b_Mo_fault 14 = .ok (.aload_n 0, 1) := by decide +kernel
theorem d_Mo_fault_15 : decode b_Mo_fault 15 = .ok (.getfield 234, 3) := by decide +kernel
theorem d_Mo_fault_18 : decode b_Mo_fault 18 = .ok (.if_icmp .lt 11, 3) := by decide +kernel
theorem d_Mo_fault_21 : decode b_Mo_fault 21 = .ok (.aload_n 0, 1) := by decide +kernel
theorem d_Mo_fault_22 : decode b_Mo_fault 22 = .ok (.iconst 1, 1) := by decide +kernel
theorem d_Mo_fault_23 : decode b_Mo_fault 23 = .ok (.invokevirtual 270, 3) := by decide +kernel
theorem d_Mo_fault_26 : decode b_Mo_fault 26 = .ok (.goto 9, 3) := by decide +kernel
theorem d_Mo_fault_29 : decode b_Mo_fault 29 = .ok (.aload_n 0, 1) := by decide +kernel
theorem d_Mo_fault_30 : decode b_Mo_fault 30 = .ok (.getfield 80, 3) := by decide +kernel
theorem d_Mo_fault_33 : decode b_Mo_fault 33 = .ok (.iload_n 1, 1) := by decide +kernel
theorem d_Mo_fault_34 : decode b_Mo_fault 34 = .ok (.iaload, 1) := by decide +kernel
theorem d_Mo_fault_35 : decode b_Mo_fault 35 = .ok (.ireturn, 1) := by decide +kernel
abbrev b_Mo_boundAt : ByteArray := prog_11_method_44_code
def y_Mo_boundAt : MethodName := ⟨"ProgramDeskModel", "boundAt", "(I)I"⟩
theorem d_Mo_boundAt_0 : decode b_Mo_boundAt 0 = .ok (.iconst 0, 1) := by decide +kernel
theorem d_Mo_boundAt_1 : decode b_Mo_boundAt 1 = .ok (.istore_n 2, 1) := by decide +kernel
theorem d_Mo_boundAt_2 : decode b_Mo_boundAt 2 = .ok (.iload_n 2, 1) := by decide +kernel
theorem d_Mo_boundAt_3 : decode b_Mo_boundAt 3 = .ok (.aload_n 0, 1) := by decide +kernel
theorem d_Mo_boundAt_4 : decode b_Mo_boundAt 4 = .ok (.getfield 157, 3) := by decide +kernel
theorem d_Mo_boundAt_7 : decode b_Mo_boundAt 7 = .ok (.if_icmp .ge 36, 3) := by decide +kernel
theorem d_Mo_boundAt_10 : decode b_Mo_boundAt 10 = .ok (.aload_n 0, 1) := by decide +kernel
theorem d_Mo_boundAt_11 : decode b_Mo_boundAt 11 = .ok (.getfield 38, 3) := by decide +kernel
theorem d_Mo_boundAt_14 : decode b_Mo_boundAt 14 = .ok (.iload_n 2, 1) := by decide +kernel
theorem d_Mo_boundAt_15 : decode b_Mo_boundAt 15 = .ok (.iaload, 1) := by decide +kernel
theorem d_Mo_boundAt_16 : decode b_Mo_boundAt 16 = .ok (.iload_n 1, 1) := by decide +kernel
theorem d_Mo_boundAt_17 : decode b_Mo_boundAt 17 = .ok (.if_icmp .gt 20, 3) := by decide +kernel
theorem d_Mo_boundAt_20 : decode b_Mo_boundAt 20 = .ok (.iload_n 1, 1) := by decide +kernel
theorem d_Mo_boundAt_21 : decode b_Mo_boundAt 21 = .ok (.aload_n 0, 1) := by decide +kernel
theorem d_Mo_boundAt_22 : decode b_Mo_boundAt 22 = .ok (.getfield 41, 3) := by decide +kernel
theorem d_Mo_boundAt_25 : decode b_Mo_boundAt 25 = .ok (.iload_n 2, 1) := by decide +kernel
theorem d_Mo_boundAt_26 : decode b_Mo_boundAt 26 = .ok (.iaload, 1) := by decide +kernel
theorem d_Mo_boundAt_27 : decode b_Mo_boundAt 27 = .ok (.if_icmp .ge 10, 3) := by decide +kernel
theorem d_Mo_boundAt_30 : decode b_Mo_boundAt 30 = .ok (.aload_n 0, 1) := by decide +kernel
theorem d_Mo_boundAt_31 : decode b_Mo_boundAt 31 = .ok (.getfield 50, 3) := by decide +kernel
theorem d_Mo_boundAt_34 : decode b_Mo_boundAt 34 = .ok (.iload_n 2, 1) := by decide +kernel
theorem d_Mo_boundAt_35 : decode b_Mo_boundAt 35 = .ok (.iaload, 1) := by decide +kernel
theorem d_Mo_boundAt_36 : decode b_Mo_boundAt 36 = .ok (.ireturn, 1) := by decide +kernel
theorem d_Mo_boundAt_37 : decode b_Mo_boundAt 37 = .ok (.iinc 2 1, 3) := by decide +kernel
theorem d_Mo_boundAt_40 : decode b_Mo_boundAt 40 = .ok (.goto (-38), 3) := by decide +kernel
theorem d_Mo_boundAt_43 : decode b_Mo_boundAt 43 = .ok (.iconst (-1), 1) := by decide +kernel
theorem d_Mo_boundAt_44 : decode b_Mo_boundAt 44 = .ok (.ireturn, 1) := by decide +kernel
abbrev b_Mo_reference : ByteArray := prog_11_method_45_code
def y_Mo_reference : MethodName := ⟨"ProgramDeskModel", "reference", "(II)I"⟩
theorem d_Mo_reference_0 : decode b_Mo_reference 0 = .ok (.aload_n 0, 1) := by decide +kernel
theorem d_Mo_reference_1 : decode b_Mo_reference 1 = .ok (.iconst 0, 1) := by decide +kernel
theorem d_Mo_reference_2 : decode b_Mo_reference 2 = .ok (.putfield 132, 3) := by decide +kernel
theorem d_Mo_reference_5 : decode b_Mo_reference 5 = .ok (.aload_n 0, 1) := by decide +kernel
theorem d_Mo_reference_6 : decode b_Mo_reference 6 = .ok (.invokevirtual 267, 3) := by decide +kernel
theorem d_Mo_reference_9 : decode b_Mo_reference 9 = .ok (.aload_n 0, 1) := by decide +kernel
theorem d_Mo_reference_10 : decode b_Mo_reference 10 = .ok (.iload_n 1, 1) := by decide +kernel
theorem d_Mo_reference_11 : decode b_Mo_reference 11 = .ok (.invokevirtual 273, 3) := by decide +kernel
theorem d_Mo_reference_14 : decode b_Mo_reference 14 = .ok (.istore_n 3, 1) := by decide +kernel
theorem d_Mo_reference_15 : decode b_Mo_reference 15 = .ok (.iload_n 3, 1) := by decide +kernel
theorem d_Mo_reference_16 : decode b_Mo_reference 16 = .ok (.ifCond .lt 7, 3) := by decide +kernel
theorem d_Mo_reference_19 : decode b_Mo_reference 19 = .ok (.iload_n 2, 1) := by decide +kernel
theorem d_Mo_reference_20 : decode b_Mo_reference 20 = .ok (.ifCond .ge 9, 3) := by decide +kernel
theorem d_Mo_reference_23 : decode b_Mo_reference 23 = .ok (.aload_n 0, 1) := by decide +kernel
theorem d_Mo_reference_24 : decode b_Mo_reference 24 = .ok (.iconst 1, 1) := by decide +kernel
theorem d_Mo_reference_25 : decode b_Mo_reference 25 = .ok (.invokevirtual 270, 3) := by decide +kernel
theorem d_Mo_reference_28 : decode b_Mo_reference 28 = .ok (.ireturn, 1) := by decide +kernel
theorem d_Mo_reference_29 : decode b_Mo_reference 29 = .ok (.iconst 0, 1) := by decide +kernel
theorem d_Mo_reference_30 : decode b_Mo_reference 30 = .ok (.istore 4, 2) := by decide +kernel
theorem d_Mo_reference_32 : decode b_Mo_reference 32 = .ok (.iconst 0, 1) := by decide +kernel
theorem d_Mo_reference_33 : decode b_Mo_reference 33 = .ok (.istore 5, 2) := by decide +kernel
theorem d_Mo_reference_35 : decode b_Mo_reference 35 = .ok (.iload 5, 2) := by decide +kernel
theorem d_Mo_reference_37 : decode b_Mo_reference 37 = .ok (.aload_n 0, 1) := by decide +kernel
theorem d_Mo_reference_38 : decode b_Mo_reference 38 = .ok (.getfield 157, 3) := by decide +kernel
theorem d_Mo_reference_41 : decode b_Mo_reference 41 = .ok (.if_icmp .ge 37, 3) := by decide +kernel
theorem d_Mo_reference_44 : decode b_Mo_reference 44 = .ok (.aload_n 0, 1) := by decide +kernel
theorem d_Mo_reference_45 : decode b_Mo_reference 45 = .ok (.getfield 50, 3) := by decide +kernel
theorem d_Mo_reference_48 : decode b_Mo_reference 48 = .ok (.iload 5, 2) := by decide +kernel
theorem d_Mo_reference_50 : decode b_Mo_reference 50 = .ok (.iaload, 1) := by decide +kernel
theorem d_Mo_reference_51 : decode b_Mo_reference 51 = .ok (.iload_n 3, 1) := by decide +kernel
theorem d_Mo_reference_52 : decode b_Mo_reference 52 = .ok (.if_icmp .ne 20, 3) := by decide +kernel
theorem d_Mo_reference_55 : decode b_Mo_reference 55 = .ok (.iload 4, 2) := by decide +kernel
theorem d_Mo_reference_57 : decode b_Mo_reference 57 = .ok (.iload_n 2, 1) := by decide +kernel
theorem d_Mo_reference_58 : decode b_Mo_reference 58 = .ok (.if_icmp .ne 11, 3) := by decide +kernel
theorem d_Mo_reference_61 : decode b_Mo_reference 61 = .ok (.aload_n 0, 1) := by decide +kernel
theorem d_Mo_reference_62 : decode b_Mo_reference 62 = .ok (.getfield 38, 3) := by decide +kernel
theorem d_Mo_reference_65 : decode b_Mo_reference 65 = .ok (.iload 5, 2) := by decide +kernel
theorem d_Mo_reference_67 : decode b_Mo_reference 67 = .ok (.iaload, 1) := by decide +kernel
theorem d_Mo_reference_68 : decode b_Mo_reference 68 = .ok (.ireturn, 1) := by decide +kernel
theorem d_Mo_reference_69 : decode b_Mo_reference 69 = .ok (.iinc 4 1, 3) := by decide +kernel
theorem d_Mo_reference_72 : decode b_Mo_reference 72 = .ok (.iinc 5 1, 3) := by decide +kernel
theorem d_Mo_reference_75 : decode b_Mo_reference 75 = .ok (.goto (-40), 3) := by decide +kernel
theorem d_Mo_reference_78 : decode b_Mo_reference 78 = .ok (.iconst (-1), 1) := by decide +kernel
theorem d_Mo_reference_79 : decode b_Mo_reference 79 = .ok (.ireturn, 1) := by decide +kernel
abbrev b_Mo_keep : ByteArray := prog_11_method_46_code
def y_Mo_keep : MethodName := ⟨"ProgramDeskModel", "keep", "()V"⟩
theorem d_Mo_keep_0 : decode b_Mo_keep 0 = .ok (.iconst 0, 1) := by decide +kernel
theorem d_Mo_keep_1 : decode b_Mo_keep 1 = .ok (.istore_n 1, 1) := by decide +kernel
theorem d_Mo_keep_2 : decode b_Mo_keep 2 = .ok (.iload_n 1, 1) := by decide +kernel
theorem d_Mo_keep_3 : decode b_Mo_keep 3 = .ok (.aload_n 0, 1) := by decide +kernel
theorem d_Mo_keep_4 : decode b_Mo_keep 4 = .ok (.getfield 140, 3) := by decide +kernel
theorem d_Mo_keep_7 : decode b_Mo_keep 7 = .ok (.if_icmp .ge 21, 3) := by decide +kernel
theorem d_Mo_keep_10 : decode b_Mo_keep 10 = .ok (.aload_n 0, 1) := by decide +kernel
theorem d_Mo_keep_11 : decode b_Mo_keep 11 = .ok (.getfield 29, 3) := by decide +kernel
theorem d_Mo_keep_14 : decode b_Mo_keep 14 = .ok (.iload_n 1, 1) := by decide +kernel
theorem d_Mo_keep_15 : decode b_Mo_keep 15 = .ok (.aload_n 0, 1) := by decide +kernel
theorem d_Mo_keep_16 : decode b_Mo_keep 16 = .ok (.getfield 25, 3) := by decide +kernel
theorem d_Mo_keep_19 : decode b_Mo_keep 19 = .ok (.iload_n 1, 1) := by decide +kernel
theorem d_Mo_keep_20 : decode b_Mo_keep 20 = .ok (.iaload, 1) := by decide +kernel
theorem d_Mo_keep_21 : decode b_Mo_keep 21 = .ok (.iastore, 1) := by decide +kernel
theorem d_Mo_keep_22 : decode b_Mo_keep 22 = .ok (.iinc 1 1, 3) := by decide +kernel
theorem d_Mo_keep_25 : decode b_Mo_keep 25 = .ok (.goto (-23), 3) := by decide +kernel
theorem d_Mo_keep_28 : decode b_Mo_keep 28 = .ok (.aload_n 0, 1) := by decide +kernel
theorem d_Mo_keep_29 : decode b_Mo_keep 29 = .ok (.aload_n 0, 1) := by decide +kernel
theorem d_Mo_keep_30 : decode b_Mo_keep 30 = .ok (.getfield 140, 3) := by decide +kernel
theorem d_Mo_keep_33 : decode b_Mo_keep 33 = .ok (.putfield 276, 3) := by decide +kernel
theorem d_Mo_keep_36 : decode b_Mo_keep 36 = .ok (.iconst 0, 1) := by decide +kernel
theorem d_Mo_keep_37 : decode b_Mo_keep 37 = .ok (.istore_n 1, 1) := by decide +kernel
theorem d_Mo_keep_38 : decode b_Mo_keep 38 = .ok (.iload_n 1, 1) := by decide +kernel
theorem d_Mo_keep_39 : decode b_Mo_keep 39 = .ok (.aload_n 0, 1) := by decide +kernel
theorem d_Mo_keep_40 : decode b_Mo_keep 40 = .ok (.getfield 157, 3) := by decide +kernel
theorem d_Mo_keep_43 : decode b_Mo_keep 43 = .ok (.if_icmp .ge 21, 3) := by decide +kernel
theorem d_Mo_keep_46 : decode b_Mo_keep 46 = .ok (.aload_n 0, 1) := by decide +kernel
theorem d_Mo_keep_47 : decode b_Mo_keep 47 = .ok (.getfield 53, 3) := by decide +kernel
theorem d_Mo_keep_50 : decode b_Mo_keep 50 = .ok (.iload_n 1, 1) := by decide +kernel
theorem d_Mo_keep_51 : decode b_Mo_keep 51 = .ok (.aload_n 0, 1) := by decide +kernel
theorem d_Mo_keep_52 : decode b_Mo_keep 52 = .ok (.getfield 50, 3) := by decide +kernel
theorem d_Mo_keep_55 : decode b_Mo_keep 55 = .ok (.iload_n 1, 1) := by decide +kernel
theorem d_Mo_keep_56 : decode b_Mo_keep 56 = .ok (.iaload, 1) := by decide +kernel
theorem d_Mo_keep_57 : decode b_Mo_keep 57 = .ok (.iastore, 1) := by decide +kernel
theorem d_Mo_keep_58 : decode b_Mo_keep 58 = .ok (.iinc 1 1, 3) := by decide +kernel
theorem d_Mo_keep_61 : decode b_Mo_keep 61 = .ok (.goto (-23), 3) := by decide +kernel
theorem d_Mo_keep_64 : decode b_Mo_keep 64 = .ok (.return_, 1) := by decide +kernel
abbrev b_Mo_takeBack : ByteArray := prog_11_method_47_code
def y_Mo_takeBack : MethodName := ⟨"ProgramDeskModel", "takeBack", "(I)I"⟩
theorem d_Mo_takeBack_0 : decode b_Mo_takeBack 0 = .ok (.iconst 0, 1) := by decide +kernel
theorem d_Mo_takeBack_1 : decode b_Mo_takeBack 1 = .ok (.istore_n 2, 1) := by decide +kernel
theorem d_Mo_takeBack_2 : decode b_Mo_takeBack 2 = .ok (.iload_n 2, 1) := by decide +kernel
theorem d_Mo_takeBack_3 : decode b_Mo_takeBack 3 = .ok (.aload_n 0, 1) := by decide +kernel
theorem d_Mo_takeBack_4 : decode b_Mo_takeBack 4 = .ok (.getfield 276, 3) := by decide +kernel
theorem d_Mo_takeBack_7 : decode b_Mo_takeBack 7 = .ok (.if_icmp .ge 21, 3) := by decide +kernel
theorem d_Mo_takeBack_10 : decode b_Mo_takeBack 10 = .ok (.aload_n 0, 1) := by decide +kernel
theorem d_Mo_takeBack_11 : decode b_Mo_takeBack 11 = .ok (.getfield 25, 3) := by decide +kernel
theorem d_Mo_takeBack_14 : decode b_Mo_takeBack 14 = .ok (.iload_n 2, 1) := by decide +kernel
theorem d_Mo_takeBack_15 : decode b_Mo_takeBack 15 = .ok (.aload_n 0, 1) := by decide +kernel
theorem d_Mo_takeBack_16 : decode b_Mo_takeBack 16 = .ok (.getfield 29, 3) := by decide +kernel
theorem d_Mo_takeBack_19 : decode b_Mo_takeBack 19 = .ok (.iload_n 2, 1) := by decide +kernel
theorem d_Mo_takeBack_20 : decode b_Mo_takeBack 20 = .ok (.iaload, 1) := by decide +kernel
theorem d_Mo_takeBack_21 : decode b_Mo_takeBack 21 = .ok (.iastore, 1) := by decide +kernel
theorem d_Mo_takeBack_22 : decode b_Mo_takeBack 22 = .ok (.iinc 2 1, 3) := by decide +kernel
theorem d_Mo_takeBack_25 : decode b_Mo_takeBack 25 = .ok (.goto (-23), 3) := by decide +kernel
theorem d_Mo_takeBack_28 : decode b_Mo_takeBack 28 = .ok (.aload_n 0, 1) := by decide +kernel
theorem d_Mo_takeBack_29 : decode b_Mo_takeBack 29 = .ok (.aload_n 0, 1) := by decide +kernel
theorem d_Mo_takeBack_30 : decode b_Mo_takeBack 30 = .ok (.getfield 276, 3) := by decide +kernel
theorem d_Mo_takeBack_33 : decode b_Mo_takeBack 33 = .ok (.putfield 140, 3) := by decide +kernel
theorem d_Mo_takeBack_36 : decode b_Mo_takeBack 36 = .ok (.aload_n 0, 1) := by decide +kernel
theorem d_Mo_takeBack_37 : decode b_Mo_takeBack 37 = .ok (.iload_n 1, 1) := by decide +kernel
theorem d_Mo_takeBack_38 : decode b_Mo_takeBack 38 = .ok (.invokevirtual 270, 3) := by decide +kernel
theorem d_Mo_takeBack_41 : decode b_Mo_takeBack 41 = .ok (.ireturn, 1) := by decide +kernel
abbrev b_Mo_becomeFresh : ByteArray := prog_11_method_48_code
def y_Mo_becomeFresh : MethodName := ⟨"ProgramDeskModel", "becomeFresh", "(I)V"⟩
theorem d_Mo_becomeFresh_0 : decode b_Mo_becomeFresh 0 = .ok (.iconst 0, 1) := by decide +kernel
theorem d_Mo_becomeFresh_1 : decode b_Mo_becomeFresh 1 = .ok (.istore_n 2, 1) := by decide +kernel
theorem d_Mo_becomeFresh_2 : decode b_Mo_becomeFresh 2 = .ok (.iload_n 2, 1) := by decide +kernel
theorem d_Mo_becomeFresh_3 : decode b_Mo_becomeFresh 3 = .ok (.iload_n 1, 1) := by decide +kernel
theorem d_Mo_becomeFresh_4 : decode b_Mo_becomeFresh 4 = .ok (.if_icmp .ge 21, 3) := by decide +kernel
theorem d_Mo_becomeFresh_7 : decode b_Mo_becomeFresh 7 = .ok (.aload_n 0, 1) := by decide +kernel
theorem d_Mo_becomeFresh_8 : decode b_Mo_becomeFresh 8 = .ok (.getfield 25, 3) := by decide +kernel
theorem d_Mo_becomeFresh_11 : decode b_Mo_becomeFresh 11 = .ok (.iload_n 2, 1) := by decide +kernel
theorem d_Mo_becomeFresh_12 : decode b_Mo_becomeFresh 12 = .ok (.aload_n 0, 1) := by decide +kernel
theorem d_Mo_becomeFresh_13 : decode b_Mo_becomeFresh 13 = .ok (.getfield 32, 3) := by decide +kernel
theorem d_Mo_becomeFresh_16 : decode b_Mo_becomeFresh 16 = .ok (.iload_n 2, 1) := by decide +kernel
theorem d_Mo_becomeFresh_17 : decode b_Mo_becomeFresh 17 = .ok (.iaload, 1) := by decide +kernel
theorem d_Mo_becomeFresh_18 : decode b_Mo_becomeFresh 18 = .ok (.iastore, 1) := by decide +kernel
theorem d_Mo_becomeFresh_19 : decode b_Mo_becomeFresh 19 = .ok (.iinc 2 1, 3) := by decide +kernel
theorem d_Mo_becomeFresh_22 : decode b_Mo_becomeFresh 22 = .ok (.goto (-20), 3) := by decide +kernel
theorem d_Mo_becomeFresh_25 : decode b_Mo_becomeFresh 25 = .ok (.aload_n 0, 1) := by decide +kernel
theorem d_Mo_becomeFresh_26 : decode b_Mo_becomeFresh 26 = .ok (.iload_n 1, 1) := by decide +kernel
theorem d_Mo_becomeFresh_27 : decode b_Mo_becomeFresh 27 = .ok (.putfield 140, 3) := by decide +kernel
theorem d_Mo_becomeFresh_30 : decode b_Mo_becomeFresh 30 = .ok (.return_, 1) := by decide +kernel
abbrev b_Mo_isWord : ByteArray := prog_11_method_49_code
def y_Mo_isWord : MethodName := ⟨"ProgramDeskModel", "isWord", "(J)Z"⟩
theorem d_Mo_isWord_0 : decode b_Mo_isWord 0 = .ok (.lload_n 0, 1) := by decide +kernel
theorem d_Mo_isWord_1 : decode b_Mo_isWord 1 = .ok (.invokestatic 145, 3) := by decide +kernel
theorem d_Mo_isWord_4 : decode b_Mo_isWord 4 = .ok (.istore_n 2, 1) := by decide +kernel
theorem d_Mo_isWord_5 : decode b_Mo_isWord 5 = .ok (.iload_n 2, 1) := by decide +kernel
theorem d_Mo_isWord_6 : decode b_Mo_isWord 6 = .ok (.iconst 1, 1) := by decide +kernel
theorem d_Mo_isWord_7 : decode b_Mo_isWord 7 = .ok (.if_icmp .lt 19, 3) := by decide +kernel
theorem d_Mo_isWord_10 : decode b_Mo_isWord 10 = .ok (.iload_n 2, 1) := by decide +kernel
theorem d_Mo_isWord_11 : decode b_Mo_isWord 11 = .ok (.bipush 6, 2) := by decide +kernel
theorem d_Mo_isWord_13 : decode b_Mo_isWord 13 = .ok (.if_icmp .gt 13, 3) := by decide +kernel
theorem d_Mo_isWord_16 : decode b_Mo_isWord 16 = .ok (.lload_n 0, 1) := by decide +kernel
theorem d_Mo_isWord_17 : decode b_Mo_isWord 17 = .ok (.lconst 0, 1) := by decide +kernel
theorem d_Mo_isWord_18 : decode b_Mo_isWord 18 = .ok (.lcmp, 1) := by decide +kernel
theorem d_Mo_isWord_19 : decode b_Mo_isWord 19 = .ok (.ifCond .le 7, 3) := by decide +kernel
theorem d_Mo_isWord_22 : decode b_Mo_isWord 22 = .ok (.iconst 1, 1) := by decide +kernel
theorem d_Mo_isWord_23 : decode b_Mo_isWord 23 = .ok (.goto 4, 3) := by decide +kernel
theorem d_Mo_isWord_26 : decode b_Mo_isWord 26 = .ok (.iconst 0, 1) := by decide +kernel
theorem d_Mo_isWord_27 : decode b_Mo_isWord 27 = .ok (.istore_n 3, 1) := by decide +kernel
theorem d_Mo_isWord_28 : decode b_Mo_isWord 28 = .ok (.iconst 0, 1) := by decide +kernel
theorem d_Mo_isWord_29 : decode b_Mo_isWord 29 = .ok (.istore 4, 2) := by decide +kernel
theorem d_Mo_isWord_31 : decode b_Mo_isWord 31 = .ok (.iload 4, 2) := by decide +kernel
theorem d_Mo_isWord_33 : decode b_Mo_isWord 33 = .ok (.iload_n 2, 1) := by decide +kernel
theorem d_Mo_isWord_34 : decode b_Mo_isWord 34 = .ok (.if_icmp .ge 51, 3) := by decide +kernel
theorem d_Mo_isWord_37 : decode b_Mo_isWord 37 = .ok (.iload_n 3, 1) := by decide +kernel
theorem d_Mo_isWord_38 : decode b_Mo_isWord 38 = .ok (.ifCond .eq 47, 3) := by decide +kernel
theorem d_Mo_isWord_41 : decode b_Mo_isWord 41 = .ok (.lload_n 0, 1) := by decide +kernel
theorem d_Mo_isWord_42 : decode b_Mo_isWord 42 = .ok (.iconst 5, 1) := by decide +kernel
theorem d_Mo_isWord_43 : decode b_Mo_isWord 43 = .ok (.iload 4, 2) := by decide +kernel
theorem d_Mo_isWord_45 : decode b_Mo_isWord 45 = .ok (.imul, 1) := by decide +kernel
theorem d_Mo_isWord_46 : decode b_Mo_isWord 46 = .ok (.lshr, 1) := by decide +kernel
theorem d_Mo_isWord_47 : decode b_Mo_isWord 47 = .ok (.ldc2_w 149, 3) := by decide +kernel
theorem d_Mo_isWord_50 : decode b_Mo_isWord 50 = .ok (.land, 1) := by decide +kernel
theorem d_Mo_isWord_51 : decode b_Mo_isWord 51 = .ok (.lconst 1, 1) := by decide +kernel
theorem d_Mo_isWord_52 : decode b_Mo_isWord 52 = .ok (.lcmp, 1) := by decide +kernel
theorem d_Mo_isWord_53 : decode b_Mo_isWord 53 = .ok (.ifCond .lt 24, 3) := by decide +kernel
theorem d_Mo_isWord_56 : decode b_Mo_isWord 56 = .ok (.lload_n 0, 1) := by decide +kernel
theorem d_Mo_isWord_57 : decode b_Mo_isWord 57 = .ok (.iconst 5, 1) := by decide +kernel
theorem d_Mo_isWord_58 : decode b_Mo_isWord 58 = .ok (.iload 4, 2) := by decide +kernel
theorem d_Mo_isWord_60 : decode b_Mo_isWord 60 = .ok (.imul, 1) := by decide +kernel
theorem d_Mo_isWord_61 : decode b_Mo_isWord 61 = .ok (.lshr, 1) := by decide +kernel
theorem d_Mo_isWord_62 : decode b_Mo_isWord 62 = .ok (.ldc2_w 149, 3) := by decide +kernel
theorem d_Mo_isWord_65 : decode b_Mo_isWord 65 = .ok (.land, 1) := by decide +kernel
theorem d_Mo_isWord_66 : decode b_Mo_isWord 66 = .ok (.ldc2_w 279, 3) := by decide +kernel
theorem d_Mo_isWord_69 : decode b_Mo_isWord 69 = .ok (.lcmp, 1) := by decide +kernel
theorem d_Mo_isWord_70 : decode b_Mo_isWord 70 = .ok (.ifCond .gt 7, 3) := by decide +kernel
theorem d_Mo_isWord_73 : decode b_Mo_isWord 73 = .ok (.iconst 1, 1) := by decide +kernel
theorem d_Mo_isWord_74 : decode b_Mo_isWord 74 = .ok (.goto 4, 3) := by decide +kernel
theorem d_Mo_isWord_77 : decode b_Mo_isWord 77 = .ok (.iconst 0, 1) := by decide +kernel
theorem d_Mo_isWord_78 : decode b_Mo_isWord 78 = .ok (.istore_n 3, 1) := by decide +kernel
theorem d_Mo_isWord_79 : decode b_Mo_isWord 79 = .ok (.iinc 4 1, 3) := by decide +kernel
theorem d_Mo_isWord_82 : decode b_Mo_isWord 82 = .ok (.goto (-51), 3) := by decide +kernel
theorem d_Mo_isWord_85 : decode b_Mo_isWord 85 = .ok (.iload_n 3, 1) := by decide +kernel
theorem d_Mo_isWord_86 : decode b_Mo_isWord 86 = .ok (.ireturn, 1) := by decide +kernel
abbrev b_Mo_rename : ByteArray := prog_11_method_50_code
def y_Mo_rename : MethodName := ⟨"ProgramDeskModel", "rename", "(IJ)I"⟩
theorem d_Mo_rename_0 : decode b_Mo_rename 0 = .ok (.aload_n 0, 1) := by decide +kernel
theorem d_Mo_rename_1 : decode b_Mo_rename 1 = .ok (.iconst 0, 1) := by decide +kernel
theorem d_Mo_rename_2 : decode b_Mo_rename 2 = .ok (.putfield 132, 3) := by decide +kernel
theorem d_Mo_rename_5 : decode b_Mo_rename 5 = .ok (.lload_n 2, 1) := by decide +kernel
theorem d_Mo_rename_6 : decode b_Mo_rename 6 = .ok (.invokestatic 281, 3) := by decide +kernel
theorem d_Mo_rename_9 : decode b_Mo_rename 9 = .ok (.ifCond .eq 11, 3) := by decide +kernel
theorem d_Mo_rename_12 : decode b_Mo_rename 12 = .ok (.aload_n 0, 1) := by decide +kernel
theorem d_Mo_rename_13 : decode b_Mo_rename 13 = .ok (.lload_n 2, 1) := by decide +kernel
theorem d_Mo_rename_14 : decode b_Mo_rename 14 = .ok (.invokevirtual 168, 3) := by decide +kernel
theorem d_Mo_rename_17 : decode b_Mo_rename 17 = .ok (.ifCond .lt 9, 3) := by decide +kernel
theorem d_Mo_rename_20 : decode b_Mo_rename 20 = .ok (.aload_n 0, 1) := by decide +kernel
theorem d_Mo_rename_21 : decode b_Mo_rename 21 = .ok (.iconst 1, 1) := by decide +kernel
theorem d_Mo_rename_22 : decode b_Mo_rename 22 = .ok (.invokevirtual 270, 3) := by decide +kernel
theorem d_Mo_rename_25 : decode b_Mo_rename 25 = .ok (.ireturn, 1) := by decide +kernel
theorem d_Mo_rename_26 : decode b_Mo_rename 26 = .ok (.aload_n 0, 1) := by decide +kernel
theorem d_Mo_rename_27 : decode b_Mo_rename 27 = .ok (.invokevirtual 267, 3) := by decide +kernel
theorem d_Mo_rename_30 : decode b_Mo_rename 30 = .ok (.aload_n 0, 1) := by decide +kernel
theorem d_Mo_rename_31 : decode b_Mo_rename 31 = .ok (.getfield 234, 3) := by decide +kernel
theorem d_Mo_rename_34 : decode b_Mo_rename 34 = .ok (.ifCond .le 9, 3) := by decide +kernel
theorem d_Mo_rename_37 : decode b_Mo_rename 37 = .ok (.aload_n 0, 1) := by decide +kernel
theorem d_Mo_rename_38 : decode b_Mo_rename 38 = .ok (.iconst 2, 1) := by decide +kernel
theorem d_Mo_rename_39 : decode b_Mo_rename 39 = .ok (.invokevirtual 270, 3) := by decide +kernel
theorem d_Mo_rename_42 : decode b_Mo_rename 42 = .ok (.ireturn, 1) := by decide +kernel
theorem d_Mo_rename_43 : decode b_Mo_rename 43 = .ok (.aload_n 0, 1) := by decide +kernel
theorem d_Mo_rename_44 : decode b_Mo_rename 44 = .ok (.iload_n 1, 1) := by decide +kernel
theorem d_Mo_rename_45 : decode b_Mo_rename 45 = .ok (.invokevirtual 273, 3) := by decide +kernel
theorem d_Mo_rename_48 : decode b_Mo_rename 48 = .ok (.istore 4, 2) := by decide +kernel
theorem d_Mo_rename_50 : decode b_Mo_rename 50 = .ok (.iload 4, 2) := by decide +kernel
theorem d_Mo_rename_52 : decode b_Mo_rename 52 = .ok (.ifCond .ge 9, 3) := by decide +kernel
theorem d_Mo_rename_55 : decode b_Mo_rename 55 = .ok (.aload_n 0, 1) := by decide +kernel
theorem d_Mo_rename_56 : decode b_Mo_rename 56 = .ok (.iconst 3, 1) := by decide +kernel
theorem d_Mo_rename_57 : decode b_Mo_rename 57 = .ok (.invokevirtual 270, 3) := by decide +kernel
theorem d_Mo_rename_60 : decode b_Mo_rename 60 = .ok (.ireturn, 1) := by decide +kernel
theorem d_Mo_rename_61 : decode b_Mo_rename 61 = .ok (.lload_n 2, 1) := by decide +kernel
theorem d_Mo_rename_62 : decode b_Mo_rename 62 = .ok (.invokestatic 145, 3) := by decide +kernel
theorem d_Mo_rename_65 : decode b_Mo_rename 65 = .ok (.istore 5, 2) := by decide +kernel
theorem d_Mo_rename_67 : decode b_Mo_rename 67 = .ok (.iconst 0, 1) := by decide +kernel
theorem d_Mo_rename_68 : decode b_Mo_rename 68 = .ok (.istore 6, 2) := by decide +kernel
theorem d_Mo_rename_70 : decode b_Mo_rename 70 = .ok (.aload_n 0, 1) := by decide +kernel
theorem d_Mo_rename_71 : decode b_Mo_rename 71 = .ok (.getfield 140, 3) := by decide +kernel
theorem d_Mo_rename_74 : decode b_Mo_rename 74 = .ok (.istore 7, 2) := by decide +kernel
theorem d_Mo_rename_76 : decode b_Mo_rename 76 = .ok (.iconst 0, 1) := by decide +kernel
theorem d_Mo_rename_77 : decode b_Mo_rename 77 = .ok (.istore 8, 2) := by decide +kernel
theorem d_Mo_rename_79 : decode b_Mo_rename 79 = .ok (.iload 8, 2) := by decide +kernel
theorem d_Mo_rename_81 : decode b_Mo_rename 81 = .ok (.aload_n 0, 1) := by decide +kernel
theorem d_Mo_rename_82 : decode b_Mo_rename 82 = .ok (.getfield 157, 3) := by decide +kernel
theorem d_Mo_rename_85 : decode b_Mo_rename 85 = .ok (.if_icmp .ge 47, 3) := by decide +kernel
theorem d_Mo_rename_88 : decode b_Mo_rename 88 = .ok (.aload_n 0, 1) := by decide +kernel
theorem d_Mo_rename_89 : decode b_Mo_rename 89 = .ok (.getfield 50, 3) := by decide +kernel
theorem d_Mo_rename_92 : decode b_Mo_rename 92 = .ok (.iload 8, 2) := by decide +kernel
theorem d_Mo_rename_94 : decode b_Mo_rename 94 = .ok (.iaload, 1) := by decide +kernel
theorem d_Mo_rename_95 : decode b_Mo_rename 95 = .ok (.iload 4, 2) := by decide +kernel
theorem d_Mo_rename_97 : decode b_Mo_rename 97 = .ok (.if_icmp .ne 29, 3) := by decide +kernel
theorem d_Mo_rename_100 : decode b_Mo_rename 100 = .ok (.iinc 6 1, 3) := by decide +kernel
theorem d_Mo_rename_103 : decode b_Mo_rename 103 = .ok (.iload 7, 2) := by decide +kernel
theorem d_Mo_rename_105 : decode b_Mo_rename 105 = .ok (.iload 5, 2) := by decide +kernel
theorem d_Mo_rename_107 : decode b_Mo_rename 107 = .ok (.aload_n 0, 1) := by decide +kernel
theorem d_Mo_rename_108 : decode b_Mo_rename 108 = .ok (.getfield 41, 3) := by decide +kernel
theorem d_Mo_rename_111 : decode b_Mo_rename 111 = .ok (.iload 8, 2) := by decide +kernel
theorem d_Mo_rename_113 : decode b_Mo_rename 113 = .ok (.iaload, 1) := by decide +kernel
theorem d_Mo_rename_114 : decode b_Mo_rename 114 = .ok (.aload_n 0, 1) := by decide +kernel
theorem d_Mo_rename_115 : decode b_Mo_rename 115 = .ok (.getfield 38, 3) := by decide +kernel
theorem d_Mo_rename_118 : decode b_Mo_rename 118 = .ok (.iload 8, 2) := by decide +kernel
theorem d_Mo_rename_120 : decode b_Mo_rename 120 = .ok (.iaload, 1) := by decide +kernel
theorem d_Mo_rename_121 : decode b_Mo_rename 121 = .ok (.isub, 1) := by decide +kernel
theorem d_Mo_rename_122 : decode b_Mo_rename 122 = .ok (.isub, 1) := by decide +kernel
theorem d_Mo_rename_123 : decode b_Mo_rename 123 = .ok (.iadd, 1) := by decide +kernel
theorem d_Mo_rename_124 : decode b_Mo_rename 124 = .ok (.istore 7, 2) := by decide +kernel
theorem d_Mo_rename_126 : decode b_Mo_rename 126 = .ok (.iinc 8 1, 3) := by decide +kernel
theorem d_Mo_rename_129 : decode b_Mo_rename 129 = .ok (.goto (-50), 3) := by decide +kernel
theorem d_Mo_rename_132 : decode b_Mo_rename 132 = .ok (.iload 7, 2) := by decide +kernel
theorem d_Mo_rename_134 : decode b_Mo_rename 134 = .ok (.sipush 240, 3) := by decide +kernel
theorem d_Mo_rename_137 : decode b_Mo_rename 137 = .ok (.if_icmp .le 9, 3) := by decide +kernel
theorem d_Mo_rename_140 : decode b_Mo_rename 140 = .ok (.aload_n 0, 1) := by decide +kernel
theorem d_Mo_rename_141 : decode b_Mo_rename 141 = .ok (.iconst 2, 1) := by decide +kernel
theorem d_Mo_rename_142 : decode b_Mo_rename 142 = .ok (.invokevirtual 270, 3) := by decide +kernel
theorem d_Mo_rename_145 : decode b_Mo_rename 145 = .ok (.ireturn, 1) := by decide +kernel
theorem d_Mo_rename_146 : decode b_Mo_rename 146 = .ok (.aload_n 0, 1) := by decide +kernel
theorem d_Mo_rename_147 : decode b_Mo_rename 147 = .ok (.invokevirtual 285, 3) := by decide +kernel
theorem d_Mo_rename_150 : decode b_Mo_rename 150 = .ok (.aload_n 0, 1) := by decide +kernel
theorem d_Mo_rename_151 : decode b_Mo_rename 151 = .ok (.ldc2_w 143, 3) := by decide +kernel
theorem d_Mo_rename_154 : decode b_Mo_rename 154 = .ok (.invokevirtual 250, 3) := by decide +kernel
theorem d_Mo_rename_157 : decode b_Mo_rename 157 = .ok (.istore 8, 2) := by decide +kernel
theorem d_Mo_rename_159 : decode b_Mo_rename 159 = .ok (.aload_n 0, 1) := by decide +kernel
theorem d_Mo_rename_160 : decode b_Mo_rename 160 = .ok (.getfield 157, 3) := by decide +kernel
theorem d_Mo_rename_163 : decode b_Mo_rename 163 = .ok (.istore 9, 2) := by decide +kernel
theorem d_Mo_rename_165 : decode b_Mo_rename 165 = .ok (.aload_n 0, 1) := by decide +kernel
theorem d_Mo_rename_166 : decode b_Mo_rename 166 = .ok (.iload 4, 2) := by decide +kernel
theorem d_Mo_rename_168 : decode b_Mo_rename 168 = .ok (.lload_n 2, 1) := by decide +kernel
theorem d_Mo_rename_169 : decode b_Mo_rename 169 = .ok (.iload 5, 2) := by decide +kernel
theorem d_Mo_rename_171 : decode b_Mo_rename 171 = .ok (.invokevirtual 288, 3) := by decide +kernel
theorem d_Mo_rename_174 : decode b_Mo_rename 174 = .ok (.aload_n 0, 1) := by decide +kernel
theorem d_Mo_rename_175 : decode b_Mo_rename 175 = .ok (.invokevirtual 267, 3) := by decide +kernel
theorem d_Mo_rename_178 : decode b_Mo_rename 178 = .ok (.aload_n 0, 1) := by decide +kernel
theorem d_Mo_rename_179 : decode b_Mo_rename 179 = .ok (.getfield 234, 3) := by decide +kernel
theorem d_Mo_rename_182 : decode b_Mo_rename 182 = .ok (.ifCond .ne 28, 3) := by decide +kernel
theorem d_Mo_rename_185 : decode b_Mo_rename 185 = .ok (.aload_n 0, 1) := by decide +kernel
theorem d_Mo_rename_186 : decode b_Mo_rename 186 = .ok (.getfield 157, 3) := by decide +kernel
theorem d_Mo_rename_189 : decode b_Mo_rename 189 = .ok (.iload 9, 2) := by decide +kernel
theorem d_Mo_rename_191 : decode b_Mo_rename 191 = .ok (.if_icmp .ne 19, 3) := by decide +kernel
theorem d_Mo_rename_194 : decode b_Mo_rename 194 = .ok (.aload_n 0, 1) := by decide +kernel
theorem d_Mo_rename_195 : decode b_Mo_rename 195 = .ok (.ldc2_w 143, 3) := by decide +kernel
theorem d_Mo_rename_198 : decode b_Mo_rename 198 = .ok (.invokevirtual 250, 3) := by decide +kernel
theorem d_Mo_rename_201 : decode b_Mo_rename 201 = .ok (.iload 8, 2) := by decide +kernel
theorem d_Mo_rename_203 : decode b_Mo_rename 203 = .ok (.if_icmp .ne 7, 3) := by decide +kernel
theorem d_Mo_rename_206 : decode b_Mo_rename 206 = .ok (.iconst 1, 1) := by decide +kernel
theorem d_Mo_rename_207 : decode b_Mo_rename 207 = .ok (.goto 4, 3) := by decide +kernel
theorem d_Mo_rename_210 : decode b_Mo_rename 210 = .ok (.iconst 0, 1) := by decide +kernel
theorem d_Mo_rename_211 : decode b_Mo_rename 211 = .ok (.istore 10, 2) := by decide +kernel
theorem d_Mo_rename_213 : decode b_Mo_rename 213 = .ok (.iconst 0, 1) := by decide +kernel
theorem d_Mo_rename_214 : decode b_Mo_rename 214 = .ok (.istore 11, 2) := by decide +kernel
theorem d_Mo_rename_216 : decode b_Mo_rename 216 = .ok (.iload 11, 2) := by decide +kernel
theorem d_Mo_rename_218 : decode b_Mo_rename 218 = .ok (.iload 9, 2) := by decide +kernel
theorem d_Mo_rename_220 : decode b_Mo_rename 220 = .ok (.if_icmp .ge 38, 3) := by decide +kernel
theorem d_Mo_rename_223 : decode b_Mo_rename 223 = .ok (.iload 10, 2) := by decide +kernel
theorem d_Mo_rename_225 : decode b_Mo_rename 225 = .ok (.ifCond .eq 33, 3) := by decide +kernel
theorem d_Mo_rename_228 : decode b_Mo_rename 228 = .ok (.aload_n 0, 1) := by decide +kernel
theorem d_Mo_rename_229 : decode b_Mo_rename 229 = .ok (.getfield 50, 3) := by decide +kernel
theorem d_Mo_rename_232 : decode b_Mo_rename 232 = .ok (.iload 11, 2) := by decide +kernel
theorem d_Mo_rename_234 : decode b_Mo_rename 234 = .ok (.iaload, 1) := by decide +kernel
theorem d_Mo_rename_235 : decode b_Mo_rename 235 = .ok (.aload_n 0, 1) := by decide +kernel
theorem d_Mo_rename_236 : decode b_Mo_rename 236 = .ok (.getfield 53, 3) := by decide +kernel
theorem d_Mo_rename_239 : decode b_Mo_rename 239 = .ok (.iload 11, 2) := by decide +kernel
theorem d_Mo_rename_241 : decode b_Mo_rename 241 = .ok (.iaload, 1) := by decide +kernel
theorem d_Mo_rename_242 : decode b_Mo_rename 242 = .ok (.if_icmp .ne 7, 3) := by decide +kernel
theorem d_Mo_rename_245 : decode b_Mo_rename 245 = .ok (.iconst 1, 1) := by decide +kernel
theorem d_Mo_rename_246 : decode b_Mo_rename 246 = .ok (.goto 4, 3) := by decide +kernel
theorem d_Mo_rename_249 : decode b_Mo_rename 249 = .ok (.iconst 0, 1) := by decide +kernel
theorem d_Mo_rename_250 : decode b_Mo_rename 250 = .ok (.istore 10, 2) := by decide +kernel
theorem d_Mo_rename_252 : decode b_Mo_rename 252 = .ok (.iinc 11 1, 3) := by decide +kernel
theorem d_Mo_rename_255 : decode b_Mo_rename 255 = .ok (.goto (-39), 3) := by decide +kernel
theorem d_Mo_rename_258 : decode b_Mo_rename 258 = .ok (.iload 10, 2) := by decide +kernel
theorem d_Mo_rename_260 : decode b_Mo_rename 260 = .ok (.ifCond .eq 8, 3) := by decide +kernel
theorem d_Mo_rename_263 : decode b_Mo_rename 263 = .ok (.iload 6, 2) := by decide +kernel
theorem d_Mo_rename_265 : decode b_Mo_rename 265 = .ok (.goto 8, 3) := by decide +kernel
theorem d_Mo_rename_268 : decode b_Mo_rename 268 = .ok (.aload_n 0, 1) := by decide +kernel
theorem d_Mo_rename_269 : decode b_Mo_rename 269 = .ok (.iconst 4, 1) := by decide +kernel
theorem d_Mo_rename_270 : decode b_Mo_rename 270 = .ok (.invokevirtual 292, 3) := by decide +kernel
theorem d_Mo_rename_273 : decode b_Mo_rename 273 = .ok (.ireturn, 1) := by decide +kernel
abbrev b_Mo_spell : ByteArray := prog_11_method_51_code
def y_Mo_spell : MethodName := ⟨"ProgramDeskModel", "spell", "(IJI)V"⟩
theorem d_Mo_spell_0 : decode b_Mo_spell 0 = .ok (.iconst 0, 1) := by decide +kernel
theorem d_Mo_spell_1 : decode b_Mo_spell 1 = .ok (.istore 5, 2) := by decide +kernel
theorem d_Mo_spell_3 : decode b_Mo_spell 3 = .ok (.iconst 0, 1) := by decide +kernel
theorem d_Mo_spell_4 : decode b_Mo_spell 4 = .ok (.istore 6, 2) := by decide +kernel
theorem d_Mo_spell_6 : decode b_Mo_spell 6 = .ok (.iconst 0, 1) := by decide +kernel
theorem d_Mo_spell_7 : decode b_Mo_spell 7 = .ok (.istore 7, 2) := by decide +kernel
theorem d_Mo_spell_9 : decode b_Mo_spell 9 = .ok (.iload 7, 2) := by decide +kernel
theorem d_Mo_spell_11 : decode b_Mo_spell 11 = .ok (.aload_n 0, 1) := by decide +kernel
theorem d_Mo_spell_12 : decode b_Mo_spell 12 = .ok (.getfield 140, 3) := by decide +kernel
theorem d_Mo_spell_15 : decode b_Mo_spell 15 = .ok (.if_icmp .ge 144, 3) := by decide +kernel
theorem d_Mo_spell_18 : decode b_Mo_spell 18 = .ok (.iload 6, 2) := by decide +kernel
theorem d_Mo_spell_20 : decode b_Mo_spell 20 = .ok (.aload_n 0, 1) := by decide +kernel
theorem d_Mo_spell_21 : decode b_Mo_spell 21 = .ok (.getfield 157, 3) := by decide +kernel
theorem d_Mo_spell_24 : decode b_Mo_spell 24 = .ok (.if_icmp .ge 21, 3) := by decide +kernel
theorem d_Mo_spell_27 : decode b_Mo_spell 27 = .ok (.aload_n 0, 1) := by decide +kernel
theorem d_Mo_spell_28 : decode b_Mo_spell 28 = .ok (.getfield 41, 3) := by decide +kernel
theorem d_Mo_spell_31 : decode b_Mo_spell 31 = .ok (.iload 6, 2) := by decide +kernel
theorem d_Mo_spell_33 : decode b_Mo_spell 33 = .ok (.iaload, 1) := by decide +kernel
theorem d_Mo_spell_34 : decode b_Mo_spell 34 = .ok (.iload 7, 2) := by decide +kernel
theorem d_Mo_spell_36 : decode b_Mo_spell 36 = .ok (.if_icmp .gt 9, 3) := by decide +kernel
theorem d_Mo_spell_39 : decode b_Mo_spell 39 = .ok (.iinc 6 1, 3) := by decide +kernel
theorem d_Mo_spell_42 : decode b_Mo_spell 42 = .ok (.goto (-24), 3) := by decide +kernel
theorem d_Mo_spell_45 : decode b_Mo_spell 45 = .ok (.iload 6, 2) := by decide +kernel
theorem d_Mo_spell_47 : decode b_Mo_spell 47 = .ok (.aload_n 0, 1) := by decide +kernel
theorem d_Mo_spell_48 : decode b_Mo_spell 48 = .ok (.getfield 157, 3) := by decide +kernel
theorem d_Mo_spell_51 : decode b_Mo_spell 51 = .ok (.if_icmp .ge 85, 3) := by decide +kernel
theorem d_Mo_spell_54 : decode b_Mo_spell 54 = .ok (.aload_n 0, 1) := by decide +kernel
theorem d_Mo_spell_55 : decode b_Mo_spell 55 = .ok (.getfield 38, 3) := by decide +kernel
theorem d_Mo_spell_58 : decode b_Mo_spell 58 = .ok (.iload 6, 2) := by decide +kernel
theorem d_Mo_spell_60 : decode b_Mo_spell 60 = .ok (.iaload, 1) := by decide +kernel
theorem d_Mo_spell_61 : decode b_Mo_spell 61 = .ok (.iload 7, 2) := by decide +kernel
theorem d_Mo_spell_63 : decode b_Mo_spell 63 = .ok (.if_icmp .ne 73, 3) := by decide +kernel
theorem d_Mo_spell_66 : decode b_Mo_spell 66 = .ok (.aload_n 0, 1) := by decide +kernel
theorem d_Mo_spell_67 : decode b_Mo_spell 67 = .ok (.getfield 50, 3) := by decide +kernel
theorem d_Mo_spell_70 : decode b_Mo_spell 70 = .ok (.iload 6, 2) := by decide +kernel
theorem d_Mo_spell_72 : decode b_Mo_spell 72 = .ok (.iaload, 1) := by decide +kernel
theorem d_Mo_spell_73 : decode b_Mo_spell 73 = .ok (.iload_n 1, 1) := by decide +kernel
theorem d_Mo_spell_74 : decode b_Mo_spell 74 = .ok (.if_icmp .ne 62, 3) := by decide +kernel
theorem d_Mo_spell_77 : decode b_Mo_spell 77 = .ok (.iconst 0, 1) := by decide +kernel
theorem d_Mo_spell_78 : decode b_Mo_spell 78 = .ok (.istore 8, 2) := by decide +kernel
theorem d_Mo_spell_80 : decode b_Mo_spell 80 = .ok (.iload 8, 2) := by decide +kernel
theorem d_Mo_spell_82 : decode b_Mo_spell 82 = .ok (.iload 4, 2) := by decide +kernel
theorem d_Mo_spell_84 : decode b_Mo_spell 84 = .ok (.if_icmp .ge 33, 3) := by decide +kernel
theorem d_Mo_spell_87 : decode b_Mo_spell 87 = .ok (.aload_n 0, 1) := by decide +kernel
theorem d_Mo_spell_88 : decode b_Mo_spell 88 = .ok (.getfield 32, 3) := by decide +kernel
theorem d_Mo_spell_91 : decode b_Mo_spell 91 = .ok (.iload 5, 2) := by decide +kernel
theorem d_Mo_spell_93 : decode b_Mo_spell 93 = .ok (.iload 8, 2) := by decide +kernel
theorem d_Mo_spell_95 : decode b_Mo_spell 95 = .ok (.iadd, 1) := by decide +kernel
theorem d_Mo_spell_96 : decode b_Mo_spell 96 = .ok (.bipush 96, 2) := by decide +kernel
theorem d_Mo_spell_98 : decode b_Mo_spell 98 = .ok (.lload_n 2, 1) := by decide +kernel
theorem d_Mo_spell_99 : decode b_Mo_spell 99 = .ok (.iconst 5, 1) := by decide +kernel
theorem d_Mo_spell_100 : decode b_Mo_spell 100 = .ok (.iload 8, 2) := by decide +kernel
theorem d_Mo_spell_102 : decode b_Mo_spell 102 = .ok (.imul, 1) := by decide +kernel
theorem d_Mo_spell_103 : decode b_Mo_spell 103 = .ok (.lshr, 1) := by decide +kernel
theorem d_Mo_spell_104 : decode b_Mo_spell 104 = .ok (.ldc2_w 149, 3) := by decide +kernel
theorem d_Mo_spell_107 : decode b_Mo_spell 107 = .ok (.land, 1) := by decide +kernel
theorem d_Mo_spell_108 : decode b_Mo_spell 108 = .ok (.l2i, 1) := by decide +kernel
theorem d_Mo_spell_109 : decode b_Mo_spell 109 = .ok (.iadd, 1) := by decide +kernel
theorem d_Mo_spell_110 : decode b_Mo_spell 110 = .ok (.iastore, 1) := by decide +kernel
theorem d_Mo_spell_111 : decode b_Mo_spell 111 = .ok (.iinc 8 1, 3) := by decide +kernel
theorem d_Mo_spell_114 : decode b_Mo_spell 114 = .ok (.goto (-34), 3) := by decide +kernel
theorem d_Mo_spell_117 : decode b_Mo_spell 117 = .ok (.iload 5, 2) := by decide +kernel
theorem d_Mo_spell_119 : decode b_Mo_spell 119 = .ok (.iload 4, 2) := by decide +kernel
theorem d_Mo_spell_121 : decode b_Mo_spell 121 = .ok (.iadd, 1) := by decide +kernel
theorem d_Mo_spell_122 : decode b_Mo_spell 122 = .ok (.istore 5, 2) := by decide +kernel
theorem d_Mo_spell_124 : decode b_Mo_spell 124 = .ok (.aload_n 0, 1) := by decide +kernel
theorem d_Mo_spell_125 : decode b_Mo_spell 125 = .ok (.getfield 41, 3) := by decide +kernel
theorem d_Mo_spell_128 : decode b_Mo_spell 128 = .ok (.iload 6, 2) := by decide +kernel
theorem d_Mo_spell_130 : decode b_Mo_spell 130 = .ok (.iaload, 1) := by decide +kernel
theorem d_Mo_spell_131 : decode b_Mo_spell 131 = .ok (.istore 7, 2) := by decide +kernel
theorem d_Mo_spell_133 : decode b_Mo_spell 133 = .ok (.goto (-124), 3) := by decide +kernel
theorem d_Mo_spell_136 : decode b_Mo_spell 136 = .ok (.aload_n 0, 1) := by decide +kernel
theorem d_Mo_spell_137 : decode b_Mo_spell 137 = .ok (.getfield 32, 3) := by decide +kernel
theorem d_Mo_spell_140 : decode b_Mo_spell 140 = .ok (.iload 5, 2) := by decide +kernel
theorem d_Mo_spell_142 : decode b_Mo_spell 142 = .ok (.aload_n 0, 1) := by decide +kernel
theorem d_Mo_spell_143 : decode b_Mo_spell 143 = .ok (.getfield 25, 3) := by decide +kernel
theorem d_Mo_spell_146 : decode b_Mo_spell 146 = .ok (.iload 7, 2) := by decide +kernel
theorem d_Mo_spell_148 : decode b_Mo_spell 148 = .ok (.iaload, 1) := by decide +kernel
theorem d_Mo_spell_149 : decode b_Mo_spell 149 = .ok (.iastore, 1) := by decide +kernel
theorem d_Mo_spell_150 : decode b_Mo_spell 150 = .ok (.iinc 5 1, 3) := by decide +kernel
theorem d_Mo_spell_153 : decode b_Mo_spell 153 = .ok (.iinc 7 1, 3) := by decide +kernel
theorem d_Mo_spell_156 : decode b_Mo_spell 156 = .ok (.goto (-147), 3) := by decide +kernel
theorem d_Mo_spell_159 : decode b_Mo_spell 159 = .ok (.aload_n 0, 1) := by decide +kernel
theorem d_Mo_spell_160 : decode b_Mo_spell 160 = .ok (.iload 5, 2) := by decide +kernel
theorem d_Mo_spell_162 : decode b_Mo_spell 162 = .ok (.invokevirtual 295, 3) := by decide +kernel
theorem d_Mo_spell_165 : decode b_Mo_spell 165 = .ok (.return_, 1) := by decide +kernel
abbrev b_Mo_isHeld : ByteArray := prog_11_method_52_code
def y_Mo_isHeld : MethodName := ⟨"ProgramDeskModel", "isHeld", "(III)Z"⟩
theorem d_Mo_isHeld_0 : decode b_Mo_isHeld 0 = .ok (.iconst 0, 1) := by decide +kernel
theorem d_Mo_isHeld_1 : decode b_Mo_isHeld 1 = .ok (.istore 4, 2) := by decide +kernel
theorem d_Mo_isHeld_3 : decode b_Mo_isHeld 3 = .ok (.iload_n 2, 1) := by decide +kernel
theorem d_Mo_isHeld_4 : decode b_Mo_isHeld 4 = .ok (.istore 5, 2) := by decide +kernel
theorem d_Mo_isHeld_6 : decode b_Mo_isHeld 6 = .ok (.iload 5, 2) := by decide +kernel
theorem d_Mo_isHeld_8 : decode b_Mo_isHeld 8 = .ok (.iload_n 3, 1) := by decide +kernel
theorem d_Mo_isHeld_9 : decode b_Mo_isHeld 9 = .ok (.if_icmp .ge 161, 3) := by decide +kernel
theorem d_Mo_isHeld_12 : decode b_Mo_isHeld 12 = .ok (.iload 4, 2) := by decide +kernel
theorem d_Mo_isHeld_14 : decode b_Mo_isHeld 14 = .ok (.ifCond .ne 15, 3) := by decide +kernel
theorem d_Mo_isHeld_17 : decode b_Mo_isHeld 17 = .ok (.aload_n 0, 1) := by decide +kernel
theorem d_Mo_isHeld_18 : decode b_Mo_isHeld 18 = .ok (.getfield 47, 3) := by decide +kernel
theorem d_Mo_isHeld_21 : decode b_Mo_isHeld 21 = .ok (.iload 5, 2) := by decide +kernel
theorem d_Mo_isHeld_23 : decode b_Mo_isHeld 23 = .ok (.iaload, 1) := by decide +kernel
theorem d_Mo_isHeld_24 : decode b_Mo_isHeld 24 = .ok (.bipush 6, 2) := by decide +kernel
theorem d_Mo_isHeld_26 : decode b_Mo_isHeld 26 = .ok (.if_icmp .ne 7, 3) := by decide +kernel
theorem d_Mo_isHeld_29 : decode b_Mo_isHeld 29 = .ok (.iconst 1, 1) := by decide +kernel
theorem d_Mo_isHeld_30 : decode b_Mo_isHeld 30 = .ok (.goto 4, 3) := by decide +kernel
theorem d_Mo_isHeld_33 : decode b_Mo_isHeld 33 = .ok (.iconst 0, 1) := by decide +kernel
theorem d_Mo_isHeld_34 : decode b_Mo_isHeld 34 = .ok (.istore 4, 2) := by decide +kernel
theorem d_Mo_isHeld_36 : decode b_Mo_isHeld 36 = .ok (.iload_n 3, 1) := by decide +kernel
theorem d_Mo_isHeld_37 : decode b_Mo_isHeld 37 = .ok (.istore 6, 2) := by decide +kernel
theorem d_Mo_isHeld_39 : decode b_Mo_isHeld 39 = .ok (.iload 6, 2) := by decide +kernel
theorem d_Mo_isHeld_41 : decode b_Mo_isHeld 41 = .ok (.aload_n 0, 1) := by decide +kernel
theorem d_Mo_isHeld_42 : decode b_Mo_isHeld 42 = .ok (.getfield 65, 3) := by decide +kernel
theorem d_Mo_isHeld_45 : decode b_Mo_isHeld 45 = .ok (.iload_n 1, 1) := by decide +kernel
theorem d_Mo_isHeld_46 : decode b_Mo_isHeld 46 = .ok (.iaload, 1) := by decide +kernel
theorem d_Mo_isHeld_47 : decode b_Mo_isHeld 47 = .ok (.if_icmp .ge 117, 3) := by decide +kernel
theorem d_Mo_isHeld_50 : decode b_Mo_isHeld 50 = .ok (.aload_n 0, 1) := by decide +kernel
theorem d_Mo_isHeld_51 : decode b_Mo_isHeld 51 = .ok (.getfield 47, 3) := by decide +kernel
theorem d_Mo_isHeld_54 : decode b_Mo_isHeld 54 = .ok (.iload 5, 2) := by decide +kernel
theorem d_Mo_isHeld_56 : decode b_Mo_isHeld 56 = .ok (.iaload, 1) := by decide +kernel
theorem d_Mo_isHeld_57 : decode b_Mo_isHeld 57 = .ok (.iconst 5, 1) := by decide +kernel
theorem d_Mo_isHeld_58 : decode b_Mo_isHeld 58 = .ok (.if_icmp .ne 106, 3) := by decide +kernel
theorem d_Mo_isHeld_61 : decode b_Mo_isHeld 61 = .ok (.iload 4, 2) := by decide +kernel
theorem d_Mo_isHeld_63 : decode b_Mo_isHeld 63 = .ok (.ifCond .ne 31, 3) := by decide +kernel
theorem d_Mo_isHeld_66 : decode b_Mo_isHeld 66 = .ok (.aload_n 0, 1) := by decide +kernel
theorem d_Mo_isHeld_67 : decode b_Mo_isHeld 67 = .ok (.getfield 47, 3) := by decide +kernel
theorem d_Mo_isHeld_70 : decode b_Mo_isHeld 70 = .ok (.iload 6, 2) := by decide +kernel
theorem d_Mo_isHeld_72 : decode b_Mo_isHeld 72 = .ok (.iaload, 1) := by decide +kernel
theorem d_Mo_isHeld_73 : decode b_Mo_isHeld 73 = .ok (.iconst 4, 1) := by decide +kernel
theorem d_Mo_isHeld_74 : decode b_Mo_isHeld 74 = .ok (.if_icmp .ne 24, 3) := by decide +kernel
theorem d_Mo_isHeld_77 : decode b_Mo_isHeld 77 = .ok (.aload_n 0, 1) := by decide +kernel
theorem d_Mo_isHeld_78 : decode b_Mo_isHeld 78 = .ok (.getfield 50, 3) := by decide +kernel
theorem d_Mo_isHeld_81 : decode b_Mo_isHeld 81 = .ok (.iload 6, 2) := by decide +kernel
theorem d_Mo_isHeld_83 : decode b_Mo_isHeld 83 = .ok (.iaload, 1) := by decide +kernel
theorem d_Mo_isHeld_84 : decode b_Mo_isHeld 84 = .ok (.aload_n 0, 1) := by decide +kernel
theorem d_Mo_isHeld_85 : decode b_Mo_isHeld 85 = .ok (.getfield 50, 3) := by decide +kernel
theorem d_Mo_isHeld_88 : decode b_Mo_isHeld 88 = .ok (.iload 5, 2) := by decide +kernel
theorem d_Mo_isHeld_90 : decode b_Mo_isHeld 90 = .ok (.iaload, 1) := by decide +kernel
theorem d_Mo_isHeld_91 : decode b_Mo_isHeld 91 = .ok (.if_icmp .ne 7, 3) := by decide +kernel
theorem d_Mo_isHeld_94 : decode b_Mo_isHeld 94 = .ok (.iconst 1, 1) := by decide +kernel
theorem d_Mo_isHeld_95 : decode b_Mo_isHeld 95 = .ok (.goto 4, 3) := by decide +kernel
theorem d_Mo_isHeld_98 : decode b_Mo_isHeld 98 = .ok (.iconst 0, 1) := by decide +kernel
theorem d_Mo_isHeld_99 : decode b_Mo_isHeld 99 = .ok (.istore 4, 2) := by decide +kernel
theorem d_Mo_isHeld_101 : decode b_Mo_isHeld 101 = .ok (.iload 4, 2) := by decide +kernel
theorem d_Mo_isHeld_103 : decode b_Mo_isHeld 103 = .ok (.ifCond .ne 48, 3) := by decide +kernel
theorem d_Mo_isHeld_106 : decode b_Mo_isHeld 106 = .ok (.aload_n 0, 1) := by decide +kernel
theorem d_Mo_isHeld_107 : decode b_Mo_isHeld 107 = .ok (.getfield 47, 3) := by decide +kernel
theorem d_Mo_isHeld_110 : decode b_Mo_isHeld 110 = .ok (.iload 6, 2) := by decide +kernel
theorem d_Mo_isHeld_112 : decode b_Mo_isHeld 112 = .ok (.iaload, 1) := by decide +kernel
theorem d_Mo_isHeld_113 : decode b_Mo_isHeld 113 = .ok (.iconst 5, 1) := by decide +kernel
theorem d_Mo_isHeld_114 : decode b_Mo_isHeld 114 = .ok (.if_icmp .ne 41, 3) := by decide +kernel
theorem d_Mo_isHeld_117 : decode b_Mo_isHeld 117 = .ok (.aload_n 0, 1) := by decide +kernel
theorem d_Mo_isHeld_118 : decode b_Mo_isHeld 118 = .ok (.getfield 50, 3) := by decide +kernel
theorem d_Mo_isHeld_121 : decode b_Mo_isHeld 121 = .ok (.iload 6, 2) := by decide +kernel
theorem d_Mo_isHeld_123 : decode b_Mo_isHeld 123 = .ok (.iaload, 1) := by decide +kernel
theorem d_Mo_isHeld_124 : decode b_Mo_isHeld 124 = .ok (.iload_n 1, 1) := by decide +kernel
theorem d_Mo_isHeld_125 : decode b_Mo_isHeld 125 = .ok (.if_icmp .ne 30, 3) := by decide +kernel
theorem d_Mo_isHeld_128 : decode b_Mo_isHeld 128 = .ok (.aload_n 0, 1) := by decide +kernel
theorem d_Mo_isHeld_129 : decode b_Mo_isHeld 129 = .ok (.aload_n 0, 1) := by decide +kernel
theorem d_Mo_isHeld_130 : decode b_Mo_isHeld 130 = .ok (.getfield 44, 3) := by decide +kernel
theorem d_Mo_isHeld_133 : decode b_Mo_isHeld 133 = .ok (.iload 5, 2) := by decide +kernel
theorem d_Mo_isHeld_135 : decode b_Mo_isHeld 135 = .ok (.laload, 1) := by decide +kernel
theorem d_Mo_isHeld_136 : decode b_Mo_isHeld 136 = .ok (.iload 6, 2) := by decide +kernel
theorem d_Mo_isHeld_138 : decode b_Mo_isHeld 138 = .ok (.invokevirtual 246, 3) := by decide +kernel
theorem d_Mo_isHeld_141 : decode b_Mo_isHeld 141 = .ok (.aload_n 0, 1) := by decide +kernel
theorem d_Mo_isHeld_142 : decode b_Mo_isHeld 142 = .ok (.getfield 50, 3) := by decide +kernel
theorem d_Mo_isHeld_145 : decode b_Mo_isHeld 145 = .ok (.iload 5, 2) := by decide +kernel
theorem d_Mo_isHeld_147 : decode b_Mo_isHeld 147 = .ok (.iaload, 1) := by decide +kernel
theorem d_Mo_isHeld_148 : decode b_Mo_isHeld 148 = .ok (.if_icmp .eq 7, 3) := by decide +kernel
theorem d_Mo_isHeld_151 : decode b_Mo_isHeld 151 = .ok (.iconst 1, 1) := by decide +kernel
theorem d_Mo_isHeld_152 : decode b_Mo_isHeld 152 = .ok (.goto 4, 3) := by decide +kernel
theorem d_Mo_isHeld_155 : decode b_Mo_isHeld 155 = .ok (.iconst 0, 1) := by decide +kernel
theorem d_Mo_isHeld_156 : decode b_Mo_isHeld 156 = .ok (.istore 4, 2) := by decide +kernel
theorem d_Mo_isHeld_158 : decode b_Mo_isHeld 158 = .ok (.iinc 6 1, 3) := by decide +kernel
theorem d_Mo_isHeld_161 : decode b_Mo_isHeld 161 = .ok (.goto (-122), 3) := by decide +kernel
theorem d_Mo_isHeld_164 : decode b_Mo_isHeld 164 = .ok (.iinc 5 1, 3) := by decide +kernel
theorem d_Mo_isHeld_167 : decode b_Mo_isHeld 167 = .ok (.goto (-161), 3) := by decide +kernel
theorem d_Mo_isHeld_170 : decode b_Mo_isHeld 170 = .ok (.iload_n 3, 1) := by decide +kernel
theorem d_Mo_isHeld_171 : decode b_Mo_isHeld 171 = .ok (.istore 5, 2) := by decide +kernel
theorem d_Mo_isHeld_173 : decode b_Mo_isHeld 173 = .ok (.iload 5, 2) := by decide +kernel
theorem d_Mo_isHeld_175 : decode b_Mo_isHeld 175 = .ok (.aload_n 0, 1) := by decide +kernel
theorem d_Mo_isHeld_176 : decode b_Mo_isHeld 176 = .ok (.getfield 65, 3) := by decide +kernel
theorem d_Mo_isHeld_179 : decode b_Mo_isHeld 179 = .ok (.iload_n 1, 1) := by decide +kernel
theorem d_Mo_isHeld_180 : decode b_Mo_isHeld 180 = .ok (.iaload, 1) := by decide +kernel
theorem d_Mo_isHeld_181 : decode b_Mo_isHeld 181 = .ok (.if_icmp .ge 43, 3) := by decide +kernel
theorem d_Mo_isHeld_184 : decode b_Mo_isHeld 184 = .ok (.iload 4, 2) := by decide +kernel
theorem d_Mo_isHeld_186 : decode b_Mo_isHeld 186 = .ok (.ifCond .ne 25, 3) := by decide +kernel
theorem d_Mo_isHeld_189 : decode b_Mo_isHeld 189 = .ok (.aload_n 0, 1) := by decide +kernel
theorem d_Mo_isHeld_190 : decode b_Mo_isHeld 190 = .ok (.getfield 47, 3) := by decide +kernel
theorem d_Mo_isHeld_193 : decode b_Mo_isHeld 193 = .ok (.iload 5, 2) := by decide +kernel
theorem d_Mo_isHeld_195 : decode b_Mo_isHeld 195 = .ok (.iaload, 1) := by decide +kernel
theorem d_Mo_isHeld_196 : decode b_Mo_isHeld 196 = .ok (.iconst 4, 1) := by decide +kernel
theorem d_Mo_isHeld_197 : decode b_Mo_isHeld 197 = .ok (.if_icmp .ne 18, 3) := by decide +kernel
theorem d_Mo_isHeld_200 : decode b_Mo_isHeld 200 = .ok (.aload_n 0, 1) := by decide +kernel
theorem d_Mo_isHeld_201 : decode b_Mo_isHeld 201 = .ok (.getfield 50, 3) := by decide +kernel
theorem d_Mo_isHeld_204 : decode b_Mo_isHeld 204 = .ok (.iload 5, 2) := by decide +kernel
theorem d_Mo_isHeld_206 : decode b_Mo_isHeld 206 = .ok (.iaload, 1) := by decide +kernel
theorem d_Mo_isHeld_207 : decode b_Mo_isHeld 207 = .ok (.iload_n 1, 1) := by decide +kernel
theorem d_Mo_isHeld_208 : decode b_Mo_isHeld 208 = .ok (.if_icmp .ne 7, 3) := by decide +kernel
theorem d_Mo_isHeld_211 : decode b_Mo_isHeld 211 = .ok (.iconst 1, 1) := by decide +kernel
theorem d_Mo_isHeld_212 : decode b_Mo_isHeld 212 = .ok (.goto 4, 3) := by decide +kernel
theorem d_Mo_isHeld_215 : decode b_Mo_isHeld 215 = .ok (.iconst 0, 1) := by decide +kernel
theorem d_Mo_isHeld_216 : decode b_Mo_isHeld 216 = .ok (.istore 4, 2) := by decide +kernel
theorem d_Mo_isHeld_218 : decode b_Mo_isHeld 218 = .ok (.iinc 5 1, 3) := by decide +kernel
theorem d_Mo_isHeld_221 : decode b_Mo_isHeld 221 = .ok (.goto (-48), 3) := by decide +kernel
theorem d_Mo_isHeld_224 : decode b_Mo_isHeld 224 = .ok (.iload 4, 2) := by decide +kernel
theorem d_Mo_isHeld_226 : decode b_Mo_isHeld 226 = .ok (.ireturn, 1) := by decide +kernel
abbrev b_Mo_inline : ByteArray := prog_11_method_53_code
def y_Mo_inline : MethodName := ⟨"ProgramDeskModel", "inline", "(I)I"⟩
theorem d_Mo_inline_0 : decode b_Mo_inline 0 = .ok (.aload_n 0, 1) := by decide +kernel
theorem d_Mo_inline_1 : decode b_Mo_inline 1 = .ok (.iconst 0, 1) := by decide +kernel
theorem d_Mo_inline_2 : decode b_Mo_inline 2 = .ok (.putfield 132, 3) := by decide +kernel
theorem d_Mo_inline_5 : decode b_Mo_inline 5 = .ok (.aload_n 0, 1) := by decide +kernel
theorem d_Mo_inline_6 : decode b_Mo_inline 6 = .ok (.invokevirtual 267, 3) := by decide +kernel
theorem d_Mo_inline_9 : decode b_Mo_inline 9 = .ok (.aload_n 0, 1) := by decide +kernel
theorem d_Mo_inline_10 : decode b_Mo_inline 10 = .ok (.getfield 234, 3) := by decide +kernel
theorem d_Mo_inline_13 : decode b_Mo_inline 13 = .ok (.ifCond .le 9, 3) := by decide +kernel
theorem d_Mo_inline_16 : decode b_Mo_inline 16 = .ok (.aload_n 0, 1) := by decide +kernel
theorem d_Mo_inline_17 : decode b_Mo_inline 17 = .ok (.iconst 1, 1) := by decide +kernel
theorem d_Mo_inline_18 : decode b_Mo_inline 18 = .ok (.invokevirtual 270, 3) := by decide +kernel
theorem d_Mo_inline_21 : decode b_Mo_inline 21 = .ok (.ireturn, 1) := by decide +kernel
theorem d_Mo_inline_22 : decode b_Mo_inline 22 = .ok (.aload_n 0, 1) := by decide +kernel
theorem d_Mo_inline_23 : decode b_Mo_inline 23 = .ok (.iload_n 1, 1) := by decide +kernel
theorem d_Mo_inline_24 : decode b_Mo_inline 24 = .ok (.invokevirtual 273, 3) := by decide +kernel
theorem d_Mo_inline_27 : decode b_Mo_inline 27 = .ok (.istore_n 2, 1) := by decide +kernel
theorem d_Mo_inline_28 : decode b_Mo_inline 28 = .ok (.iload_n 2, 1) := by decide +kernel
theorem d_Mo_inline_29 : decode b_Mo_inline 29 = .ok (.ifCond .lt 13, 3) := by decide +kernel
theorem d_Mo_inline_32 : decode b_Mo_inline 32 = .ok (.aload_n 0, 1) := by decide +kernel
theorem d_Mo_inline_33 : decode b_Mo_inline 33 = .ok (.getfield 47, 3) := by decide +kernel
theorem d_Mo_inline_36 : decode b_Mo_inline 36 = .ok (.iload_n 2, 1) := by decide +kernel
theorem d_Mo_inline_37 : decode b_Mo_inline 37 = .ok (.iaload, 1) := by decide +kernel
theorem d_Mo_inline_38 : decode b_Mo_inline 38 = .ok (.iconst 3, 1) := by decide +kernel
theorem d_Mo_inline_39 : decode b_Mo_inline 39 = .ok (.if_icmp .eq 9, 3) := by decide +kernel
theorem d_Mo_inline_42 : decode b_Mo_inline 42 = .ok (.aload_n 0, 1) := by decide +kernel
theorem d_Mo_inline_43 : decode b_Mo_inline 43 = .ok (.iconst 2, 1) := by decide +kernel
theorem d_Mo_inline_44 : decode b_Mo_inline 44 = .ok (.invokevirtual 270, 3) := by decide +kernel
theorem d_Mo_inline_47 : decode b_Mo_inline 47 = .ok (.ireturn, 1) := by decide +kernel
theorem d_Mo_inline_48 : decode b_Mo_inline 48 = .ok (.iload_n 2, 1) := by decide +kernel
theorem d_Mo_inline_49 : decode b_Mo_inline 49 = .ok (.iconst 2, 1) := by decide +kernel
theorem d_Mo_inline_50 : decode b_Mo_inline 50 = .ok (.iadd, 1) := by decide +kernel
theorem d_Mo_inline_51 : decode b_Mo_inline 51 = .ok (.istore_n 3, 1) := by decide +kernel
theorem d_Mo_inline_52 : decode b_Mo_inline 52 = .ok (.aload_n 0, 1) := by decide +kernel
theorem d_Mo_inline_53 : decode b_Mo_inline 53 = .ok (.getfield 62, 3) := by decide +kernel
theorem d_Mo_inline_56 : decode b_Mo_inline 56 = .ok (.iload_n 2, 1) := by decide +kernel
theorem d_Mo_inline_57 : decode b_Mo_inline 57 = .ok (.iaload, 1) := by decide +kernel
theorem d_Mo_inline_58 : decode b_Mo_inline 58 = .ok (.iconst 1, 1) := by decide +kernel
theorem d_Mo_inline_59 : decode b_Mo_inline 59 = .ok (.isub, 1) := by decide +kernel
theorem d_Mo_inline_60 : decode b_Mo_inline 60 = .ok (.istore 4, 2) := by decide +kernel
theorem d_Mo_inline_62 : decode b_Mo_inline 62 = .ok (.aload_n 0, 1) := by decide +kernel
theorem d_Mo_inline_63 : decode b_Mo_inline 63 = .ok (.iload_n 2, 1) := by decide +kernel
theorem d_Mo_inline_64 : decode b_Mo_inline 64 = .ok (.iload_n 3, 1) := by decide +kernel
theorem d_Mo_inline_65 : decode b_Mo_inline 65 = .ok (.iload 4, 2) := by decide +kernel
theorem d_Mo_inline_67 : decode b_Mo_inline 67 = .ok (.invokevirtual 298, 3) := by decide +kernel
theorem d_Mo_inline_70 : decode b_Mo_inline 70 = .ok (.ifCond .eq 9, 3) := by decide +kernel
theorem d_Mo_inline_73 : decode b_Mo_inline 73 = .ok (.aload_n 0, 1) := by decide +kernel
theorem d_Mo_inline_74 : decode b_Mo_inline 74 = .ok (.iconst 3, 1) := by decide +kernel
theorem d_Mo_inline_75 : decode b_Mo_inline 75 = .ok (.invokevirtual 270, 3) := by decide +kernel
theorem d_Mo_inline_78 : decode b_Mo_inline 78 = .ok (.ireturn, 1) := by decide +kernel
theorem d_Mo_inline_79 : decode b_Mo_inline 79 = .ok (.iconst 0, 1) := by decide +kernel
theorem d_Mo_inline_80 : decode b_Mo_inline 80 = .ok (.istore 5, 2) := by decide +kernel
theorem d_Mo_inline_82 : decode b_Mo_inline 82 = .ok (.aload_n 0, 1) := by decide +kernel
theorem d_Mo_inline_83 : decode b_Mo_inline 83 = .ok (.getfield 140, 3) := by decide +kernel
theorem d_Mo_inline_86 : decode b_Mo_inline 86 = .ok (.aload_n 0, 1) := by decide +kernel
theorem d_Mo_inline_87 : decode b_Mo_inline 87 = .ok (.getfield 41, 3) := by decide +kernel
theorem d_Mo_inline_90 : decode b_Mo_inline 90 = .ok (.iload 4, 2) := by decide +kernel
theorem d_Mo_inline_92 : decode b_Mo_inline 92 = .ok (.iaload, 1) := by decide +kernel
theorem d_Mo_inline_93 : decode b_Mo_inline 93 = .ok (.aload_n 0, 1) := by decide +kernel
theorem d_Mo_inline_94 : decode b_Mo_inline 94 = .ok (.getfield 38, 3) := by decide +kernel
theorem d_Mo_inline_97 : decode b_Mo_inline 97 = .ok (.iload_n 2, 1) := by decide +kernel
theorem d_Mo_inline_98 : decode b_Mo_inline 98 = .ok (.iconst 1, 1) := by decide +kernel
theorem d_Mo_inline_99 : decode b_Mo_inline 99 = .ok (.isub, 1) := by decide +kernel
theorem d_Mo_inline_100 : decode b_Mo_inline 100 = .ok (.iaload, 1) := by decide +kernel
theorem d_Mo_inline_101 : decode b_Mo_inline 101 = .ok (.isub, 1) := by decide +kernel
theorem d_Mo_inline_102 : decode b_Mo_inline 102 = .ok (.isub, 1) := by decide +kernel
theorem d_Mo_inline_103 : decode b_Mo_inline 103 = .ok (.istore 6, 2) := by decide +kernel
theorem d_Mo_inline_105 : decode b_Mo_inline 105 = .ok (.aload_n 0, 1) := by decide +kernel
theorem d_Mo_inline_106 : decode b_Mo_inline 106 = .ok (.getfield 41, 3) := by decide +kernel
theorem d_Mo_inline_109 : decode b_Mo_inline 109 = .ok (.iload 4, 2) := by decide +kernel
theorem d_Mo_inline_111 : decode b_Mo_inline 111 = .ok (.iconst 1, 1) := by decide +kernel
theorem d_Mo_inline_112 : decode b_Mo_inline 112 = .ok (.isub, 1) := by decide +kernel
theorem d_Mo_inline_113 : decode b_Mo_inline 113 = .ok (.iaload, 1) := by decide +kernel
theorem d_Mo_inline_114 : decode b_Mo_inline 114 = .ok (.aload_n 0, 1) := by decide +kernel
theorem d_Mo_inline_115 : decode b_Mo_inline 115 = .ok (.getfield 38, 3) := by decide +kernel
theorem d_Mo_inline_118 : decode b_Mo_inline 118 = .ok (.iload_n 3, 1) := by decide +kernel
theorem d_Mo_inline_119 : decode b_Mo_inline 119 = .ok (.iaload, 1) := by decide +kernel
theorem d_Mo_inline_120 : decode b_Mo_inline 120 = .ok (.isub, 1) := by decide +kernel
theorem d_Mo_inline_121 : decode b_Mo_inline 121 = .ok (.istore 7, 2) := by decide +kernel
theorem d_Mo_inline_123 : decode b_Mo_inline 123 = .ok (.iconst 0, 1) := by decide +kernel
theorem d_Mo_inline_124 : decode b_Mo_inline 124 = .ok (.istore 8, 2) := by decide +kernel
theorem d_Mo_inline_126 : decode b_Mo_inline 126 = .ok (.iload 8, 2) := by decide +kernel
theorem d_Mo_inline_128 : decode b_Mo_inline 128 = .ok (.aload_n 0, 1) := by decide +kernel
theorem d_Mo_inline_129 : decode b_Mo_inline 129 = .ok (.getfield 157, 3) := by decide +kernel
theorem d_Mo_inline_132 : decode b_Mo_inline 132 = .ok (.if_icmp .ge 59, 3) := by decide +kernel
theorem d_Mo_inline_135 : decode b_Mo_inline 135 = .ok (.aload_n 0, 1) := by decide +kernel
theorem d_Mo_inline_136 : decode b_Mo_inline 136 = .ok (.getfield 47, 3) := by decide +kernel
theorem d_Mo_inline_139 : decode b_Mo_inline 139 = .ok (.iload 8, 2) := by decide +kernel
theorem d_Mo_inline_141 : decode b_Mo_inline 141 = .ok (.iaload, 1) := by decide +kernel
theorem d_Mo_inline_142 : decode b_Mo_inline 142 = .ok (.iconst 5, 1) := by decide +kernel
theorem d_Mo_inline_143 : decode b_Mo_inline 143 = .ok (.if_icmp .ne 42, 3) := by decide +kernel
theorem d_Mo_inline_146 : decode b_Mo_inline 146 = .ok (.aload_n 0, 1) := by decide +kernel
theorem d_Mo_inline_147 : decode b_Mo_inline 147 = .ok (.getfield 50, 3) := by decide +kernel
theorem d_Mo_inline_150 : decode b_Mo_inline 150 = .ok (.iload 8, 2) := by decide +kernel
theorem d_Mo_inline_152 : decode b_Mo_inline 152 = .ok (.iaload, 1) := by decide +kernel
theorem d_Mo_inline_153 : decode b_Mo_inline 153 = .ok (.iload_n 2, 1) := by decide +kernel
theorem d_Mo_inline_154 : decode b_Mo_inline 154 = .ok (.if_icmp .ne 31, 3) := by decide +kernel
theorem d_Mo_inline_157 : decode b_Mo_inline 157 = .ok (.iinc 5 1, 3) := by decide +kernel
theorem d_Mo_inline_160 : decode b_Mo_inline 160 = .ok (.iload 6, 2) := by decide +kernel
theorem d_Mo_inline_162 : decode b_Mo_inline 162 = .ok (.iload 7, 2) := by decide +kernel
theorem d_Mo_inline_164 : decode b_Mo_inline 164 = .ok (.iconst 2, 1) := by decide +kernel
theorem d_Mo_inline_165 : decode b_Mo_inline 165 = .ok (.iadd, 1) := by decide +kernel
theorem d_Mo_inline_166 : decode b_Mo_inline 166 = .ok (.aload_n 0, 1) := by decide +kernel
theorem d_Mo_inline_167 : decode b_Mo_inline 167 = .ok (.getfield 41, 3) := by decide +kernel
theorem d_Mo_inline_170 : decode b_Mo_inline 170 = .ok (.iload 8, 2) := by decide +kernel
theorem d_Mo_inline_172 : decode b_Mo_inline 172 = .ok (.iaload, 1) := by decide +kernel
theorem d_Mo_inline_173 : decode b_Mo_inline 173 = .ok (.aload_n 0, 1) := by decide +kernel
theorem d_Mo_inline_174 : decode b_Mo_inline 174 = .ok (.getfield 38, 3) := by decide +kernel
theorem d_Mo_inline_177 : decode b_Mo_inline 177 = .ok (.iload 8, 2) := by decide +kernel
theorem d_Mo_inline_179 : decode b_Mo_inline 179 = .ok (.iaload, 1) := by decide +kernel
theorem d_Mo_inline_180 : decode b_Mo_inline 180 = .ok (.isub, 1) := by decide +kernel
theorem d_Mo_inline_181 : decode b_Mo_inline 181 = .ok (.isub, 1) := by decide +kernel
theorem d_Mo_inline_182 : decode b_Mo_inline 182 = .ok (.iadd, 1) := by decide +kernel
theorem d_Mo_inline_183 : decode b_Mo_inline 183 = .ok (.istore 6, 2) := by decide +kernel
theorem d_Mo_inline_185 : decode b_Mo_inline 185 = .ok (.iinc 8 1, 3) := by decide +kernel
theorem d_Mo_inline_188 : decode b_Mo_inline 188 = .ok (.goto (-62), 3) := by decide +kernel
theorem d_Mo_inline_191 : decode b_Mo_inline 191 = .ok (.iload 6, 2) := by decide +kernel
theorem d_Mo_inline_193 : decode b_Mo_inline 193 = .ok (.sipush 240, 3) := by decide +kernel
theorem d_Mo_inline_196 : decode b_Mo_inline 196 = .ok (.if_icmp .le 9, 3) := by decide +kernel
theorem d_Mo_inline_199 : decode b_Mo_inline 199 = .ok (.aload_n 0, 1) := by decide +kernel
theorem d_Mo_inline_200 : decode b_Mo_inline 200 = .ok (.iconst 1, 1) := by decide +kernel
theorem d_Mo_inline_201 : decode b_Mo_inline 201 = .ok (.invokevirtual 270, 3) := by decide +kernel
theorem d_Mo_inline_204 : decode b_Mo_inline 204 = .ok (.ireturn, 1) := by decide +kernel
theorem d_Mo_inline_205 : decode b_Mo_inline 205 = .ok (.aload_n 0, 1) := by decide +kernel
theorem d_Mo_inline_206 : decode b_Mo_inline 206 = .ok (.invokevirtual 285, 3) := by decide +kernel
theorem d_Mo_inline_209 : decode b_Mo_inline 209 = .ok (.aload_n 0, 1) := by decide +kernel
theorem d_Mo_inline_210 : decode b_Mo_inline 210 = .ok (.iload_n 2, 1) := by decide +kernel
theorem d_Mo_inline_211 : decode b_Mo_inline 211 = .ok (.iload_n 3, 1) := by decide +kernel
theorem d_Mo_inline_212 : decode b_Mo_inline 212 = .ok (.iload 4, 2) := by decide +kernel
theorem d_Mo_inline_214 : decode b_Mo_inline 214 = .ok (.invokevirtual 302, 3) := by decide +kernel
theorem d_Mo_inline_217 : decode b_Mo_inline 217 = .ok (.aload_n 0, 1) := by decide +kernel
theorem d_Mo_inline_218 : decode b_Mo_inline 218 = .ok (.invokevirtual 267, 3) := by decide +kernel
theorem d_Mo_inline_221 : decode b_Mo_inline 221 = .ok (.aload_n 0, 1) := by decide +kernel
theorem d_Mo_inline_222 : decode b_Mo_inline 222 = .ok (.getfield 234, 3) := by decide +kernel
theorem d_Mo_inline_225 : decode b_Mo_inline 225 = .ok (.ifCond .ne 8, 3) := by decide +kernel
theorem d_Mo_inline_228 : decode b_Mo_inline 228 = .ok (.iload 5, 2) := by decide +kernel
theorem d_Mo_inline_230 : decode b_Mo_inline 230 = .ok (.goto 8, 3) := by decide +kernel
theorem d_Mo_inline_233 : decode b_Mo_inline 233 = .ok (.aload_n 0, 1) := by decide +kernel
theorem d_Mo_inline_234 : decode b_Mo_inline 234 = .ok (.iconst 3, 1) := by decide +kernel
theorem d_Mo_inline_235 : decode b_Mo_inline 235 = .ok (.invokevirtual 292, 3) := by decide +kernel
theorem d_Mo_inline_238 : decode b_Mo_inline 238 = .ok (.ireturn, 1) := by decide +kernel
abbrev b_Mo_unfold : ByteArray := prog_11_method_54_code
def y_Mo_unfold : MethodName := ⟨"ProgramDeskModel", "unfold", "(III)V"⟩
theorem d_Mo_unfold_0 : decode b_Mo_unfold 0 = .ok (.iconst 0, 1) := by decide +kernel
theorem d_Mo_unfold_1 : decode b_Mo_unfold 1 = .ok (.istore 4, 2) := by decide +kernel
theorem d_Mo_unfold_3 : decode b_Mo_unfold 3 = .ok (.iconst 0, 1) := by decide +kernel
theorem d_Mo_unfold_4 : decode b_Mo_unfold 4 = .ok (.istore 5, 2) := by decide +kernel
theorem d_Mo_unfold_6 : decode b_Mo_unfold 6 = .ok (.iconst 0, 1) := by decide +kernel
theorem d_Mo_unfold_7 : decode b_Mo_unfold 7 = .ok (.istore 6, 2) := by decide +kernel
theorem d_Mo_unfold_9 : decode b_Mo_unfold 9 = .ok (.iload 6, 2) := by decide +kernel
theorem d_Mo_unfold_11 : decode b_Mo_unfold 11 = .ok (.aload_n 0, 1) := by decide +kernel
theorem d_Mo_unfold_12 : decode b_Mo_unfold 12 = .ok (.getfield 140, 3) := by decide +kernel
theorem d_Mo_unfold_15 : decode b_Mo_unfold 15 = .ok (.if_icmp .ge 207, 3) := by decide +kernel
theorem d_Mo_unfold_18 : decode b_Mo_unfold 18 = .ok (.iload 5, 2) := by decide +kernel
theorem d_Mo_unfold_20 : decode b_Mo_unfold 20 = .ok (.aload_n 0, 1) := by decide +kernel
theorem d_Mo_unfold_21 : decode b_Mo_unfold 21 = .ok (.getfield 157, 3) := by decide +kernel
theorem d_Mo_unfold_24 : decode b_Mo_unfold 24 = .ok (.if_icmp .ge 21, 3) := by decide +kernel
theorem d_Mo_unfold_27 : decode b_Mo_unfold 27 = .ok (.aload_n 0, 1) := by decide +kernel
theorem d_Mo_unfold_28 : decode b_Mo_unfold 28 = .ok (.getfield 41, 3) := by decide +kernel
theorem d_Mo_unfold_31 : decode b_Mo_unfold 31 = .ok (.iload 5, 2) := by decide +kernel
theorem d_Mo_unfold_33 : decode b_Mo_unfold 33 = .ok (.iaload, 1) := by decide +kernel
theorem d_Mo_unfold_34 : decode b_Mo_unfold 34 = .ok (.iload 6, 2) := by decide +kernel
theorem d_Mo_unfold_36 : decode b_Mo_unfold 36 = .ok (.if_icmp .gt 9, 3) := by decide +kernel
theorem d_Mo_unfold_39 : decode b_Mo_unfold 39 = .ok (.iinc 5 1, 3) := by decide +kernel
theorem d_Mo_unfold_42 : decode b_Mo_unfold 42 = .ok (.goto (-24), 3) := by decide +kernel
theorem d_Mo_unfold_45 : decode b_Mo_unfold 45 = .ok (.iload 5, 2) := by decide +kernel
theorem d_Mo_unfold_47 : decode b_Mo_unfold 47 = .ok (.iload_n 1, 1) := by decide +kernel
theorem d_Mo_unfold_48 : decode b_Mo_unfold 48 = .ok (.iconst 1, 1) := by decide +kernel
theorem d_Mo_unfold_49 : decode b_Mo_unfold 49 = .ok (.isub, 1) := by decide +kernel
theorem d_Mo_unfold_50 : decode b_Mo_unfold 50 = .ok (.if_icmp .ne 26, 3) := by decide +kernel
theorem d_Mo_unfold_53 : decode b_Mo_unfold 53 = .ok (.iload 6, 2) := by decide +kernel
theorem d_Mo_unfold_55 : decode b_Mo_unfold 55 = .ok (.aload_n 0, 1) := by decide +kernel
theorem d_Mo_unfold_56 : decode b_Mo_unfold 56 = .ok (.getfield 38, 3) := by decide +kernel
theorem d_Mo_unfold_59 : decode b_Mo_unfold 59 = .ok (.iload 5, 2) := by decide +kernel
theorem d_Mo_unfold_61 : decode b_Mo_unfold 61 = .ok (.iaload, 1) := by decide +kernel
theorem d_Mo_unfold_62 : decode b_Mo_unfold 62 = .ok (.if_icmp .ne 14, 3) := by decide +kernel
theorem d_Mo_unfold_65 : decode b_Mo_unfold 65 = .ok (.aload_n 0, 1) := by decide +kernel
theorem d_Mo_unfold_66 : decode b_Mo_unfold 66 = .ok (.getfield 41, 3) := by decide +kernel
theorem d_Mo_unfold_69 : decode b_Mo_unfold 69 = .ok (.iload_n 3, 1) := by decide +kernel
theorem d_Mo_unfold_70 : decode b_Mo_unfold 70 = .ok (.iaload, 1) := by decide +kernel
theorem d_Mo_unfold_71 : decode b_Mo_unfold 71 = .ok (.istore 6, 2) := by decide +kernel
theorem d_Mo_unfold_73 : decode b_Mo_unfold 73 = .ok (.goto (-64), 3) := by decide +kernel
theorem d_Mo_unfold_76 : decode b_Mo_unfold 76 = .ok (.iload 5, 2) := by decide +kernel
theorem d_Mo_unfold_78 : decode b_Mo_unfold 78 = .ok (.aload_n 0, 1) := by decide +kernel
theorem d_Mo_unfold_79 : decode b_Mo_unfold 79 = .ok (.getfield 157, 3) := by decide +kernel
theorem d_Mo_unfold_82 : decode b_Mo_unfold 82 = .ok (.if_icmp .ge 117, 3) := by decide +kernel
theorem d_Mo_unfold_85 : decode b_Mo_unfold 85 = .ok (.iload 6, 2) := by decide +kernel
theorem d_Mo_unfold_87 : decode b_Mo_unfold 87 = .ok (.aload_n 0, 1) := by decide +kernel
theorem d_Mo_unfold_88 : decode b_Mo_unfold 88 = .ok (.getfield 38, 3) := by decide +kernel
theorem d_Mo_unfold_91 : decode b_Mo_unfold 91 = .ok (.iload 5, 2) := by decide +kernel
theorem d_Mo_unfold_93 : decode b_Mo_unfold 93 = .ok (.iaload, 1) := by decide +kernel
theorem d_Mo_unfold_94 : decode b_Mo_unfold 94 = .ok (.if_icmp .ne 105, 3) := by decide +kernel
theorem d_Mo_unfold_97 : decode b_Mo_unfold 97 = .ok (.aload_n 0, 1) := by decide +kernel
theorem d_Mo_unfold_98 : decode b_Mo_unfold 98 = .ok (.getfield 47, 3) := by decide +kernel
theorem d_Mo_unfold_101 : decode b_Mo_unfold 101 = .ok (.iload 5, 2) := by decide +kernel
theorem d_Mo_unfold_103 : decode b_Mo_unfold 103 = .ok (.iaload, 1) := by decide +kernel
theorem d_Mo_unfold_104 : decode b_Mo_unfold 104 = .ok (.iconst 5, 1) := by decide +kernel
theorem d_Mo_unfold_105 : decode b_Mo_unfold 105 = .ok (.if_icmp .ne 94, 3) := by decide +kernel
theorem d_Mo_unfold_108 : decode b_Mo_unfold 108 = .ok (.aload_n 0, 1) := by decide +kernel
theorem d_Mo_unfold_109 : decode b_Mo_unfold 109 = .ok (.getfield 50, 3) := by decide +kernel
theorem d_Mo_unfold_112 : decode b_Mo_unfold 112 = .ok (.iload 5, 2) := by decide +kernel
theorem d_Mo_unfold_114 : decode b_Mo_unfold 114 = .ok (.iaload, 1) := by decide +kernel
theorem d_Mo_unfold_115 : decode b_Mo_unfold 115 = .ok (.iload_n 1, 1) := by decide +kernel
theorem d_Mo_unfold_116 : decode b_Mo_unfold 116 = .ok (.if_icmp .ne 83, 3) := by decide +kernel
theorem d_Mo_unfold_119 : decode b_Mo_unfold 119 = .ok (.aload_n 0, 1) := by decide +kernel
theorem d_Mo_unfold_120 : decode b_Mo_unfold 120 = .ok (.getfield 32, 3) := by decide +kernel
theorem d_Mo_unfold_123 : decode b_Mo_unfold 123 = .ok (.iload 4, 2) := by decide +kernel
theorem d_Mo_unfold_125 : decode b_Mo_unfold 125 = .ok (.bipush 40, 2) := by decide +kernel
theorem d_Mo_unfold_127 : decode b_Mo_unfold 127 = .ok (.iastore, 1) := by decide +kernel
theorem d_Mo_unfold_128 : decode b_Mo_unfold 128 = .ok (.iinc 4 1, 3) := by decide +kernel
theorem d_Mo_unfold_131 : decode b_Mo_unfold 131 = .ok (.aload_n 0, 1) := by decide +kernel
theorem d_Mo_unfold_132 : decode b_Mo_unfold 132 = .ok (.getfield 38, 3) := by decide +kernel
theorem d_Mo_unfold_135 : decode b_Mo_unfold 135 = .ok (.iload_n 2, 1) := by decide +kernel
theorem d_Mo_unfold_136 : decode b_Mo_unfold 136 = .ok (.iaload, 1) := by decide +kernel
theorem d_Mo_unfold_137 : decode b_Mo_unfold 137 = .ok (.istore 7, 2) := by decide +kernel
theorem d_Mo_unfold_139 : decode b_Mo_unfold 139 = .ok (.iload 7, 2) := by decide +kernel
theorem d_Mo_unfold_141 : decode b_Mo_unfold 141 = .ok (.aload_n 0, 1) := by decide +kernel
theorem d_Mo_unfold_142 : decode b_Mo_unfold 142 = .ok (.getfield 41, 3) := by decide +kernel
theorem d_Mo_unfold_145 : decode b_Mo_unfold 145 = .ok (.iload_n 3, 1) := by decide +kernel
theorem d_Mo_unfold_146 : decode b_Mo_unfold 146 = .ok (.iconst 1, 1) := by decide +kernel
theorem d_Mo_unfold_147 : decode b_Mo_unfold 147 = .ok (.isub, 1) := by decide +kernel
theorem d_Mo_unfold_148 : decode b_Mo_unfold 148 = .ok (.iaload, 1) := by decide +kernel
theorem d_Mo_unfold_149 : decode b_Mo_unfold 149 = .ok (.if_icmp .ge 26, 3) := by decide +kernel
theorem d_Mo_unfold_152 : decode b_Mo_unfold 152 = .ok (.aload_n 0, 1) := by decide +kernel
theorem d_Mo_unfold_153 : decode b_Mo_unfold 153 = .ok (.getfield 32, 3) := by decide +kernel
theorem d_Mo_unfold_156 : decode b_Mo_unfold 156 = .ok (.iload 4, 2) := by decide +kernel
theorem d_Mo_unfold_158 : decode b_Mo_unfold 158 = .ok (.aload_n 0, 1) := by decide +kernel
theorem d_Mo_unfold_159 : decode b_Mo_unfold 159 = .ok (.getfield 25, 3) := by decide +kernel
theorem d_Mo_unfold_162 : decode b_Mo_unfold 162 = .ok (.iload 7, 2) := by decide +kernel
theorem d_Mo_unfold_164 : decode b_Mo_unfold 164 = .ok (.iaload, 1) := by decide +kernel
theorem d_Mo_unfold_165 : decode b_Mo_unfold 165 = .ok (.iastore, 1) := by decide +kernel
theorem d_Mo_unfold_166 : decode b_Mo_unfold 166 = .ok (.iinc 4 1, 3) := by decide +kernel
theorem d_Mo_unfold_169 : decode b_Mo_unfold 169 = .ok (.iinc 7 1, 3) := by decide +kernel
theorem d_Mo_unfold_172 : decode b_Mo_unfold 172 = .ok (.goto (-33), 3) := by decide +kernel
theorem d_Mo_unfold_175 : decode b_Mo_unfold 175 = .ok (.aload_n 0, 1) := by decide +kernel
theorem d_Mo_unfold_176 : decode b_Mo_unfold 176 = .ok (.getfield 32, 3) := by decide +kernel
theorem d_Mo_unfold_179 : decode b_Mo_unfold 179 = .ok (.iload 4, 2) := by decide +kernel
theorem d_Mo_unfold_181 : decode b_Mo_unfold 181 = .ok (.bipush 41, 2) := by decide +kernel
theorem d_Mo_unfold_183 : decode b_Mo_unfold 183 = .ok (.iastore, 1) := by decide +kernel
theorem d_Mo_unfold_184 : decode b_Mo_unfold 184 = .ok (.iinc 4 1, 3) := by decide +kernel
theorem d_Mo_unfold_187 : decode b_Mo_unfold 187 = .ok (.aload_n 0, 1) := by decide +kernel
theorem d_Mo_unfold_188 : decode b_Mo_unfold 188 = .ok (.getfield 41, 3) := by decide +kernel
theorem d_Mo_unfold_191 : decode b_Mo_unfold 191 = .ok (.iload 5, 2) := by decide +kernel
theorem d_Mo_unfold_193 : decode b_Mo_unfold 193 = .ok (.iaload, 1) := by decide +kernel
theorem d_Mo_unfold_194 : decode b_Mo_unfold 194 = .ok (.istore 6, 2) := by decide +kernel
theorem d_Mo_unfold_196 : decode b_Mo_unfold 196 = .ok (.goto (-187), 3) := by decide +kernel
theorem d_Mo_unfold_199 : decode b_Mo_unfold 199 = .ok (.aload_n 0, 1) := by decide +kernel
theorem d_Mo_unfold_200 : decode b_Mo_unfold 200 = .ok (.getfield 32, 3) := by decide +kernel
theorem d_Mo_unfold_203 : decode b_Mo_unfold 203 = .ok (.iload 4, 2) := by decide +kernel
theorem d_Mo_unfold_205 : decode b_Mo_unfold 205 = .ok (.aload_n 0, 1) := by decide +kernel
theorem d_Mo_unfold_206 : decode b_Mo_unfold 206 = .ok (.getfield 25, 3) := by decide +kernel
theorem d_Mo_unfold_209 : decode b_Mo_unfold 209 = .ok (.iload 6, 2) := by decide +kernel
theorem d_Mo_unfold_211 : decode b_Mo_unfold 211 = .ok (.iaload, 1) := by decide +kernel
theorem d_Mo_unfold_212 : decode b_Mo_unfold 212 = .ok (.iastore, 1) := by decide +kernel
theorem d_Mo_unfold_213 : decode b_Mo_unfold 213 = .ok (.iinc 4 1, 3) := by decide +kernel
theorem d_Mo_unfold_216 : decode b_Mo_unfold 216 = .ok (.iinc 6 1, 3) := by decide +kernel
theorem d_Mo_unfold_219 : decode b_Mo_unfold 219 = .ok (.goto (-210), 3) := by decide +kernel
theorem d_Mo_unfold_222 : decode b_Mo_unfold 222 = .ok (.aload_n 0, 1) := by decide +kernel
theorem d_Mo_unfold_223 : decode b_Mo_unfold 223 = .ok (.iload 4, 2) := by decide +kernel
theorem d_Mo_unfold_225 : decode b_Mo_unfold 225 = .ok (.invokevirtual 295, 3) := by decide +kernel
theorem d_Mo_unfold_228 : decode b_Mo_unfold 228 = .ok (.return_, 1) := by decide +kernel
abbrev b_Mo_emit : ByteArray := prog_11_method_55_code
def y_Mo_emit : MethodName := ⟨"ProgramDeskModel", "emit", "(II)V"⟩
theorem d_Mo_emit_0 : decode b_Mo_emit 0 = .ok (.aload_n 0, 1) := by decide +kernel
theorem d_Mo_emit_1 : decode b_Mo_emit 1 = .ok (.getfield 93, 3) := by decide +kernel
theorem d_Mo_emit_4 : decode b_Mo_emit 4 = .ok (.aload_n 0, 1) := by decide +kernel
theorem d_Mo_emit_5 : decode b_Mo_emit 5 = .ok (.getfield 306, 3) := by decide +kernel
theorem d_Mo_emit_8 : decode b_Mo_emit 8 = .ok (.iload_n 1, 1) := by decide +kernel
theorem d_Mo_emit_9 : decode b_Mo_emit 9 = .ok (.iastore, 1) := by decide +kernel
theorem d_Mo_emit_10 : decode b_Mo_emit 10 = .ok (.aload_n 0, 1) := by decide +kernel
theorem d_Mo_emit_11 : decode b_Mo_emit 11 = .ok (.getfield 96, 3) := by decide +kernel
theorem d_Mo_emit_14 : decode b_Mo_emit 14 = .ok (.aload_n 0, 1) := by decide +kernel
theorem d_Mo_emit_15 : decode b_Mo_emit 15 = .ok (.getfield 306, 3) := by decide +kernel
theorem d_Mo_emit_18 : decode b_Mo_emit 18 = .ok (.iload_n 2, 1) := by decide +kernel
theorem d_Mo_emit_19 : decode b_Mo_emit 19 = .ok (.iastore, 1) := by decide +kernel
theorem d_Mo_emit_20 : decode b_Mo_emit 20 = .ok (.aload_n 0, 1) := by decide +kernel
theorem d_Mo_emit_21 : decode b_Mo_emit 21 = .ok (.dup, 1) := by decide +kernel
theorem d_Mo_emit_22 : decode b_Mo_emit 22 = .ok (.getfield 306, 3) := by decide +kernel
theorem d_Mo_emit_25 : decode b_Mo_emit 25 = .ok (.iconst 1, 1) := by decide +kernel
theorem d_Mo_emit_26 : decode b_Mo_emit 26 = .ok (.iadd, 1) := by decide +kernel
theorem d_Mo_emit_27 : decode b_Mo_emit 27 = .ok (.putfield 306, 3) := by decide +kernel
theorem d_Mo_emit_30 : decode b_Mo_emit 30 = .ok (.return_, 1) := by decide +kernel
abbrev b_Mo_rank : ByteArray := prog_11_method_56_code
def y_Mo_rank : MethodName := ⟨"ProgramDeskModel", "rank", "(I)I"⟩
theorem d_Mo_rank_0 : decode b_Mo_rank 0 = .ok (.iload_n 0, 1) := by decide +kernel
theorem d_Mo_rank_1 : decode b_Mo_rank 1 = .ok (.bipush 42, 2) := by decide +kernel
theorem d_Mo_rank_3 : decode b_Mo_rank 3 = .ok (.if_icmp .ne 7, 3) := by decide +kernel
theorem d_Mo_rank_6 : decode b_Mo_rank 6 = .ok (.iconst 3, 1) := by decide +kernel
theorem d_Mo_rank_7 : decode b_Mo_rank 7 = .ok (.goto 30, 3) := by decide +kernel
theorem d_Mo_rank_10 : decode b_Mo_rank 10 = .ok (.iload_n 0, 1) := by decide +kernel
theorem d_Mo_rank_11 : decode b_Mo_rank 11 = .ok (.bipush 43, 2) := by decide +kernel
theorem d_Mo_rank_13 : decode b_Mo_rank 13 = .ok (.if_icmp .eq 9, 3) := by decide +kernel
theorem d_Mo_rank_16 : decode b_Mo_rank 16 = .ok (.iload_n 0, 1) := by decide +kernel
theorem d_Mo_rank_17 : decode b_Mo_rank 17 = .ok (.bipush 45, 2) := by decide +kernel
theorem d_Mo_rank_19 : decode b_Mo_rank 19 = .ok (.if_icmp .ne 7, 3) := by decide +kernel
theorem d_Mo_rank_22 : decode b_Mo_rank 22 = .ok (.iconst 2, 1) := by decide +kernel
theorem d_Mo_rank_23 : decode b_Mo_rank 23 = .ok (.goto 14, 3) := by decide +kernel
theorem d_Mo_rank_26 : decode b_Mo_rank 26 = .ok (.iload_n 0, 1) := by decide +kernel
theorem d_Mo_rank_27 : decode b_Mo_rank 27 = .ok (.bipush 60, 2) := by decide +kernel
theorem d_Mo_rank_29 : decode b_Mo_rank 29 = .ok (.if_icmp .ne 7, 3) := by decide +kernel
theorem d_Mo_rank_32 : decode b_Mo_rank 32 = .ok (.iconst 1, 1) := by decide +kernel
theorem d_Mo_rank_33 : decode b_Mo_rank 33 = .ok (.goto 4, 3) := by decide +kernel
theorem d_Mo_rank_36 : decode b_Mo_rank 36 = .ok (.iconst 0, 1) := by decide +kernel
theorem d_Mo_rank_37 : decode b_Mo_rank 37 = .ok (.ireturn, 1) := by decide +kernel
abbrev b_Mo_settle : ByteArray := prog_11_method_57_code
def y_Mo_settle : MethodName := ⟨"ProgramDeskModel", "settle", "(I)V"⟩
theorem d_Mo_settle_0 : decode b_Mo_settle 0 = .ok (.aload_n 0, 1) := by decide +kernel
theorem d_Mo_settle_1 : decode b_Mo_settle 1 = .ok (.getfield 309, 3) := by decide +kernel
theorem d_Mo_settle_4 : decode b_Mo_settle 4 = .ok (.ifCond .le 51, 3) := by decide +kernel
theorem d_Mo_settle_7 : decode b_Mo_settle 7 = .ok (.aload_n 0, 1) := by decide +kernel
theorem d_Mo_settle_8 : decode b_Mo_settle 8 = .ok (.getfield 105, 3) := by decide +kernel
theorem d_Mo_settle_11 : decode b_Mo_settle 11 = .ok (.aload_n 0, 1) := by decide +kernel
theorem d_Mo_settle_12 : decode b_Mo_settle 12 = .ok (.getfield 309, 3) := by decide +kernel
theorem d_Mo_settle_15 : decode b_Mo_settle 15 = .ok (.iconst 1, 1) := by decide +kernel
theorem d_Mo_settle_16 : decode b_Mo_settle 16 = .ok (.isub, 1) := by decide +kernel
theorem d_Mo_settle_17 : decode b_Mo_settle 17 = .ok (.iaload, 1) := by decide +kernel
theorem d_Mo_settle_18 : decode b_Mo_settle 18 = .ok (.invokestatic 312, 3) := by decide +kernel
theorem d_Mo_settle_21 : decode b_Mo_settle 21 = .ok (.iload_n 1, 1) := by decide +kernel
theorem d_Mo_settle_22 : decode b_Mo_settle 22 = .ok (.if_icmp .lt 33, 3) := by decide +kernel
theorem d_Mo_settle_25 : decode b_Mo_settle 25 = .ok (.aload_n 0, 1) := by decide +kernel
theorem d_Mo_settle_26 : decode b_Mo_settle 26 = .ok (.dup, 1) := by decide +kernel
theorem d_Mo_settle_27 : decode b_Mo_settle 27 = .ok (.getfield 309, 3) := by decide +kernel
theorem d_Mo_settle_30 : decode b_Mo_settle 30 = .ok (.iconst 1, 1) := by decide +kernel
theorem d_Mo_settle_31 : decode b_Mo_settle 31 = .ok (.isub, 1) := by decide +kernel
theorem d_Mo_settle_32 : decode b_Mo_settle 32 = .ok (.putfield 309, 3) := by decide +kernel
theorem d_Mo_settle_35 : decode b_Mo_settle 35 = .ok (.aload_n 0, 1) := by decide +kernel
theorem d_Mo_settle_36 : decode b_Mo_settle 36 = .ok (.bipush 100, 2) := by decide +kernel
theorem d_Mo_settle_38 : decode b_Mo_settle 38 = .ok (.aload_n 0, 1) := by decide +kernel
theorem d_Mo_settle_39 : decode b_Mo_settle 39 = .ok (.getfield 105, 3) := by decide +kernel
theorem d_Mo_settle_42 : decode b_Mo_settle 42 = .ok (.aload_n 0, 1) := by decide +kernel
theorem d_Mo_settle_43 : decode b_Mo_settle 43 = .ok (.getfield 309, 3) := by decide +kernel
theorem d_Mo_settle_46 : decode b_Mo_settle 46 = .ok (.iaload, 1) := by decide +kernel
theorem d_Mo_settle_47 : decode b_Mo_settle 47 = .ok (.iadd, 1) := by decide +kernel
theorem d_Mo_settle_48 : decode b_Mo_settle 48 = .ok (.iconst 0, 1) := by decide +kernel
theorem d_Mo_settle_49 : decode b_Mo_settle 49 = .ok (.invokevirtual 315, 3) := by decide +kernel
theorem d_Mo_settle_52 : decode b_Mo_settle 52 = .ok (.goto (-52), 3) := by decide +kernel
theorem d_Mo_settle_55 : decode b_Mo_settle 55 = .ok (.return_, 1) := by decide +kernel
abbrev b_Mo_queue : ByteArray := prog_11_method_58_code
def y_Mo_queue : MethodName := ⟨"ProgramDeskModel", "queue", "(II)V"⟩
theorem d_Mo_queue_0 : decode b_Mo_queue 0 = .ok (.aload_n 0, 1) := by decide +kernel
theorem d_Mo_queue_1 : decode b_Mo_queue 1 = .ok (.getfield 105, 3) := by decide +kernel
theorem d_Mo_queue_4 : decode b_Mo_queue 4 = .ok (.aload_n 0, 1) := by decide +kernel
theorem d_Mo_queue_5 : decode b_Mo_queue 5 = .ok (.getfield 309, 3) := by decide +kernel
theorem d_Mo_queue_8 : decode b_Mo_queue 8 = .ok (.iload_n 1, 1) := by decide +kernel
theorem d_Mo_queue_9 : decode b_Mo_queue 9 = .ok (.iastore, 1) := by decide +kernel
theorem d_Mo_queue_10 : decode b_Mo_queue 10 = .ok (.aload_n 0, 1) := by decide +kernel
theorem d_Mo_queue_11 : decode b_Mo_queue 11 = .ok (.getfield 108, 3) := by decide +kernel
theorem d_Mo_queue_14 : decode b_Mo_queue 14 = .ok (.aload_n 0, 1) := by decide +kernel
theorem d_Mo_queue_15 : decode b_Mo_queue 15 = .ok (.getfield 309, 3) := by decide +kernel
theorem d_Mo_queue_18 : decode b_Mo_queue 18 = .ok (.iload_n 2, 1) := by decide +kernel
theorem d_Mo_queue_19 : decode b_Mo_queue 19 = .ok (.iastore, 1) := by decide +kernel
theorem d_Mo_queue_20 : decode b_Mo_queue 20 = .ok (.aload_n 0, 1) := by decide +kernel
theorem d_Mo_queue_21 : decode b_Mo_queue 21 = .ok (.dup, 1) := by decide +kernel
theorem d_Mo_queue_22 : decode b_Mo_queue 22 = .ok (.getfield 309, 3) := by decide +kernel
theorem d_Mo_queue_25 : decode b_Mo_queue 25 = .ok (.iconst 1, 1) := by decide +kernel
theorem d_Mo_queue_26 : decode b_Mo_queue 26 = .ok (.iadd, 1) := by decide +kernel
theorem d_Mo_queue_27 : decode b_Mo_queue 27 = .ok (.putfield 309, 3) := by decide +kernel
theorem d_Mo_queue_30 : decode b_Mo_queue 30 = .ok (.return_, 1) := by decide +kernel
abbrev b_Mo_compile : ByteArray := prog_11_method_59_code
def y_Mo_compile : MethodName := ⟨"ProgramDeskModel", "compile", "(I)I"⟩
theorem d_Mo_compile_0 : decode b_Mo_compile 0 = .ok (.aload_n 0, 1) := by decide +kernel
theorem d_Mo_compile_1 : decode b_Mo_compile 1 = .ok (.iconst 0, 1) := by decide +kernel
theorem d_Mo_compile_2 : decode b_Mo_compile 2 = .ok (.putfield 309, 3) := by decide +kernel
theorem d_Mo_compile_5 : decode b_Mo_compile 5 = .ok (.iload_n 1, 1) := by decide +kernel
theorem d_Mo_compile_6 : decode b_Mo_compile 6 = .ok (.istore_n 2, 1) := by decide +kernel
theorem d_Mo_compile_7 : decode b_Mo_compile 7 = .ok (.iconst 1, 1) := by decide +kernel
theorem d_Mo_compile_8 : decode b_Mo_compile 8 = .ok (.istore_n 3, 1) := by decide +kernel
theorem d_Mo_compile_9 : decode b_Mo_compile 9 = .ok (.iload_n 3, 1) := by decide +kernel
theorem d_Mo_compile_10 : decode b_Mo_compile 10 = .ok (.ifCond .eq 236, 3) := by decide +kernel
theorem d_Mo_compile_13 : decode b_Mo_compile 13 = .ok (.aload_n 0, 1) := by decide +kernel
theorem d_Mo_compile_14 : decode b_Mo_compile 14 = .ok (.getfield 25, 3) := by decide +kernel
theorem d_Mo_compile_17 : decode b_Mo_compile 17 = .ok (.aload_n 0, 1) := by decide +kernel
theorem d_Mo_compile_18 : decode b_Mo_compile 18 = .ok (.getfield 38, 3) := by decide +kernel
theorem d_Mo_compile_21 : decode b_Mo_compile 21 = .ok (.iload_n 2, 1) := by decide +kernel
theorem d_Mo_compile_22 : decode b_Mo_compile 22 = .ok (.iaload, 1) := by decide +kernel
theorem d_Mo_compile_23 : decode b_Mo_compile 23 = .ok (.iaload, 1) := by decide +kernel
theorem d_Mo_compile_24 : decode b_Mo_compile 24 = .ok (.istore 4, 2) := by decide +kernel
theorem d_Mo_compile_26 : decode b_Mo_compile 26 = .ok (.aload_n 0, 1) := by decide +kernel
theorem d_Mo_compile_27 : decode b_Mo_compile 27 = .ok (.getfield 35, 3) := by decide +kernel
theorem d_Mo_compile_30 : decode b_Mo_compile 30 = .ok (.iload_n 2, 1) := by decide +kernel
theorem d_Mo_compile_31 : decode b_Mo_compile 31 = .ok (.iaload, 1) := by decide +kernel
theorem d_Mo_compile_32 : decode b_Mo_compile 32 = .ok (.iconst 3, 1) := by decide +kernel
theorem d_Mo_compile_33 : decode b_Mo_compile 33 = .ok (.if_icmp .ne 18, 3) := by decide +kernel
theorem d_Mo_compile_36 : decode b_Mo_compile 36 = .ok (.aload_n 0, 1) := by decide +kernel
theorem d_Mo_compile_37 : decode b_Mo_compile 37 = .ok (.iconst 0, 1) := by decide +kernel
theorem d_Mo_compile_38 : decode b_Mo_compile 38 = .ok (.aload_n 0, 1) := by decide +kernel
theorem d_Mo_compile_39 : decode b_Mo_compile 39 = .ok (.getfield 44, 3) := by decide +kernel
theorem d_Mo_compile_42 : decode b_Mo_compile 42 = .ok (.iload_n 2, 1) := by decide +kernel
theorem d_Mo_compile_43 : decode b_Mo_compile 43 = .ok (.laload, 1) := by decide +kernel
theorem d_Mo_compile_44 : decode b_Mo_compile 44 = .ok (.l2i, 1) := by decide +kernel
theorem d_Mo_compile_45 : decode b_Mo_compile 45 = .ok (.invokevirtual 315, 3) := by decide +kernel
theorem d_Mo_compile_48 : decode b_Mo_compile 48 = .ok (.goto 183, 3) := by decide +kernel
theorem d_Mo_compile_51 : decode b_Mo_compile 51 = .ok (.aload_n 0, 1) := by decide +kernel
theorem d_Mo_compile_52 : decode b_Mo_compile 52 = .ok (.getfield 47, 3) := by decide +kernel
theorem d_Mo_compile_55 : decode b_Mo_compile 55 = .ok (.iload_n 2, 1) := by decide +kernel
theorem d_Mo_compile_56 : decode b_Mo_compile 56 = .ok (.iaload, 1) := by decide +kernel
theorem d_Mo_compile_57 : decode b_Mo_compile 57 = .ok (.iconst 5, 1) := by decide +kernel
theorem d_Mo_compile_58 : decode b_Mo_compile 58 = .ok (.if_icmp .ne 22, 3) := by decide +kernel
theorem d_Mo_compile_61 : decode b_Mo_compile 61 = .ok (.aload_n 0, 1) := by decide +kernel
theorem d_Mo_compile_62 : decode b_Mo_compile 62 = .ok (.iconst 1, 1) := by decide +kernel
theorem d_Mo_compile_63 : decode b_Mo_compile 63 = .ok (.aload_n 0, 1) := by decide +kernel
theorem d_Mo_compile_64 : decode b_Mo_compile 64 = .ok (.getfield 102, 3) := by decide +kernel
theorem d_Mo_compile_67 : decode b_Mo_compile 67 = .ok (.aload_n 0, 1) := by decide +kernel
theorem d_Mo_compile_68 : decode b_Mo_compile 68 = .ok (.getfield 50, 3) := by decide +kernel
theorem d_Mo_compile_71 : decode b_Mo_compile 71 = .ok (.iload_n 2, 1) := by decide +kernel
theorem d_Mo_compile_72 : decode b_Mo_compile 72 = .ok (.iaload, 1) := by decide +kernel
theorem d_Mo_compile_73 : decode b_Mo_compile 73 = .ok (.iaload, 1) := by decide +kernel
theorem d_Mo_compile_74 : decode b_Mo_compile 74 = .ok (.invokevirtual 315, 3) := by decide +kernel
theorem d_Mo_compile_77 : decode b_Mo_compile 77 = .ok (.goto 154, 3) := by decide +kernel
theorem d_Mo_compile_80 : decode b_Mo_compile 80 = .ok (.aload_n 0, 1) := by decide +kernel
theorem d_Mo_compile_81 : decode b_Mo_compile 81 = .ok (.getfield 47, 3) := by decide +kernel
theorem d_Mo_compile_84 : decode b_Mo_compile 84 = .ok (.iload_n 2, 1) := by decide +kernel
theorem d_Mo_compile_85 : decode b_Mo_compile 85 = .ok (.iaload, 1) := by decide +kernel
theorem d_Mo_compile_86 : decode b_Mo_compile 86 = .ok (.bipush 6, 2) := by decide +kernel
theorem d_Mo_compile_88 : decode b_Mo_compile 88 = .ok (.if_icmp .ne 25, 3) := by decide +kernel
theorem d_Mo_compile_91 : decode b_Mo_compile 91 = .ok (.aload_n 0, 1) := by decide +kernel
theorem d_Mo_compile_92 : decode b_Mo_compile 92 = .ok (.bipush 40, 2) := by decide +kernel
theorem d_Mo_compile_94 : decode b_Mo_compile 94 = .ok (.aload_n 0, 1) := by decide +kernel
theorem d_Mo_compile_95 : decode b_Mo_compile 95 = .ok (.aload_n 0, 1) := by decide +kernel
theorem d_Mo_compile_96 : decode b_Mo_compile 96 = .ok (.getfield 50, 3) := by decide +kernel
theorem d_Mo_compile_99 : decode b_Mo_compile 99 = .ok (.iload_n 2, 1) := by decide +kernel
theorem d_Mo_compile_100 : decode b_Mo_compile 100 = .ok (.iaload, 1) := by decide +kernel
theorem d_Mo_compile_101 : decode b_Mo_compile 101 = .ok (.invokevirtual 253, 3) := by decide +kernel
theorem d_Mo_compile_104 : decode b_Mo_compile 104 = .ok (.invokevirtual 318, 3) := by decide +kernel
theorem d_Mo_compile_107 : decode b_Mo_compile 107 = .ok (.iinc 2 1, 3) := by decide +kernel
theorem d_Mo_compile_110 : decode b_Mo_compile 110 = .ok (.goto 121, 3) := by decide +kernel
theorem d_Mo_compile_113 : decode b_Mo_compile 113 = .ok (.iload 4, 2) := by decide +kernel
theorem d_Mo_compile_115 : decode b_Mo_compile 115 = .ok (.bipush 40, 2) := by decide +kernel
theorem d_Mo_compile_117 : decode b_Mo_compile 117 = .ok (.if_icmp .ne 13, 3) := by decide +kernel
theorem d_Mo_compile_120 : decode b_Mo_compile 120 = .ok (.aload_n 0, 1) := by decide +kernel
theorem d_Mo_compile_121 : decode b_Mo_compile 121 = .ok (.bipush 40, 2) := by decide +kernel
theorem d_Mo_compile_123 : decode b_Mo_compile 123 = .ok (.iconst (-1), 1) := by decide +kernel
theorem d_Mo_compile_124 : decode b_Mo_compile 124 = .ok (.invokevirtual 318, 3) := by decide +kernel
theorem d_Mo_compile_127 : decode b_Mo_compile 127 = .ok (.goto 104, 3) := by decide +kernel
theorem d_Mo_compile_130 : decode b_Mo_compile 130 = .ok (.iload 4, 2) := by decide +kernel
theorem d_Mo_compile_132 : decode b_Mo_compile 132 = .ok (.bipush 44, 2) := by decide +kernel
theorem d_Mo_compile_134 : decode b_Mo_compile 134 = .ok (.if_icmp .ne 11, 3) := by decide +kernel
theorem d_Mo_compile_137 : decode b_Mo_compile 137 = .ok (.aload_n 0, 1) := by decide +kernel
theorem d_Mo_compile_138 : decode b_Mo_compile 138 = .ok (.iconst 1, 1) := by decide +kernel
theorem d_Mo_compile_139 : decode b_Mo_compile 139 = .ok (.invokevirtual 321, 3) := by decide +kernel
theorem d_Mo_compile_142 : decode b_Mo_compile 142 = .ok (.goto 89, 3) := by decide +kernel
theorem d_Mo_compile_145 : decode b_Mo_compile 145 = .ok (.iload 4, 2) := by decide +kernel
theorem d_Mo_compile_147 : decode b_Mo_compile 147 = .ok (.bipush 41, 2) := by decide +kernel
theorem d_Mo_compile_149 : decode b_Mo_compile 149 = .ok (.if_icmp .ne 48, 3) := by decide +kernel
theorem d_Mo_compile_152 : decode b_Mo_compile 152 = .ok (.aload_n 0, 1) := by decide +kernel
theorem d_Mo_compile_153 : decode b_Mo_compile 153 = .ok (.iconst 1, 1) := by decide +kernel
theorem d_Mo_compile_154 : decode b_Mo_compile 154 = .ok (.invokevirtual 321, 3) := by decide +kernel
theorem d_Mo_compile_157 : decode b_Mo_compile 157 = .ok (.aload_n 0, 1) := by decide +kernel
theorem d_Mo_compile_158 : decode b_Mo_compile 158 = .ok (.dup, 1) := by decide +kernel
theorem d_Mo_compile_159 : decode b_Mo_compile 159 = .ok (.getfield 309, 3) := by decide +kernel
theorem d_Mo_compile_162 : decode b_Mo_compile 162 = .ok (.iconst 1, 1) := by decide +kernel
theorem d_Mo_compile_163 : decode b_Mo_compile 163 = .ok (.isub, 1) := by decide +kernel
theorem d_Mo_compile_164 : decode b_Mo_compile 164 = .ok (.putfield 309, 3) := by decide +kernel
theorem d_Mo_compile_167 : decode b_Mo_compile 167 = .ok (.aload_n 0, 1) := by decide +kernel
theorem d_Mo_compile_168 : decode b_Mo_compile 168 = .ok (.getfield 108, 3) := by decide +kernel
theorem d_Mo_compile_171 : decode b_Mo_compile 171 = .ok (.aload_n 0, 1) := by decide +kernel
theorem d_Mo_compile_172 : decode b_Mo_compile 172 = .ok (.getfield 309, 3) := by decide +kernel
theorem d_Mo_compile_175 : decode b_Mo_compile 175 = .ok (.iaload, 1) := by decide +kernel
theorem d_Mo_compile_176 : decode b_Mo_compile 176 = .ok (.ifCond .lt 55, 3) := by decide +kernel
theorem d_Mo_compile_179 : decode b_Mo_compile 179 = .ok (.aload_n 0, 1) := by decide +kernel
theorem d_Mo_compile_180 : decode b_Mo_compile 180 = .ok (.bipush 7, 2) := by decide +kernel
theorem d_Mo_compile_182 : decode b_Mo_compile 182 = .ok (.aload_n 0, 1) := by decide +kernel
theorem d_Mo_compile_183 : decode b_Mo_compile 183 = .ok (.getfield 108, 3) := by decide +kernel
theorem d_Mo_compile_186 : decode b_Mo_compile 186 = .ok (.aload_n 0, 1) := by decide +kernel
theorem d_Mo_compile_187 : decode b_Mo_compile 187 = .ok (.getfield 309, 3) := by decide +kernel
theorem d_Mo_compile_190 : decode b_Mo_compile 190 = .ok (.iaload, 1) := by decide +kernel
theorem d_Mo_compile_191 : decode b_Mo_compile 191 = .ok (.invokevirtual 315, 3) := by decide +kernel
theorem d_Mo_compile_194 : decode b_Mo_compile 194 = .ok (.goto 37, 3) := by decide +kernel
theorem d_Mo_compile_197 : decode b_Mo_compile 197 = .ok (.iload 4, 2) := by decide +kernel
theorem d_Mo_compile_199 : decode b_Mo_compile 199 = .ok (.invokestatic 312, 3) := by decide +kernel
theorem d_Mo_compile_202 : decode b_Mo_compile 202 = .ok (.ifCond .le 22, 3) := by decide +kernel
theorem d_Mo_compile_205 : decode b_Mo_compile 205 = .ok (.aload_n 0, 1) := by decide +kernel
theorem d_Mo_compile_206 : decode b_Mo_compile 206 = .ok (.iload 4, 2) := by decide +kernel
theorem d_Mo_compile_208 : decode b_Mo_compile 208 = .ok (.invokestatic 312, 3) := by decide +kernel
theorem d_Mo_compile_211 : decode b_Mo_compile 211 = .ok (.invokevirtual 321, 3) := by decide +kernel
theorem d_Mo_compile_214 : decode b_Mo_compile 214 = .ok (.aload_n 0, 1) := by decide +kernel
theorem d_Mo_compile_215 : decode b_Mo_compile 215 = .ok (.iload 4, 2) := by decide +kernel
theorem d_Mo_compile_217 : decode b_Mo_compile 217 = .ok (.iconst (-1), 1) := by decide +kernel
theorem d_Mo_compile_218 : decode b_Mo_compile 218 = .ok (.invokevirtual 318, 3) := by decide +kernel
theorem d_Mo_compile_221 : decode b_Mo_compile 221 = .ok (.goto 10, 3) := by decide +kernel
theorem d_Mo_compile_224 : decode b_Mo_compile 224 = .ok (.aload_n 0, 1) := by decide +kernel
theorem d_Mo_compile_225 : decode b_Mo_compile 225 = .ok (.iconst 1, 1) := by decide +kernel
theorem d_Mo_compile_226 : decode b_Mo_compile 226 = .ok (.invokevirtual 321, 3) := by decide +kernel
theorem d_Mo_compile_229 : decode b_Mo_compile 229 = .ok (.iconst 0, 1) := by decide +kernel
theorem d_Mo_compile_230 : decode b_Mo_compile 230 = .ok (.istore_n 3, 1) := by decide +kernel
theorem d_Mo_compile_231 : decode b_Mo_compile 231 = .ok (.iload_n 3, 1) := by decide +kernel
theorem d_Mo_compile_232 : decode b_Mo_compile 232 = .ok (.ifCond .eq 9, 3) := by decide +kernel
theorem d_Mo_compile_235 : decode b_Mo_compile 235 = .ok (.iload_n 2, 1) := by decide +kernel
theorem d_Mo_compile_236 : decode b_Mo_compile 236 = .ok (.iconst 1, 1) := by decide +kernel
theorem d_Mo_compile_237 : decode b_Mo_compile 237 = .ok (.iadd, 1) := by decide +kernel
theorem d_Mo_compile_238 : decode b_Mo_compile 238 = .ok (.goto 4, 3) := by decide +kernel
theorem d_Mo_compile_241 : decode b_Mo_compile 241 = .ok (.iload_n 2, 1) := by decide +kernel
theorem d_Mo_compile_242 : decode b_Mo_compile 242 = .ok (.istore_n 2, 1) := by decide +kernel
theorem d_Mo_compile_243 : decode b_Mo_compile 243 = .ok (.goto (-234), 3) := by decide +kernel
theorem d_Mo_compile_246 : decode b_Mo_compile 246 = .ok (.iload_n 2, 1) := by decide +kernel
theorem d_Mo_compile_247 : decode b_Mo_compile 247 = .ok (.ireturn, 1) := by decide +kernel
abbrev b_Mo_function : ByteArray := prog_11_method_60_code
def y_Mo_function : MethodName := ⟨"ProgramDeskModel", "function", "(I)V"⟩
theorem d_Mo_function_0 : decode b_Mo_function 0 = .ok (.aload_n 0, 1) := by decide +kernel
theorem d_Mo_function_1 : decode b_Mo_function 1 = .ok (.getfield 99, 3) := by decide +kernel
theorem d_Mo_function_4 : decode b_Mo_function 4 = .ok (.iload_n 1, 1) := by decide +kernel
theorem d_Mo_function_5 : decode b_Mo_function 5 = .ok (.aload_n 0, 1) := by decide +kernel
theorem d_Mo_function_6 : decode b_Mo_function 6 = .ok (.getfield 306, 3) := by decide +kernel
theorem d_Mo_function_9 : decode b_Mo_function 9 = .ok (.iastore, 1) := by decide +kernel
theorem d_Mo_function_10 : decode b_Mo_function 10 = .ok (.iconst 0, 1) := by decide +kernel
theorem d_Mo_function_11 : decode b_Mo_function 11 = .ok (.istore_n 2, 1) := by decide +kernel
theorem d_Mo_function_12 : decode b_Mo_function 12 = .ok (.aload_n 0, 1) := by decide +kernel
theorem d_Mo_function_13 : decode b_Mo_function 13 = .ok (.getfield 68, 3) := by decide +kernel
theorem d_Mo_function_16 : decode b_Mo_function 16 = .ok (.iload_n 1, 1) := by decide +kernel
theorem d_Mo_function_17 : decode b_Mo_function 17 = .ok (.iaload, 1) := by decide +kernel
theorem d_Mo_function_18 : decode b_Mo_function 18 = .ok (.istore_n 3, 1) := by decide +kernel
theorem d_Mo_function_19 : decode b_Mo_function 19 = .ok (.iload_n 3, 1) := by decide +kernel
theorem d_Mo_function_20 : decode b_Mo_function 20 = .ok (.aload_n 0, 1) := by decide +kernel
theorem d_Mo_function_21 : decode b_Mo_function 21 = .ok (.getfield 71, 3) := by decide +kernel
theorem d_Mo_function_24 : decode b_Mo_function 24 = .ok (.iload_n 1, 1) := by decide +kernel
theorem d_Mo_function_25 : decode b_Mo_function 25 = .ok (.iaload, 1) := by decide +kernel
theorem d_Mo_function_26 : decode b_Mo_function 26 = .ok (.if_icmp .ge 39, 3) := by decide +kernel
theorem d_Mo_function_29 : decode b_Mo_function 29 = .ok (.aload_n 0, 1) := by decide +kernel
theorem d_Mo_function_30 : decode b_Mo_function 30 = .ok (.getfield 47, 3) := by decide +kernel
theorem d_Mo_function_33 : decode b_Mo_function 33 = .ok (.iload_n 3, 1) := by decide +kernel
theorem d_Mo_function_34 : decode b_Mo_function 34 = .ok (.iaload, 1) := by decide +kernel
theorem d_Mo_function_35 : decode b_Mo_function 35 = .ok (.iconst 2, 1) := by decide +kernel
theorem d_Mo_function_36 : decode b_Mo_function 36 = .ok (.if_icmp .eq 13, 3) := by decide +kernel
theorem d_Mo_function_39 : decode b_Mo_function 39 = .ok (.aload_n 0, 1) := by decide +kernel
theorem d_Mo_function_40 : decode b_Mo_function 40 = .ok (.getfield 47, 3) := by decide +kernel
theorem d_Mo_function_43 : decode b_Mo_function 43 = .ok (.iload_n 3, 1) := by decide +kernel
theorem d_Mo_function_44 : decode b_Mo_function 44 = .ok (.iaload, 1) := by decide +kernel
theorem d_Mo_function_45 : decode b_Mo_function 45 = .ok (.iconst 3, 1) := by decide +kernel
theorem d_Mo_function_46 : decode b_Mo_function 46 = .ok (.if_icmp .ne 13, 3) := by decide +kernel
theorem d_Mo_function_49 : decode b_Mo_function 49 = .ok (.aload_n 0, 1) := by decide +kernel
theorem d_Mo_function_50 : decode b_Mo_function 50 = .ok (.getfield 102, 3) := by decide +kernel
theorem d_Mo_function_53 : decode b_Mo_function 53 = .ok (.iload_n 3, 1) := by decide +kernel
theorem d_Mo_function_54 : decode b_Mo_function 54 = .ok (.iload_n 2, 1) := by decide +kernel
theorem d_Mo_function_55 : decode b_Mo_function 55 = .ok (.iastore, 1) := by decide +kernel
theorem d_Mo_function_56 : decode b_Mo_function 56 = .ok (.iinc 2 1, 3) := by decide +kernel
theorem d_Mo_function_59 : decode b_Mo_function 59 = .ok (.iinc 3 1, 3) := by decide +kernel
theorem d_Mo_function_62 : decode b_Mo_function 62 = .ok (.goto (-43), 3) := by decide +kernel
theorem d_Mo_function_65 : decode b_Mo_function 65 = .ok (.aload_n 0, 1) := by decide +kernel
theorem d_Mo_function_66 : decode b_Mo_function 66 = .ok (.getfield 68, 3) := by decide +kernel
theorem d_Mo_function_69 : decode b_Mo_function 69 = .ok (.iload_n 1, 1) := by decide +kernel
theorem d_Mo_function_70 : decode b_Mo_function 70 = .ok (.iaload, 1) := by decide +kernel
theorem d_Mo_function_71 : decode b_Mo_function 71 = .ok (.istore_n 3, 1) := by decide +kernel
theorem d_Mo_function_72 : decode b_Mo_function 72 = .ok (.aload_n 0, 1) := by decide +kernel
theorem d_Mo_function_73 : decode b_Mo_function 73 = .ok (.iload_n 3, 1) := by decide +kernel
theorem d_Mo_function_74 : decode b_Mo_function 74 = .ok (.bipush 123, 2) := by decide +kernel
theorem d_Mo_function_76 : decode b_Mo_function 76 = .ok (.invokevirtual 193, 3) := by decide +kernel
theorem d_Mo_function_79 : decode b_Mo_function 79 = .ok (.ifCond .ne 9, 3) := by decide +kernel
theorem d_Mo_function_82 : decode b_Mo_function 82 = .ok (.iinc 3 1, 3) := by decide +kernel
theorem d_Mo_function_85 : decode b_Mo_function 85 = .ok (.goto (-13), 3) := by decide +kernel
theorem d_Mo_function_88 : decode b_Mo_function 88 = .ok (.iconst 0, 1) := by decide +kernel
theorem d_Mo_function_89 : decode b_Mo_function 89 = .ok (.istore 4, 2) := by decide +kernel
theorem d_Mo_function_91 : decode b_Mo_function 91 = .ok (.iload_n 3, 1) := by decide +kernel
theorem d_Mo_function_92 : decode b_Mo_function 92 = .ok (.aload_n 0, 1) := by decide +kernel
theorem d_Mo_function_93 : decode b_Mo_function 93 = .ok (.getfield 71, 3) := by decide +kernel
theorem d_Mo_function_96 : decode b_Mo_function 96 = .ok (.iload_n 1, 1) := by decide +kernel
theorem d_Mo_function_97 : decode b_Mo_function 97 = .ok (.iaload, 1) := by decide +kernel
theorem d_Mo_function_98 : decode b_Mo_function 98 = .ok (.if_icmp .ge 281, 3) := by decide +kernel
theorem d_Mo_function_101 : decode b_Mo_function 101 = .ok (.aload_n 0, 1) := by decide +kernel
theorem d_Mo_function_102 : decode b_Mo_function 102 = .ok (.getfield 35, 3) := by decide +kernel
theorem d_Mo_function_105 : decode b_Mo_function 105 = .ok (.iload_n 3, 1) := by decide +kernel
theorem d_Mo_function_106 : decode b_Mo_function 106 = .ok (.iaload, 1) := by decide +kernel
theorem d_Mo_function_107 : decode b_Mo_function 107 = .ok (.iconst 1, 1) := by decide +kernel
theorem d_Mo_function_108 : decode b_Mo_function 108 = .ok (.if_icmp .ne 16, 3) := by decide +kernel
theorem d_Mo_function_111 : decode b_Mo_function 111 = .ok (.aload_n 0, 1) := by decide +kernel
theorem d_Mo_function_112 : decode b_Mo_function 112 = .ok (.aload_n 0, 1) := by decide +kernel
theorem d_Mo_function_113 : decode b_Mo_function 113 = .ok (.getfield 44, 3) := by decide +kernel
theorem d_Mo_function_116 : decode b_Mo_function 116 = .ok (.iload_n 3, 1) := by decide +kernel
theorem d_Mo_function_117 : decode b_Mo_function 117 = .ok (.laload, 1) := by decide +kernel
theorem d_Mo_function_118 : decode b_Mo_function 118 = .ok (.invokevirtual 168, 3) := by decide +kernel
theorem d_Mo_function_121 : decode b_Mo_function 121 = .ok (.goto 4, 3) := by decide +kernel
theorem d_Mo_function_124 : decode b_Mo_function 124 = .ok (.iconst 0, 1) := by decide +kernel
theorem d_Mo_function_125 : decode b_Mo_function 125 = .ok (.istore 5, 2) := by decide +kernel
theorem d_Mo_function_127 : decode b_Mo_function 127 = .ok (.aload_n 0, 1) := by decide +kernel
theorem d_Mo_function_128 : decode b_Mo_function 128 = .ok (.iload_n 3, 1) := by decide +kernel
theorem d_Mo_function_129 : decode b_Mo_function 129 = .ok (.bipush 123, 2) := by decide +kernel
theorem d_Mo_function_131 : decode b_Mo_function 131 = .ok (.invokevirtual 193, 3) := by decide +kernel
theorem d_Mo_function_134 : decode b_Mo_function 134 = .ok (.ifCond .eq 17, 3) := by decide +kernel
theorem d_Mo_function_137 : decode b_Mo_function 137 = .ok (.aload_n 0, 1) := by decide +kernel
theorem d_Mo_function_138 : decode b_Mo_function 138 = .ok (.getfield 111, 3) := by decide +kernel
theorem d_Mo_function_141 : decode b_Mo_function 141 = .ok (.iload 4, 2) := by decide +kernel
theorem d_Mo_function_143 : decode b_Mo_function 143 = .ok (.iconst 0, 1) := by decide +kernel
theorem d_Mo_function_144 : decode b_Mo_function 144 = .ok (.iastore, 1) := by decide +kernel
theorem d_Mo_function_145 : decode b_Mo_function 145 = .ok (.iinc 4 1, 3) := by decide +kernel
theorem d_Mo_function_148 : decode b_Mo_function 148 = .ok (.goto 225, 3) := by decide +kernel
theorem d_Mo_function_151 : decode b_Mo_function 151 = .ok (.aload_n 0, 1) := by decide +kernel
theorem d_Mo_function_152 : decode b_Mo_function 152 = .ok (.iload_n 3, 1) := by decide +kernel
theorem d_Mo_function_153 : decode b_Mo_function 153 = .ok (.bipush 125, 2) := by decide +kernel
theorem d_Mo_function_155 : decode b_Mo_function 155 = .ok (.invokevirtual 193, 3) := by decide +kernel
theorem d_Mo_function_158 : decode b_Mo_function 158 = .ok (.ifCond .eq 59, 3) := by decide +kernel
theorem d_Mo_function_161 : decode b_Mo_function 161 = .ok (.iinc 4 (-1), 3) := by decide +kernel
theorem d_Mo_function_164 : decode b_Mo_function 164 = .ok (.aload_n 0, 1) := by decide +kernel
theorem d_Mo_function_165 : decode b_Mo_function 165 = .ok (.getfield 111, 3) := by decide +kernel
theorem d_Mo_function_168 : decode b_Mo_function 168 = .ok (.iload 4, 2) := by decide +kernel
theorem d_Mo_function_170 : decode b_Mo_function 170 = .ok (.iaload, 1) := by decide +kernel
theorem d_Mo_function_171 : decode b_Mo_function 171 = .ok (.iconst 3, 1) := by decide +kernel
theorem d_Mo_function_172 : decode b_Mo_function 172 = .ok (.if_icmp .ne 16, 3) := by decide +kernel
theorem d_Mo_function_175 : decode b_Mo_function 175 = .ok (.aload_n 0, 1) := by decide +kernel
theorem d_Mo_function_176 : decode b_Mo_function 176 = .ok (.bipush 6, 2) := by decide +kernel
theorem d_Mo_function_178 : decode b_Mo_function 178 = .ok (.aload_n 0, 1) := by decide +kernel
theorem d_Mo_function_179 : decode b_Mo_function 179 = .ok (.getfield 117, 3) := by decide +kernel
theorem d_Mo_function_182 : decode b_Mo_function 182 = .ok (.iload 4, 2) := by decide +kernel
theorem d_Mo_function_184 : decode b_Mo_function 184 = .ok (.iaload, 1) := by decide +kernel
theorem d_Mo_function_185 : decode b_Mo_function 185 = .ok (.invokevirtual 315, 3) := by decide +kernel
theorem d_Mo_function_188 : decode b_Mo_function 188 = .ok (.aload_n 0, 1) := by decide +kernel
theorem d_Mo_function_189 : decode b_Mo_function 189 = .ok (.getfield 111, 3) := by decide +kernel
theorem d_Mo_function_192 : decode b_Mo_function 192 = .ok (.iload 4, 2) := by decide +kernel
theorem d_Mo_function_194 : decode b_Mo_function 194 = .ok (.iaload, 1) := by decide +kernel
theorem d_Mo_function_195 : decode b_Mo_function 195 = .ok (.ifCond .eq 178, 3) := by decide +kernel
theorem d_Mo_function_198 : decode b_Mo_function 198 = .ok (.aload_n 0, 1) := by decide +kernel
theorem d_Mo_function_199 : decode b_Mo_function 199 = .ok (.getfield 96, 3) := by decide +kernel
theorem d_Mo_function_202 : decode b_Mo_function 202 = .ok (.aload_n 0, 1) := by decide +kernel
theorem d_Mo_function_203 : decode b_Mo_function 203 = .ok (.getfield 114, 3) := by decide +kernel
theorem d_Mo_function_206 : decode b_Mo_function 206 = .ok (.iload 4, 2) := by decide +kernel
theorem d_Mo_function_208 : decode b_Mo_function 208 = .ok (.iaload, 1) := by decide +kernel
theorem d_Mo_function_209 : decode b_Mo_function 209 = .ok (.aload_n 0, 1) := by decide +kernel
theorem d_Mo_function_210 : decode b_Mo_function 210 = .ok (.getfield 306, 3) := by decide +kernel
theorem d_Mo_function_213 : decode b_Mo_function 213 = .ok (.iastore, 1) := by decide +kernel
theorem d_Mo_function_214 : decode b_Mo_function 214 = .ok (.goto 159, 3) := by decide +kernel
theorem d_Mo_function_217 : decode b_Mo_function 217 = .ok (.iload 5, 2) := by decide +kernel
theorem d_Mo_function_219 : decode b_Mo_function 219 = .ok (.iconst 2, 1) := by decide +kernel
theorem d_Mo_function_220 : decode b_Mo_function 220 = .ok (.if_icmp .eq 9, 3) := by decide +kernel
theorem d_Mo_function_223 : decode b_Mo_function 223 = .ok (.iload 5, 2) := by decide +kernel
theorem d_Mo_function_225 : decode b_Mo_function 225 = .ok (.iconst 3, 1) := by decide +kernel
theorem d_Mo_function_226 : decode b_Mo_function 226 = .ok (.if_icmp .ne 67, 3) := by decide +kernel
theorem d_Mo_function_229 : decode b_Mo_function 229 = .ok (.aload_n 0, 1) := by decide +kernel
theorem d_Mo_function_230 : decode b_Mo_function 230 = .ok (.getfield 117, 3) := by decide +kernel
theorem d_Mo_function_233 : decode b_Mo_function 233 = .ok (.iload 4, 2) := by decide +kernel
theorem d_Mo_function_235 : decode b_Mo_function 235 = .ok (.aload_n 0, 1) := by decide +kernel
theorem d_Mo_function_236 : decode b_Mo_function 236 = .ok (.getfield 306, 3) := by decide +kernel
theorem d_Mo_function_239 : decode b_Mo_function 239 = .ok (.iastore, 1) := by decide +kernel
theorem d_Mo_function_240 : decode b_Mo_function 240 = .ok (.aload_n 0, 1) := by decide +kernel
theorem d_Mo_function_241 : decode b_Mo_function 241 = .ok (.iload_n 3, 1) := by decide +kernel
theorem d_Mo_function_242 : decode b_Mo_function 242 = .ok (.iconst 1, 1) := by decide +kernel
theorem d_Mo_function_243 : decode b_Mo_function 243 = .ok (.iadd, 1) := by decide +kernel
theorem d_Mo_function_244 : decode b_Mo_function 244 = .ok (.invokevirtual 324, 3) := by decide +kernel
theorem d_Mo_function_247 : decode b_Mo_function 247 = .ok (.istore_n 3, 1) := by decide +kernel
theorem d_Mo_function_248 : decode b_Mo_function 248 = .ok (.aload_n 0, 1) := by decide +kernel
theorem d_Mo_function_249 : decode b_Mo_function 249 = .ok (.getfield 114, 3) := by decide +kernel
theorem d_Mo_function_252 : decode b_Mo_function 252 = .ok (.iload 4, 2) := by decide +kernel
theorem d_Mo_function_254 : decode b_Mo_function 254 = .ok (.aload_n 0, 1) := by decide +kernel
theorem d_Mo_function_255 : decode b_Mo_function 255 = .ok (.getfield 306, 3) := by decide +kernel
theorem d_Mo_function_258 : decode b_Mo_function 258 = .ok (.iastore, 1) := by decide +kernel
theorem d_Mo_function_259 : decode b_Mo_function 259 = .ok (.aload_n 0, 1) := by decide +kernel
theorem d_Mo_function_260 : decode b_Mo_function 260 = .ok (.iconst 5, 1) := by decide +kernel
theorem d_Mo_function_261 : decode b_Mo_function 261 = .ok (.iconst 0, 1) := by decide +kernel
theorem d_Mo_function_262 : decode b_Mo_function 262 = .ok (.invokevirtual 315, 3) := by decide +kernel
theorem d_Mo_function_265 : decode b_Mo_function 265 = .ok (.iload 5, 2) := by decide +kernel
theorem d_Mo_function_267 : decode b_Mo_function 267 = .ok (.iconst 3, 1) := by decide +kernel
theorem d_Mo_function_268 : decode b_Mo_function 268 = .ok (.if_icmp .ne 10, 3) := by decide +kernel
theorem d_Mo_function_271 : decode b_Mo_function 271 = .ok (.aload_n 0, 1) := by decide +kernel
theorem d_Mo_function_272 : decode b_Mo_function 272 = .ok (.bipush 8, 2) := by decide +kernel
theorem d_Mo_function_274 : decode b_Mo_function 274 = .ok (.iconst 0, 1) := by decide +kernel
theorem d_Mo_function_275 : decode b_Mo_function 275 = .ok (.invokevirtual 315, 3) := by decide +kernel
theorem d_Mo_function_278 : decode b_Mo_function 278 = .ok (.aload_n 0, 1) := by decide +kernel
theorem d_Mo_function_279 : decode b_Mo_function 279 = .ok (.getfield 111, 3) := by decide +kernel
theorem d_Mo_function_282 : decode b_Mo_function 282 = .ok (.iload 4, 2) := by decide +kernel
theorem d_Mo_function_284 : decode b_Mo_function 284 = .ok (.iload 5, 2) := by decide +kernel
theorem d_Mo_function_286 : decode b_Mo_function 286 = .ok (.iastore, 1) := by decide +kernel
theorem d_Mo_function_287 : decode b_Mo_function 287 = .ok (.iinc 4 1, 3) := by decide +kernel
theorem d_Mo_function_290 : decode b_Mo_function 290 = .ok (.goto 83, 3) := by decide +kernel
theorem d_Mo_function_293 : decode b_Mo_function 293 = .ok (.iload 5, 2) := by decide +kernel
theorem d_Mo_function_295 : decode b_Mo_function 295 = .ok (.iconst 4, 1) := by decide +kernel
theorem d_Mo_function_296 : decode b_Mo_function 296 = .ok (.if_icmp .eq 9, 3) := by decide +kernel
theorem d_Mo_function_299 : decode b_Mo_function 299 = .ok (.iload 5, 2) := by decide +kernel
theorem d_Mo_function_301 : decode b_Mo_function 301 = .ok (.iconst 5, 1) := by decide +kernel
theorem d_Mo_function_302 : decode b_Mo_function 302 = .ok (.if_icmp .ne 30, 3) := by decide +kernel
theorem d_Mo_function_305 : decode b_Mo_function 305 = .ok (.aload_n 0, 1) := by decide +kernel
theorem d_Mo_function_306 : decode b_Mo_function 306 = .ok (.iload_n 3, 1) := by decide +kernel
theorem d_Mo_function_307 : decode b_Mo_function 307 = .ok (.iconst 1, 1) := by decide +kernel
theorem d_Mo_function_308 : decode b_Mo_function 308 = .ok (.iadd, 1) := by decide +kernel
theorem d_Mo_function_309 : decode b_Mo_function 309 = .ok (.invokevirtual 324, 3) := by decide +kernel
theorem d_Mo_function_312 : decode b_Mo_function 312 = .ok (.istore_n 3, 1) := by decide +kernel
theorem d_Mo_function_313 : decode b_Mo_function 313 = .ok (.aload_n 0, 1) := by decide +kernel
theorem d_Mo_function_314 : decode b_Mo_function 314 = .ok (.iload 5, 2) := by decide +kernel
theorem d_Mo_function_316 : decode b_Mo_function 316 = .ok (.iconst 4, 1) := by decide +kernel
theorem d_Mo_function_317 : decode b_Mo_function 317 = .ok (.if_icmp .ne 7, 3) := by decide +kernel
theorem d_Mo_function_320 : decode b_Mo_function 320 = .ok (.iconst 3, 1) := by decide +kernel
theorem d_Mo_function_321 : decode b_Mo_function 321 = .ok (.goto 4, 3) := by decide +kernel
theorem d_Mo_function_324 : decode b_Mo_function 324 = .ok (.iconst 4, 1) := by decide +kernel
theorem d_Mo_function_325 : decode b_Mo_function 325 = .ok (.iconst 0, 1) := by decide +kernel
theorem d_Mo_function_326 : decode b_Mo_function 326 = .ok (.invokevirtual 315, 3) := by decide +kernel
theorem d_Mo_function_329 : decode b_Mo_function 329 = .ok (.goto 44, 3) := by decide +kernel
theorem d_Mo_function_332 : decode b_Mo_function 332 = .ok (.iload 5, 2) := by decide +kernel
theorem d_Mo_function_334 : decode b_Mo_function 334 = .ok (.iconst 1, 1) := by decide +kernel
theorem d_Mo_function_335 : decode b_Mo_function 335 = .ok (.if_icmp .ne 9, 3) := by decide +kernel
theorem d_Mo_function_338 : decode b_Mo_function 338 = .ok (.iload_n 3, 1) := by decide +kernel
theorem d_Mo_function_339 : decode b_Mo_function 339 = .ok (.iconst 1, 1) := by decide +kernel
theorem d_Mo_function_340 : decode b_Mo_function 340 = .ok (.iadd, 1) := by decide +kernel
theorem d_Mo_function_341 : decode b_Mo_function 341 = .ok (.goto 4, 3) := by decide +kernel
theorem d_Mo_function_344 : decode b_Mo_function 344 = .ok (.iload_n 3, 1) := by decide +kernel
theorem d_Mo_function_345 : decode b_Mo_function 345 = .ok (.istore 6, 2) := by decide +kernel
theorem d_Mo_function_347 : decode b_Mo_function 347 = .ok (.aload_n 0, 1) := by decide +kernel
theorem d_Mo_function_348 : decode b_Mo_function 348 = .ok (.iload 6, 2) := by decide +kernel
theorem d_Mo_function_350 : decode b_Mo_function 350 = .ok (.iconst 2, 1) := by decide +kernel
theorem d_Mo_function_351 : decode b_Mo_function 351 = .ok (.iadd, 1) := by decide +kernel
theorem d_Mo_function_352 : decode b_Mo_function 352 = .ok (.invokevirtual 324, 3) := by decide +kernel
theorem d_Mo_function_355 : decode b_Mo_function 355 = .ok (.istore_n 3, 1) := by decide +kernel
theorem d_Mo_function_356 : decode b_Mo_function 356 = .ok (.aload_n 0, 1) := by decide +kernel
theorem d_Mo_function_357 : decode b_Mo_function 357 = .ok (.iconst 2, 1) := by decide +kernel
theorem d_Mo_function_358 : decode b_Mo_function 358 = .ok (.aload_n 0, 1) := by decide +kernel
theorem d_Mo_function_359 : decode b_Mo_function 359 = .ok (.getfield 102, 3) := by decide +kernel
theorem d_Mo_function_362 : decode b_Mo_function 362 = .ok (.aload_n 0, 1) := by decide +kernel
theorem d_Mo_function_363 : decode b_Mo_function 363 = .ok (.getfield 50, 3) := by decide +kernel
theorem d_Mo_function_366 : decode b_Mo_function 366 = .ok (.iload 6, 2) := by decide +kernel
theorem d_Mo_function_368 : decode b_Mo_function 368 = .ok (.iaload, 1) := by decide +kernel
theorem d_Mo_function_369 : decode b_Mo_function 369 = .ok (.iaload, 1) := by decide +kernel
theorem d_Mo_function_370 : decode b_Mo_function 370 = .ok (.invokevirtual 315, 3) := by decide +kernel
theorem d_Mo_function_373 : decode b_Mo_function 373 = .ok (.iinc 3 1, 3) := by decide +kernel
theorem d_Mo_function_376 : decode b_Mo_function 376 = .ok (.goto (-285), 3) := by decide +kernel
theorem d_Mo_function_379 : decode b_Mo_function 379 = .ok (.aload_n 0, 1) := by decide +kernel
theorem d_Mo_function_380 : decode b_Mo_function 380 = .ok (.iconst 0, 1) := by decide +kernel
theorem d_Mo_function_381 : decode b_Mo_function 381 = .ok (.iconst 0, 1) := by decide +kernel
theorem d_Mo_function_382 : decode b_Mo_function 382 = .ok (.invokevirtual 315, 3) := by decide +kernel
theorem d_Mo_function_385 : decode b_Mo_function 385 = .ok (.aload_n 0, 1) := by decide +kernel
theorem d_Mo_function_386 : decode b_Mo_function 386 = .ok (.iconst 4, 1) := by decide +kernel
theorem d_Mo_function_387 : decode b_Mo_function 387 = .ok (.iconst 0, 1) := by decide +kernel
theorem d_Mo_function_388 : decode b_Mo_function 388 = .ok (.invokevirtual 315, 3) := by decide +kernel
theorem d_Mo_function_391 : decode b_Mo_function 391 = .ok (.return_, 1) := by decide +kernel
