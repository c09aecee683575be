abbrev b_StringLatin1_canEncode : ByteArray := prog_12_method_4_code
abbrev y_StringLatin1_canEncode : MethodName := ⟨"java/lang/StringLatin1", "canEncode", "(I)Z"⟩
def ws_StringLatin1_canEncode : List Cond := .code y_StringLatin1_canEncode b_StringLatin1_canEncode 1 (some .boolean) :: wAll
theorem d_StringLatin1_canEncode_0 : decode b_StringLatin1_canEncode 0 = .ok (.iload_n 0, 1) := by decide +kernel
theorem d_StringLatin1_canEncode_1 : decode b_StringLatin1_canEncode 1 = .ok (.ifCond .lt 14, 3) := by decide +kernel
theorem d_StringLatin1_canEncode_4 : decode b_StringLatin1_canEncode 4 = .ok (.iload_n 0, 1) := by decide +kernel
theorem d_StringLatin1_canEncode_5 : decode b_StringLatin1_canEncode 5 = .ok (.sipush 255, 3) := by decide +kernel
theorem d_StringLatin1_canEncode_8 : decode b_StringLatin1_canEncode 8 = .ok (.if_icmp .gt 7, 3) := by decide +kernel
theorem d_StringLatin1_canEncode_11 : decode b_StringLatin1_canEncode 11 = .ok (.iconst 1, 1) := by decide +kernel
theorem d_StringLatin1_canEncode_12 : decode b_StringLatin1_canEncode 12 = .ok (.goto 4, 3) := by decide +kernel
theorem d_StringLatin1_canEncode_15 : decode b_StringLatin1_canEncode 15 = .ok (.iconst 0, 1) := by decide +kernel
theorem d_StringLatin1_canEncode_16 : decode b_StringLatin1_canEncode 16 = .ok (.ireturn, 1) := by decide +kernel
abbrev b_StringLatin1_indexOfChar : ByteArray := prog_12_method_23_code
abbrev y_StringLatin1_indexOfChar : MethodName := ⟨"java/lang/StringLatin1", "indexOfChar", "([BIII)I"⟩
def ws_StringLatin1_indexOfChar : List Cond := .code y_StringLatin1_indexOfChar b_StringLatin1_indexOfChar 6 (some .int) :: wAll
theorem d_StringLatin1_indexOfChar_0 : decode b_StringLatin1_indexOfChar 0 = .ok (.iload_n 1, 1) := by decide +kernel
theorem d_StringLatin1_indexOfChar_1 : decode b_StringLatin1_indexOfChar 1 = .ok (.i2b, 1) := by decide +kernel
theorem d_StringLatin1_indexOfChar_2 : decode b_StringLatin1_indexOfChar 2 = .ok (.istore 4, 2) := by decide +kernel
theorem d_StringLatin1_indexOfChar_4 : decode b_StringLatin1_indexOfChar 4 = .ok (.iload_n 2, 1) := by decide +kernel
theorem d_StringLatin1_indexOfChar_5 : decode b_StringLatin1_indexOfChar 5 = .ok (.istore 5, 2) := by decide +kernel
theorem d_StringLatin1_indexOfChar_7 : decode b_StringLatin1_indexOfChar 7 = .ok (.iload 5, 2) := by decide +kernel
theorem d_StringLatin1_indexOfChar_9 : decode b_StringLatin1_indexOfChar 9 = .ok (.iload_n 3, 1) := by decide +kernel
theorem d_StringLatin1_indexOfChar_10 : decode b_StringLatin1_indexOfChar 10 = .ok (.if_icmp .ge 21, 3) := by decide +kernel
theorem d_StringLatin1_indexOfChar_13 : decode b_StringLatin1_indexOfChar 13 = .ok (.aload_n 0, 1) := by decide +kernel
theorem d_StringLatin1_indexOfChar_14 : decode b_StringLatin1_indexOfChar 14 = .ok (.iload 5, 2) := by decide +kernel
theorem d_StringLatin1_indexOfChar_16 : decode b_StringLatin1_indexOfChar 16 = .ok (.baload, 1) := by decide +kernel
theorem d_StringLatin1_indexOfChar_17 : decode b_StringLatin1_indexOfChar 17 = .ok (.iload 4, 2) := by decide +kernel
theorem d_StringLatin1_indexOfChar_19 : decode b_StringLatin1_indexOfChar 19 = .ok (.if_icmp .ne 6, 3) := by decide +kernel
theorem d_StringLatin1_indexOfChar_22 : decode b_StringLatin1_indexOfChar 22 = .ok (.iload 5, 2) := by decide +kernel
theorem d_StringLatin1_indexOfChar_24 : decode b_StringLatin1_indexOfChar 24 = .ok (.ireturn, 1) := by decide +kernel
theorem d_StringLatin1_indexOfChar_25 : decode b_StringLatin1_indexOfChar 25 = .ok (.iinc 5 1, 3) := by decide +kernel
theorem d_StringLatin1_indexOfChar_28 : decode b_StringLatin1_indexOfChar 28 = .ok (.goto (-21), 3) := by decide +kernel
theorem d_StringLatin1_indexOfChar_31 : decode b_StringLatin1_indexOfChar 31 = .ok (.iconst (-1), 1) := by decide +kernel
theorem d_StringLatin1_indexOfChar_32 : decode b_StringLatin1_indexOfChar 32 = .ok (.ireturn, 1) := by decide +kernel
abbrev b_StringLatin1_indexOf : ByteArray := prog_12_method_22_code
abbrev y_StringLatin1_indexOf : MethodName := ⟨"java/lang/StringLatin1", "indexOf", "([BIII)I"⟩
def ws_StringLatin1_indexOf : List Cond := .code y_StringLatin1_indexOf b_StringLatin1_indexOf 4 (some .int) :: wAll
theorem d_StringLatin1_indexOf_0 : decode b_StringLatin1_indexOf 0 = .ok (.iload_n 1, 1) := by decide +kernel
theorem d_StringLatin1_indexOf_1 : decode b_StringLatin1_indexOf 1 = .ok (.invokestatic 88, 3) := by decide +kernel
theorem d_StringLatin1_indexOf_4 : decode b_StringLatin1_indexOf 4 = .ok (.ifCond .ne 5, 3) := by decide +kernel
theorem d_StringLatin1_indexOf_7 : decode b_StringLatin1_indexOf 7 = .ok (.iconst (-1), 1) := by decide +kernel
theorem d_StringLatin1_indexOf_8 : decode b_StringLatin1_indexOf 8 = .ok (.ireturn, 1) := by decide +kernel
theorem d_StringLatin1_indexOf_9 : decode b_StringLatin1_indexOf 9 = .ok (.iload_n 2, 1) := by decide +kernel
theorem d_StringLatin1_indexOf_10 : decode b_StringLatin1_indexOf 10 = .ok (.iconst 0, 1) := by decide +kernel
theorem d_StringLatin1_indexOf_11 : decode b_StringLatin1_indexOf 11 = .ok (.invokestatic 92, 3) := by decide +kernel
theorem d_StringLatin1_indexOf_14 : decode b_StringLatin1_indexOf 14 = .ok (.istore_n 2, 1) := by decide +kernel
theorem d_StringLatin1_indexOf_15 : decode b_StringLatin1_indexOf 15 = .ok (.iload_n 3, 1) := by decide +kernel
theorem d_StringLatin1_indexOf_16 : decode b_StringLatin1_indexOf 16 = .ok (.aload_n 0, 1) := by decide +kernel
theorem d_StringLatin1_indexOf_17 : decode b_StringLatin1_indexOf 17 = .ok (.arraylength, 1) := by decide +kernel
theorem d_StringLatin1_indexOf_18 : decode b_StringLatin1_indexOf 18 = .ok (.invokestatic 38, 3) := by decide +kernel
theorem d_StringLatin1_indexOf_21 : decode b_StringLatin1_indexOf 21 = .ok (.istore_n 3, 1) := by decide +kernel
theorem d_StringLatin1_indexOf_22 : decode b_StringLatin1_indexOf 22 = .ok (.iload_n 2, 1) := by decide +kernel
theorem d_StringLatin1_indexOf_23 : decode b_StringLatin1_indexOf 23 = .ok (.iload_n 3, 1) := by decide +kernel
theorem d_StringLatin1_indexOf_24 : decode b_StringLatin1_indexOf 24 = .ok (.if_icmp .lt 5, 3) := by decide +kernel
theorem d_StringLatin1_indexOf_27 : decode b_StringLatin1_indexOf 27 = .ok (.iconst (-1), 1) := by decide +kernel
theorem d_StringLatin1_indexOf_28 : decode b_StringLatin1_indexOf 28 = .ok (.ireturn, 1) := by decide +kernel
theorem d_StringLatin1_indexOf_29 : decode b_StringLatin1_indexOf 29 = .ok (.aload_n 0, 1) := by decide +kernel
theorem d_StringLatin1_indexOf_30 : decode b_StringLatin1_indexOf 30 = .ok (.iload_n 1, 1) := by decide +kernel
theorem d_StringLatin1_indexOf_31 : decode b_StringLatin1_indexOf 31 = .ok (.iload_n 2, 1) := by decide +kernel
theorem d_StringLatin1_indexOf_32 : decode b_StringLatin1_indexOf 32 = .ok (.iload_n 3, 1) := by decide +kernel
theorem d_StringLatin1_indexOf_33 : decode b_StringLatin1_indexOf 33 = .ok (.invokestatic 95, 3) := by decide +kernel
theorem d_StringLatin1_indexOf_36 : decode b_StringLatin1_indexOf 36 = .ok (.ireturn, 1) := by decide +kernel
abbrev b_String_coder : ByteArray := prog_11_method_152_code
abbrev y_String_coder : MethodName := ⟨"java/lang/String", "coder", "()B"⟩
def ws_String_coder : List Cond := .code y_String_coder b_String_coder 1 (some .byte) :: wAll
theorem d_String_coder_0 : decode b_String_coder 0 = .ok (.getstatic 38, 3) := by decide +kernel
theorem d_String_coder_3 : decode b_String_coder 3 = .ok (.ifCond .eq 10, 3) := by decide +kernel
theorem d_String_coder_6 : decode b_String_coder 6 = .ok (.aload_n 0, 1) := by decide +kernel
theorem d_String_coder_7 : decode b_String_coder 7 = .ok (.getfield 15, 3) := by decide +kernel
theorem d_String_coder_10 : decode b_String_coder 10 = .ok (.goto 4, 3) := by decide +kernel
theorem d_String_coder_13 : decode b_String_coder 13 = .ok (.iconst 1, 1) := by decide +kernel
theorem d_String_coder_14 : decode b_String_coder 14 = .ok (.ireturn, 1) := by decide +kernel
abbrev b_String_length : ByteArray := prog_11_method_54_code
abbrev y_String_length : MethodName := ⟨"java/lang/String", "length", "()I"⟩
def ws_String_length : List Cond := .code y_String_length b_String_length 1 (some .int) :: wAll
theorem d_String_length_0 : decode b_String_length 0 = .ok (.aload_n 0, 1) := by decide +kernel
theorem d_String_length_1 : decode b_String_length 1 = .ok (.getfield 9, 3) := by decide +kernel
theorem d_String_length_4 : decode b_String_length 4 = .ok (.arraylength, 1) := by decide +kernel
theorem d_String_length_5 : decode b_String_length 5 = .ok (.aload_n 0, 1) := by decide +kernel
theorem d_String_length_6 : decode b_String_length 6 = .ok (.invokevirtual 335, 3) := by decide +kernel
theorem d_String_length_9 : decode b_String_length 9 = .ok (.ishr, 1) := by decide +kernel
theorem d_String_length_10 : decode b_String_length 10 = .ok (.ireturn, 1) := by decide +kernel
abbrev b_String_isLatin1 : ByteArray := prog_11_method_154_code
abbrev y_String_isLatin1 : MethodName := ⟨"java/lang/String", "isLatin1", "()Z"⟩
def ws_String_isLatin1 : List Cond := .code y_String_isLatin1 b_String_isLatin1 1 (some .boolean) :: wAll
theorem d_String_isLatin1_0 : decode b_String_isLatin1 0 = .ok (.getstatic 38, 3) := by decide +kernel
theorem d_String_isLatin1_3 : decode b_String_isLatin1 3 = .ok (.ifCond .eq 14, 3) := by decide +kernel
theorem d_String_isLatin1_6 : decode b_String_isLatin1 6 = .ok (.aload_n 0, 1) := by decide +kernel
theorem d_String_isLatin1_7 : decode b_String_isLatin1 7 = .ok (.getfield 15, 3) := by decide +kernel
theorem d_String_isLatin1_10 : decode b_String_isLatin1 10 = .ok (.ifCond .ne 7, 3) := by decide +kernel
theorem d_String_isLatin1_13 : decode b_String_isLatin1 13 = .ok (.iconst 1, 1) := by decide +kernel
theorem d_String_isLatin1_14 : decode b_String_isLatin1 14 = .ok (.goto 4, 3) := by decide +kernel
theorem d_String_isLatin1_17 : decode b_String_isLatin1 17 = .ok (.iconst 0, 1) := by decide +kernel
theorem d_String_isLatin1_18 : decode b_String_isLatin1 18 = .ok (.ireturn, 1) := by decide +kernel
abbrev b_String_indexOf2 : ByteArray := prog_11_method_80_code
abbrev y_String_indexOf2 : MethodName := ⟨"java/lang/String", "indexOf", "(II)I"⟩
def ws_String_indexOf2 : List Cond := .code y_String_indexOf2 b_String_indexOf2 3 (some .int) :: wAll
theorem d_String_indexOf2_0 : decode b_String_indexOf2 0 = .ok (.aload_n 0, 1) := by decide +kernel
theorem d_String_indexOf2_1 : decode b_String_indexOf2 1 = .ok (.invokevirtual 492, 3) := by decide +kernel
theorem d_String_indexOf2_4 : decode b_String_indexOf2 4 = .ok (.ifCond .eq 19, 3) := by decide +kernel
theorem d_String_indexOf2_7 : decode b_String_indexOf2 7 = .ok (.aload_n 0, 1) := by decide +kernel
theorem d_String_indexOf2_8 : decode b_String_indexOf2 8 = .ok (.getfield 9, 3) := by decide +kernel
theorem d_String_indexOf2_11 : decode b_String_indexOf2 11 = .ok (.iload_n 1, 1) := by decide +kernel
theorem d_String_indexOf2_12 : decode b_String_indexOf2 12 = .ok (.iload_n 2, 1) := by decide +kernel
theorem d_String_indexOf2_13 : decode b_String_indexOf2 13 = .ok (.aload_n 0, 1) := by decide +kernel
theorem d_String_indexOf2_14 : decode b_String_indexOf2 14 = .ok (.invokevirtual 505, 3) := by decide +kernel
theorem d_String_indexOf2_17 : decode b_String_indexOf2 17 = .ok (.invokestatic 637, 3) := by decide +kernel
theorem d_String_indexOf2_20 : decode b_String_indexOf2 20 = .ok (.goto 16, 3) := by decide +kernel
theorem d_String_indexOf2_36 : decode b_String_indexOf2 36 = .ok (.ireturn, 1) := by decide +kernel
abbrev b_String_indexOf : ByteArray := prog_11_method_79_code
abbrev y_String_indexOf : MethodName := ⟨"java/lang/String", "indexOf", "(I)I"⟩
def ws_String_indexOf : List Cond := .code y_String_indexOf b_String_indexOf 2 (some .int) :: wAll
theorem d_String_indexOf_0 : decode b_String_indexOf 0 = .ok (.aload_n 0, 1) := by decide +kernel
theorem d_String_indexOf_1 : decode b_String_indexOf 1 = .ok (.iload_n 1, 1) := by decide +kernel
theorem d_String_indexOf_2 : decode b_String_indexOf 2 = .ok (.iconst 0, 1) := by decide +kernel
theorem d_String_indexOf_3 : decode b_String_indexOf 3 = .ok (.invokevirtual 633, 3) := by decide +kernel
theorem d_String_indexOf_6 : decode b_String_indexOf 6 = .ok (.ireturn, 1) := by decide +kernel
abbrev b_EditMoves_isDigit : ByteArray := prog_1_method_18_code
abbrev y_EditMoves_isDigit : MethodName := ⟨"EditMoves", "isDigit", "(I)Z"⟩
def ws_EditMoves_isDigit : List Cond := .code y_EditMoves_isDigit b_EditMoves_isDigit 1 (some .boolean) :: wAll
theorem d_EditMoves_isDigit_0 : decode b_EditMoves_isDigit 0 = .ok (.iload_n 0, 1) := by decide +kernel
theorem d_EditMoves_isDigit_1 : decode b_EditMoves_isDigit 1 = .ok (.bipush 48, 2) := by decide +kernel
theorem d_EditMoves_isDigit_3 : decode b_EditMoves_isDigit 3 = .ok (.if_icmp .lt 13, 3) := by decide +kernel
theorem d_EditMoves_isDigit_6 : decode b_EditMoves_isDigit 6 = .ok (.iload_n 0, 1) := by decide +kernel
theorem d_EditMoves_isDigit_7 : decode b_EditMoves_isDigit 7 = .ok (.bipush 57, 2) := by decide +kernel
theorem d_EditMoves_isDigit_9 : decode b_EditMoves_isDigit 9 = .ok (.if_icmp .gt 7, 3) := by decide +kernel
theorem d_EditMoves_isDigit_12 : decode b_EditMoves_isDigit 12 = .ok (.iconst 1, 1) := by decide +kernel
theorem d_EditMoves_isDigit_13 : decode b_EditMoves_isDigit 13 = .ok (.goto 4, 3) := by decide +kernel
theorem d_EditMoves_isDigit_16 : decode b_EditMoves_isDigit 16 = .ok (.iconst 0, 1) := by decide +kernel
theorem d_EditMoves_isDigit_17 : decode b_EditMoves_isDigit 17 = .ok (.ireturn, 1) := by decide +kernel
abbrev b_EditMoves_toGreat : ByteArray := prog_1_method_19_code
abbrev y_EditMoves_toGreat : MethodName := ⟨"EditMoves", "toGreat", "(I)I"⟩
def ws_EditMoves_toGreat : List Cond := .code y_EditMoves_toGreat b_EditMoves_toGreat 1 (some .int) :: wAll
theorem d_EditMoves_toGreat_0 : decode b_EditMoves_toGreat 0 = .ok (.iload_n 0, 1) := by decide +kernel
theorem d_EditMoves_toGreat_1 : decode b_EditMoves_toGreat 1 = .ok (.bipush 97, 2) := by decide +kernel
theorem d_EditMoves_toGreat_3 : decode b_EditMoves_toGreat 3 = .ok (.if_icmp .lt 19, 3) := by decide +kernel
theorem d_EditMoves_toGreat_6 : decode b_EditMoves_toGreat 6 = .ok (.iload_n 0, 1) := by decide +kernel
theorem d_EditMoves_toGreat_7 : decode b_EditMoves_toGreat 7 = .ok (.bipush 122, 2) := by decide +kernel
theorem d_EditMoves_toGreat_9 : decode b_EditMoves_toGreat 9 = .ok (.if_icmp .gt 13, 3) := by decide +kernel
theorem d_EditMoves_toGreat_12 : decode b_EditMoves_toGreat 12 = .ok (.iload_n 0, 1) := by decide +kernel
theorem d_EditMoves_toGreat_13 : decode b_EditMoves_toGreat 13 = .ok (.bipush 97, 2) := by decide +kernel
theorem d_EditMoves_toGreat_15 : decode b_EditMoves_toGreat 15 = .ok (.isub, 1) := by decide +kernel
theorem d_EditMoves_toGreat_16 : decode b_EditMoves_toGreat 16 = .ok (.bipush 65, 2) := by decide +kernel
theorem d_EditMoves_toGreat_18 : decode b_EditMoves_toGreat 18 = .ok (.iadd, 1) := by decide +kernel
theorem d_EditMoves_toGreat_19 : decode b_EditMoves_toGreat 19 = .ok (.goto 4, 3) := by decide +kernel
theorem d_EditMoves_toGreat_22 : decode b_EditMoves_toGreat 22 = .ok (.iload_n 0, 1) := by decide +kernel
theorem d_EditMoves_toGreat_23 : decode b_EditMoves_toGreat 23 = .ok (.ireturn, 1) := by decide +kernel
abbrev b_Line_clear : ByteArray := prog_4_method_2_code
abbrev y_Line_clear : MethodName := ⟨"EditMoves$Line", "clear", "()V"⟩
def ws_Line_clear : List Cond := .code y_Line_clear b_Line_clear 1 none :: wAll
theorem d_Line_clear_0 : decode b_Line_clear 0 = .ok (.aload_n 0, 1) := by decide +kernel
theorem d_Line_clear_1 : decode b_Line_clear 1 = .ok (.iconst 0, 1) := by decide +kernel
theorem d_Line_clear_2 : decode b_Line_clear 2 = .ok (.putfield 13, 3) := by decide +kernel
theorem d_Line_clear_5 : decode b_Line_clear 5 = .ok (.return_, 1) := by decide +kernel
abbrev b_Line_add : ByteArray := prog_4_method_3_code
abbrev y_Line_add : MethodName := ⟨"EditMoves$Line", "add", "(I)V"⟩
def ws_Line_add : List Cond := .code y_Line_add b_Line_add 2 none :: wAll
theorem d_Line_add_0 : decode b_Line_add 0 = .ok (.aload_n 0, 1) := by decide +kernel
theorem d_Line_add_1 : decode b_Line_add 1 = .ok (.getfield 13, 3) := by decide +kernel
theorem d_Line_add_4 : decode b_Line_add 4 = .ok (.ifCond .lt 35, 3) := by decide +kernel
theorem d_Line_add_7 : decode b_Line_add 7 = .ok (.aload_n 0, 1) := by decide +kernel
theorem d_Line_add_8 : decode b_Line_add 8 = .ok (.getfield 13, 3) := by decide +kernel
theorem d_Line_add_11 : decode b_Line_add 11 = .ok (.aload_n 0, 1) := by decide +kernel
theorem d_Line_add_12 : decode b_Line_add 12 = .ok (.getfield 9, 3) := by decide +kernel
theorem d_Line_add_15 : decode b_Line_add 15 = .ok (.arraylength, 1) := by decide +kernel
theorem d_Line_add_16 : decode b_Line_add 16 = .ok (.if_icmp .ge 23, 3) := by decide +kernel
theorem d_Line_add_19 : decode b_Line_add 19 = .ok (.aload_n 0, 1) := by decide +kernel
theorem d_Line_add_20 : decode b_Line_add 20 = .ok (.getfield 9, 3) := by decide +kernel
theorem d_Line_add_23 : decode b_Line_add 23 = .ok (.aload_n 0, 1) := by decide +kernel
theorem d_Line_add_24 : decode b_Line_add 24 = .ok (.getfield 13, 3) := by decide +kernel
theorem d_Line_add_27 : decode b_Line_add 27 = .ok (.iload_n 1, 1) := by decide +kernel
theorem d_Line_add_28 : decode b_Line_add 28 = .ok (.iastore, 1) := by decide +kernel
theorem d_Line_add_29 : decode b_Line_add 29 = .ok (.aload_n 0, 1) := by decide +kernel
theorem d_Line_add_30 : decode b_Line_add 30 = .ok (.dup, 1) := by decide +kernel
theorem d_Line_add_31 : decode b_Line_add 31 = .ok (.getfield 13, 3) := by decide +kernel
theorem d_Line_add_34 : decode b_Line_add 34 = .ok (.iconst 1, 1) := by decide +kernel
theorem d_Line_add_35 : decode b_Line_add 35 = .ok (.iadd, 1) := by decide +kernel
theorem d_Line_add_36 : decode b_Line_add 36 = .ok (.putfield 13, 3) := by decide +kernel
theorem d_Line_add_39 : decode b_Line_add 39 = .ok (.return_, 1) := by decide +kernel
abbrev b_Line_character : ByteArray := prog_4_method_4_code
abbrev y_Line_character : MethodName := ⟨"EditMoves$Line", "character", "(I)I"⟩
def ws_Line_character : List Cond := .code y_Line_character b_Line_character 2 (some .int) :: wAll
theorem d_Line_character_0 : decode b_Line_character 0 = .ok (.iload_n 1, 1) := by decide +kernel
theorem d_Line_character_1 : decode b_Line_character 1 = .ok (.ifCond .lt 29, 3) := by decide +kernel
theorem d_Line_character_4 : decode b_Line_character 4 = .ok (.iload_n 1, 1) := by decide +kernel
theorem d_Line_character_5 : decode b_Line_character 5 = .ok (.aload_n 0, 1) := by decide +kernel
theorem d_Line_character_6 : decode b_Line_character 6 = .ok (.getfield 13, 3) := by decide +kernel
theorem d_Line_character_9 : decode b_Line_character 9 = .ok (.if_icmp .ge 21, 3) := by decide +kernel
theorem d_Line_character_12 : decode b_Line_character 12 = .ok (.iload_n 1, 1) := by decide +kernel
theorem d_Line_character_13 : decode b_Line_character 13 = .ok (.aload_n 0, 1) := by decide +kernel
theorem d_Line_character_14 : decode b_Line_character 14 = .ok (.getfield 9, 3) := by decide +kernel
theorem d_Line_character_17 : decode b_Line_character 17 = .ok (.arraylength, 1) := by decide +kernel
theorem d_Line_character_18 : decode b_Line_character 18 = .ok (.if_icmp .ge 12, 3) := by decide +kernel
theorem d_Line_character_21 : decode b_Line_character 21 = .ok (.aload_n 0, 1) := by decide +kernel
theorem d_Line_character_22 : decode b_Line_character 22 = .ok (.getfield 9, 3) := by decide +kernel
theorem d_Line_character_25 : decode b_Line_character 25 = .ok (.iload_n 1, 1) := by decide +kernel
theorem d_Line_character_26 : decode b_Line_character 26 = .ok (.iaload, 1) := by decide +kernel
theorem d_Line_character_27 : decode b_Line_character 27 = .ok (.goto 4, 3) := by decide +kernel
theorem d_Line_character_30 : decode b_Line_character 30 = .ok (.iconst 0, 1) := by decide +kernel
theorem d_Line_character_31 : decode b_Line_character 31 = .ok (.ireturn, 1) := by decide +kernel
abbrev b_Picture_sign : ByteArray := prog_5_method_3_code
abbrev y_Picture_sign : MethodName := ⟨"EditMoves$Picture", "sign", "(I)I"⟩
def ws_Picture_sign : List Cond := .code y_Picture_sign b_Picture_sign 2 (some .int) :: wAll
theorem d_Picture_sign_0 : decode b_Picture_sign 0 = .ok (.iload_n 1, 1) := by decide +kernel
theorem d_Picture_sign_1 : decode b_Picture_sign 1 = .ok (.ifCond .lt 29, 3) := by decide +kernel
theorem d_Picture_sign_4 : decode b_Picture_sign 4 = .ok (.iload_n 1, 1) := by decide +kernel
theorem d_Picture_sign_5 : decode b_Picture_sign 5 = .ok (.aload_n 0, 1) := by decide +kernel
theorem d_Picture_sign_6 : decode b_Picture_sign 6 = .ok (.getfield 44, 3) := by decide +kernel
theorem d_Picture_sign_9 : decode b_Picture_sign 9 = .ok (.if_icmp .ge 21, 3) := by decide +kernel
theorem d_Picture_sign_12 : decode b_Picture_sign 12 = .ok (.iload_n 1, 1) := by decide +kernel
theorem d_Picture_sign_13 : decode b_Picture_sign 13 = .ok (.aload_n 0, 1) := by decide +kernel
theorem d_Picture_sign_14 : decode b_Picture_sign 14 = .ok (.getfield 9, 3) := by decide +kernel
theorem d_Picture_sign_17 : decode b_Picture_sign 17 = .ok (.arraylength, 1) := by decide +kernel
theorem d_Picture_sign_18 : decode b_Picture_sign 18 = .ok (.if_icmp .ge 12, 3) := by decide +kernel
theorem d_Picture_sign_21 : decode b_Picture_sign 21 = .ok (.aload_n 0, 1) := by decide +kernel
theorem d_Picture_sign_22 : decode b_Picture_sign 22 = .ok (.getfield 9, 3) := by decide +kernel
theorem d_Picture_sign_25 : decode b_Picture_sign 25 = .ok (.iload_n 1, 1) := by decide +kernel
theorem d_Picture_sign_26 : decode b_Picture_sign 26 = .ok (.iaload, 1) := by decide +kernel
theorem d_Picture_sign_27 : decode b_Picture_sign 27 = .ok (.goto 4, 3) := by decide +kernel
theorem d_Picture_sign_30 : decode b_Picture_sign 30 = .ok (.iconst 0, 1) := by decide +kernel
theorem d_Picture_sign_31 : decode b_Picture_sign 31 = .ok (.ireturn, 1) := by decide +kernel
abbrev b_Picture_count : ByteArray := prog_5_method_4_code
abbrev y_Picture_count : MethodName := ⟨"EditMoves$Picture", "count", "(I)I"⟩
def ws_Picture_count : List Cond := .code y_Picture_count b_Picture_count 2 (some .int) :: wAll
theorem d_Picture_count_0 : decode b_Picture_count 0 = .ok (.iload_n 1, 1) := by decide +kernel
theorem d_Picture_count_1 : decode b_Picture_count 1 = .ok (.ifCond .lt 29, 3) := by decide +kernel
theorem d_Picture_count_4 : decode b_Picture_count 4 = .ok (.iload_n 1, 1) := by decide +kernel
theorem d_Picture_count_5 : decode b_Picture_count 5 = .ok (.aload_n 0, 1) := by decide +kernel
theorem d_Picture_count_6 : decode b_Picture_count 6 = .ok (.getfield 44, 3) := by decide +kernel
theorem d_Picture_count_9 : decode b_Picture_count 9 = .ok (.if_icmp .ge 21, 3) := by decide +kernel
theorem d_Picture_count_12 : decode b_Picture_count 12 = .ok (.iload_n 1, 1) := by decide +kernel
theorem d_Picture_count_13 : decode b_Picture_count 13 = .ok (.aload_n 0, 1) := by decide +kernel
theorem d_Picture_count_14 : decode b_Picture_count 14 = .ok (.getfield 15, 3) := by decide +kernel
theorem d_Picture_count_17 : decode b_Picture_count 17 = .ok (.arraylength, 1) := by decide +kernel
theorem d_Picture_count_18 : decode b_Picture_count 18 = .ok (.if_icmp .ge 12, 3) := by decide +kernel
theorem d_Picture_count_21 : decode b_Picture_count 21 = .ok (.aload_n 0, 1) := by decide +kernel
theorem d_Picture_count_22 : decode b_Picture_count 22 = .ok (.getfield 15, 3) := by decide +kernel
theorem d_Picture_count_25 : decode b_Picture_count 25 = .ok (.iload_n 1, 1) := by decide +kernel
theorem d_Picture_count_26 : decode b_Picture_count 26 = .ok (.iaload, 1) := by decide +kernel
theorem d_Picture_count_27 : decode b_Picture_count 27 = .ok (.goto 4, 3) := by decide +kernel
theorem d_Picture_count_30 : decode b_Picture_count 30 = .ok (.iconst 0, 1) := by decide +kernel
theorem d_Picture_count_31 : decode b_Picture_count 31 = .ok (.ireturn, 1) := by decide +kernel
abbrev b_Picture_isInsertion : ByteArray := prog_5_method_5_code
abbrev y_Picture_isInsertion : MethodName := ⟨"EditMoves$Picture", "isInsertion", "(I)Z"⟩
def ws_Picture_isInsertion : List Cond := .code y_Picture_isInsertion b_Picture_isInsertion 1 (some .boolean) :: wAll
theorem d_Picture_isInsertion_0 : decode b_Picture_isInsertion 0 = .ok (.iload_n 0, 1) := by decide +kernel
theorem d_Picture_isInsertion_1 : decode b_Picture_isInsertion 1 = .ok (.bipush 66, 2) := by decide +kernel
theorem d_Picture_isInsertion_3 : decode b_Picture_isInsertion 3 = .ok (.if_icmp .eq 21, 3) := by decide +kernel
theorem d_Picture_isInsertion_6 : decode b_Picture_isInsertion 6 = .ok (.iload_n 0, 1) := by decide +kernel
theorem d_Picture_isInsertion_7 : decode b_Picture_isInsertion 7 = .ok (.bipush 48, 2) := by decide +kernel
theorem d_Picture_isInsertion_9 : decode b_Picture_isInsertion 9 = .ok (.if_icmp .eq 15, 3) := by decide +kernel
theorem d_Picture_isInsertion_12 : decode b_Picture_isInsertion 12 = .ok (.iload_n 0, 1) := by decide +kernel
theorem d_Picture_isInsertion_13 : decode b_Picture_isInsertion 13 = .ok (.bipush 47, 2) := by decide +kernel
theorem d_Picture_isInsertion_15 : decode b_Picture_isInsertion 15 = .ok (.if_icmp .eq 9, 3) := by decide +kernel
theorem d_Picture_isInsertion_18 : decode b_Picture_isInsertion 18 = .ok (.iload_n 0, 1) := by decide +kernel
theorem d_Picture_isInsertion_19 : decode b_Picture_isInsertion 19 = .ok (.bipush 44, 2) := by decide +kernel
theorem d_Picture_isInsertion_21 : decode b_Picture_isInsertion 21 = .ok (.if_icmp .ne 7, 3) := by decide +kernel
theorem d_Picture_isInsertion_24 : decode b_Picture_isInsertion 24 = .ok (.iconst 1, 1) := by decide +kernel
theorem d_Picture_isInsertion_25 : decode b_Picture_isInsertion 25 = .ok (.goto 4, 3) := by decide +kernel
theorem d_Picture_isInsertion_28 : decode b_Picture_isInsertion 28 = .ok (.iconst 0, 1) := by decide +kernel
theorem d_Picture_isInsertion_29 : decode b_Picture_isInsertion 29 = .ok (.ireturn, 1) := by decide +kernel
abbrev b_Picture_width : ByteArray := prog_5_method_6_code
abbrev y_Picture_width : MethodName := ⟨"EditMoves$Picture", "width", "(I)I"⟩
def ws_Picture_width : List Cond := .code y_Picture_width b_Picture_width 1 (some .int) :: wAll
theorem d_Picture_width_0 : decode b_Picture_width 0 = .ok (.iload_n 0, 1) := by decide +kernel
theorem d_Picture_width_1 : decode b_Picture_width 1 = .ok (.bipush 86, 2) := by decide +kernel
theorem d_Picture_width_3 : decode b_Picture_width 3 = .ok (.if_icmp .ne 5, 3) := by decide +kernel
theorem d_Picture_width_6 : decode b_Picture_width 6 = .ok (.iconst 0, 1) := by decide +kernel
theorem d_Picture_width_7 : decode b_Picture_width 7 = .ok (.ireturn, 1) := by decide +kernel
theorem d_Picture_width_8 : decode b_Picture_width 8 = .ok (.iload_n 0, 1) := by decide +kernel
theorem d_Picture_width_9 : decode b_Picture_width 9 = .ok (.bipush 67, 2) := by decide +kernel
theorem d_Picture_width_11 : decode b_Picture_width 11 = .ok (.if_icmp .eq 9, 3) := by decide +kernel
theorem d_Picture_width_14 : decode b_Picture_width 14 = .ok (.iload_n 0, 1) := by decide +kernel
theorem d_Picture_width_15 : decode b_Picture_width 15 = .ok (.bipush 68, 2) := by decide +kernel
theorem d_Picture_width_17 : decode b_Picture_width 17 = .ok (.if_icmp .ne 7, 3) := by decide +kernel
theorem d_Picture_width_20 : decode b_Picture_width 20 = .ok (.iconst 2, 1) := by decide +kernel
theorem d_Picture_width_21 : decode b_Picture_width 21 = .ok (.goto 4, 3) := by decide +kernel
theorem d_Picture_width_24 : decode b_Picture_width 24 = .ok (.iconst 1, 1) := by decide +kernel
theorem d_Picture_width_25 : decode b_Picture_width 25 = .ok (.ireturn, 1) := by decide +kernel
abbrev b_Picture_forget : ByteArray := prog_5_method_7_code
abbrev y_Picture_forget : MethodName := ⟨"EditMoves$Picture", "forget", "()V"⟩
def ws_Picture_forget : List Cond := .code y_Picture_forget b_Picture_forget 1 none :: wAll
theorem d_Picture_forget_0 : decode b_Picture_forget 0 = .ok (.aload_n 0, 1) := by decide +kernel
theorem d_Picture_forget_1 : decode b_Picture_forget 1 = .ok (.iconst 0, 1) := by decide +kernel
theorem d_Picture_forget_2 : decode b_Picture_forget 2 = .ok (.putfield 47, 3) := by decide +kernel
theorem d_Picture_forget_5 : decode b_Picture_forget 5 = .ok (.aload_n 0, 1) := by decide +kernel
theorem d_Picture_forget_6 : decode b_Picture_forget 6 = .ok (.iconst 0, 1) := by decide +kernel
theorem d_Picture_forget_7 : decode b_Picture_forget 7 = .ok (.putfield 44, 3) := by decide +kernel
theorem d_Picture_forget_10 : decode b_Picture_forget 10 = .ok (.aload_n 0, 1) := by decide +kernel
theorem d_Picture_forget_11 : decode b_Picture_forget 11 = .ok (.iconst 0, 1) := by decide +kernel
theorem d_Picture_forget_12 : decode b_Picture_forget 12 = .ok (.putfield 29, 3) := by decide +kernel
theorem d_Picture_forget_15 : decode b_Picture_forget 15 = .ok (.aload_n 0, 1) := by decide +kernel
theorem d_Picture_forget_16 : decode b_Picture_forget 16 = .ok (.iconst 0, 1) := by decide +kernel
theorem d_Picture_forget_17 : decode b_Picture_forget 17 = .ok (.putfield 41, 3) := by decide +kernel
theorem d_Picture_forget_20 : decode b_Picture_forget 20 = .ok (.aload_n 0, 1) := by decide +kernel
theorem d_Picture_forget_21 : decode b_Picture_forget 21 = .ok (.iconst 0, 1) := by decide +kernel
theorem d_Picture_forget_22 : decode b_Picture_forget 22 = .ok (.putfield 50, 3) := by decide +kernel
theorem d_Picture_forget_25 : decode b_Picture_forget 25 = .ok (.aload_n 0, 1) := by decide +kernel
theorem d_Picture_forget_26 : decode b_Picture_forget 26 = .ok (.iconst 0, 1) := by decide +kernel
theorem d_Picture_forget_27 : decode b_Picture_forget 27 = .ok (.putfield 53, 3) := by decide +kernel
theorem d_Picture_forget_30 : decode b_Picture_forget 30 = .ok (.aload_n 0, 1) := by decide +kernel
theorem d_Picture_forget_31 : decode b_Picture_forget 31 = .ok (.iconst 0, 1) := by decide +kernel
theorem d_Picture_forget_32 : decode b_Picture_forget 32 = .ok (.putfield 56, 3) := by decide +kernel
theorem d_Picture_forget_35 : decode b_Picture_forget 35 = .ok (.aload_n 0, 1) := by decide +kernel
theorem d_Picture_forget_36 : decode b_Picture_forget 36 = .ok (.iconst 0, 1) := by decide +kernel
theorem d_Picture_forget_37 : decode b_Picture_forget 37 = .ok (.putfield 60, 3) := by decide +kernel
theorem d_Picture_forget_40 : decode b_Picture_forget 40 = .ok (.aload_n 0, 1) := by decide +kernel
theorem d_Picture_forget_41 : decode b_Picture_forget 41 = .ok (.iconst 0, 1) := by decide +kernel
theorem d_Picture_forget_42 : decode b_Picture_forget 42 = .ok (.putfield 63, 3) := by decide +kernel
theorem d_Picture_forget_45 : decode b_Picture_forget 45 = .ok (.return_, 1) := by decide +kernel
abbrev b_Picture_takeSign : ByteArray := prog_5_method_9_code
abbrev y_Picture_takeSign : MethodName := ⟨"EditMoves$Picture", "takeSign", "(LEditMoves$Line;I)I"⟩
def ws_Picture_takeSign : List Cond := .code y_Picture_takeSign b_Picture_takeSign 6 (some .int) :: wAll
theorem d_Picture_takeSign_0 : decode b_Picture_takeSign 0 = .ok (.aload_n 1, 1) := by decide +kernel
theorem d_Picture_takeSign_1 : decode b_Picture_takeSign 1 = .ok (.aload_n 0, 1) := by decide +kernel
theorem d_Picture_takeSign_2 : decode b_Picture_takeSign 2 = .ok (.getfield 47, 3) := by decide +kernel
theorem d_Picture_takeSign_5 : decode b_Picture_takeSign 5 = .ok (.invokevirtual 77, 3) := by decide +kernel
theorem d_Picture_takeSign_8 : decode b_Picture_takeSign 8 = .ok (.istore_n 3, 1) := by decide +kernel
theorem d_Picture_takeSign_9 : decode b_Picture_takeSign 9 = .ok (.iload_n 3, 1) := by decide +kernel
theorem d_Picture_takeSign_10 : decode b_Picture_takeSign 10 = .ok (.invokestatic 81, 3) := by decide +kernel
theorem d_Picture_takeSign_13 : decode b_Picture_takeSign 13 = .ok (.istore 4, 2) := by decide +kernel
theorem d_Picture_takeSign_15 : decode b_Picture_takeSign 15 = .ok (.aload_n 1, 1) := by decide +kernel
theorem d_Picture_takeSign_16 : decode b_Picture_takeSign 16 = .ok (.aload_n 0, 1) := by decide +kernel
theorem d_Picture_takeSign_17 : decode b_Picture_takeSign 17 = .ok (.getfield 47, 3) := by decide +kernel
theorem d_Picture_takeSign_20 : decode b_Picture_takeSign 20 = .ok (.iconst 1, 1) := by decide +kernel
theorem d_Picture_takeSign_21 : decode b_Picture_takeSign 21 = .ok (.iadd, 1) := by decide +kernel
theorem d_Picture_takeSign_22 : decode b_Picture_takeSign 22 = .ok (.invokevirtual 77, 3) := by decide +kernel
theorem d_Picture_takeSign_25 : decode b_Picture_takeSign 25 = .ok (.invokestatic 81, 3) := by decide +kernel
theorem d_Picture_takeSign_28 : decode b_Picture_takeSign 28 = .ok (.istore 5, 2) := by decide +kernel
theorem d_Picture_takeSign_30 : decode b_Picture_takeSign 30 = .ok (.aload_n 0, 1) := by decide +kernel
theorem d_Picture_takeSign_31 : decode b_Picture_takeSign 31 = .ok (.dup, 1) := by decide +kernel
theorem d_Picture_takeSign_32 : decode b_Picture_takeSign 32 = .ok (.getfield 47, 3) := by decide +kernel
theorem d_Picture_takeSign_35 : decode b_Picture_takeSign 35 = .ok (.iconst 1, 1) := by decide +kernel
theorem d_Picture_takeSign_36 : decode b_Picture_takeSign 36 = .ok (.iadd, 1) := by decide +kernel
theorem d_Picture_takeSign_37 : decode b_Picture_takeSign 37 = .ok (.putfield 47, 3) := by decide +kernel
theorem d_Picture_takeSign_40 : decode b_Picture_takeSign 40 = .ok (.iload_n 3, 1) := by decide +kernel
theorem d_Picture_takeSign_41 : decode b_Picture_takeSign 41 = .ok (.iload_n 2, 1) := by decide +kernel
theorem d_Picture_takeSign_42 : decode b_Picture_takeSign 42 = .ok (.if_icmp .eq 14, 3) := by decide +kernel
theorem d_Picture_takeSign_45 : decode b_Picture_takeSign 45 = .ok (.ldc 86, 2) := by decide +kernel
theorem d_Picture_takeSign_47 : decode b_Picture_takeSign 47 = .ok (.iload 4, 2) := by decide +kernel
theorem d_Picture_takeSign_49 : decode b_Picture_takeSign 49 = .ok (.i2c, 1) := by decide +kernel
theorem d_Picture_takeSign_50 : decode b_Picture_takeSign 50 = .ok (.invokevirtual 88, 3) := by decide +kernel
theorem d_Picture_takeSign_53 : decode b_Picture_takeSign 53 = .ok (.ifCond .lt 6, 3) := by decide +kernel
theorem d_Picture_takeSign_56 : decode b_Picture_takeSign 56 = .ok (.iload 4, 2) := by decide +kernel
theorem d_Picture_takeSign_58 : decode b_Picture_takeSign 58 = .ok (.ireturn, 1) := by decide +kernel
theorem d_Picture_takeSign_59 : decode b_Picture_takeSign 59 = .ok (.iload 4, 2) := by decide +kernel
theorem d_Picture_takeSign_61 : decode b_Picture_takeSign 61 = .ok (.bipush 67, 2) := by decide +kernel
theorem d_Picture_takeSign_63 : decode b_Picture_takeSign 63 = .ok (.if_icmp .ne 10, 3) := by decide +kernel
theorem d_Picture_takeSign_66 : decode b_Picture_takeSign 66 = .ok (.iload 5, 2) := by decide +kernel
theorem d_Picture_takeSign_68 : decode b_Picture_takeSign 68 = .ok (.bipush 82, 2) := by decide +kernel
theorem d_Picture_takeSign_70 : decode b_Picture_takeSign 70 = .ok (.if_icmp .eq 17, 3) := by decide +kernel
theorem d_Picture_takeSign_73 : decode b_Picture_takeSign 73 = .ok (.iload 4, 2) := by decide +kernel
theorem d_Picture_takeSign_75 : decode b_Picture_takeSign 75 = .ok (.bipush 68, 2) := by decide +kernel
theorem d_Picture_takeSign_77 : decode b_Picture_takeSign 77 = .ok (.if_icmp .ne 23, 3) := by decide +kernel
theorem d_Picture_takeSign_80 : decode b_Picture_takeSign 80 = .ok (.iload 5, 2) := by decide +kernel
theorem d_Picture_takeSign_82 : decode b_Picture_takeSign 82 = .ok (.bipush 66, 2) := by decide +kernel
theorem d_Picture_takeSign_84 : decode b_Picture_takeSign 84 = .ok (.if_icmp .ne 16, 3) := by decide +kernel
theorem d_Picture_takeSign_87 : decode b_Picture_takeSign 87 = .ok (.aload_n 0, 1) := by decide +kernel
theorem d_Picture_takeSign_88 : decode b_Picture_takeSign 88 = .ok (.dup, 1) := by decide +kernel
theorem d_Picture_takeSign_89 : decode b_Picture_takeSign 89 = .ok (.getfield 47, 3) := by decide +kernel
theorem d_Picture_takeSign_92 : decode b_Picture_takeSign 92 = .ok (.iconst 1, 1) := by decide +kernel
theorem d_Picture_takeSign_93 : decode b_Picture_takeSign 93 = .ok (.iadd, 1) := by decide +kernel
theorem d_Picture_takeSign_94 : decode b_Picture_takeSign 94 = .ok (.putfield 47, 3) := by decide +kernel
theorem d_Picture_takeSign_97 : decode b_Picture_takeSign 97 = .ok (.iload 4, 2) := by decide +kernel
theorem d_Picture_takeSign_99 : decode b_Picture_takeSign 99 = .ok (.ireturn, 1) := by decide +kernel
theorem d_Picture_takeSign_100 : decode b_Picture_takeSign 100 = .ok (.iconst 0, 1) := by decide +kernel
theorem d_Picture_takeSign_101 : decode b_Picture_takeSign 101 = .ok (.ireturn, 1) := by decide +kernel
abbrev b_Picture_takeCount : ByteArray := prog_5_method_10_code
abbrev y_Picture_takeCount : MethodName := ⟨"EditMoves$Picture", "takeCount", "(LEditMoves$Line;)I"⟩
def ws_Picture_takeCount : List Cond := .code y_Picture_takeCount b_Picture_takeCount 4 (some .int) :: wAll
theorem d_Picture_takeCount_0 : decode b_Picture_takeCount 0 = .ok (.aload_n 1, 1) := by decide +kernel
theorem d_Picture_takeCount_1 : decode b_Picture_takeCount 1 = .ok (.aload_n 0, 1) := by decide +kernel
theorem d_Picture_takeCount_2 : decode b_Picture_takeCount 2 = .ok (.getfield 47, 3) := by decide +kernel
theorem d_Picture_takeCount_5 : decode b_Picture_takeCount 5 = .ok (.invokevirtual 77, 3) := by decide +kernel
theorem d_Picture_takeCount_8 : decode b_Picture_takeCount 8 = .ok (.bipush 40, 2) := by decide +kernel
theorem d_Picture_takeCount_10 : decode b_Picture_takeCount 10 = .ok (.if_icmp .eq 5, 3) := by decide +kernel
theorem d_Picture_takeCount_13 : decode b_Picture_takeCount 13 = .ok (.iconst 1, 1) := by decide +kernel
theorem d_Picture_takeCount_14 : decode b_Picture_takeCount 14 = .ok (.ireturn, 1) := by decide +kernel
theorem d_Picture_takeCount_15 : decode b_Picture_takeCount 15 = .ok (.aload_n 1, 1) := by decide +kernel
theorem d_Picture_takeCount_16 : decode b_Picture_takeCount 16 = .ok (.aload_n 0, 1) := by decide +kernel
theorem d_Picture_takeCount_17 : decode b_Picture_takeCount 17 = .ok (.getfield 47, 3) := by decide +kernel
theorem d_Picture_takeCount_20 : decode b_Picture_takeCount 20 = .ok (.iconst 1, 1) := by decide +kernel
theorem d_Picture_takeCount_21 : decode b_Picture_takeCount 21 = .ok (.iadd, 1) := by decide +kernel
theorem d_Picture_takeCount_22 : decode b_Picture_takeCount 22 = .ok (.invokevirtual 77, 3) := by decide +kernel
theorem d_Picture_takeCount_25 : decode b_Picture_takeCount 25 = .ok (.istore_n 2, 1) := by decide +kernel
theorem d_Picture_takeCount_26 : decode b_Picture_takeCount 26 = .ok (.aload_n 1, 1) := by decide +kernel
theorem d_Picture_takeCount_27 : decode b_Picture_takeCount 27 = .ok (.aload_n 0, 1) := by decide +kernel
theorem d_Picture_takeCount_28 : decode b_Picture_takeCount 28 = .ok (.getfield 47, 3) := by decide +kernel
theorem d_Picture_takeCount_31 : decode b_Picture_takeCount 31 = .ok (.iconst 2, 1) := by decide +kernel
theorem d_Picture_takeCount_32 : decode b_Picture_takeCount 32 = .ok (.iadd, 1) := by decide +kernel
theorem d_Picture_takeCount_33 : decode b_Picture_takeCount 33 = .ok (.invokevirtual 77, 3) := by decide +kernel
theorem d_Picture_takeCount_36 : decode b_Picture_takeCount 36 = .ok (.istore_n 3, 1) := by decide +kernel
theorem d_Picture_takeCount_37 : decode b_Picture_takeCount 37 = .ok (.iload_n 2, 1) := by decide +kernel
theorem d_Picture_takeCount_38 : decode b_Picture_takeCount 38 = .ok (.invokestatic 93, 3) := by decide +kernel
theorem d_Picture_takeCount_41 : decode b_Picture_takeCount 41 = .ok (.ifCond .ne 5, 3) := by decide +kernel
theorem d_Picture_takeCount_44 : decode b_Picture_takeCount 44 = .ok (.iconst 0, 1) := by decide +kernel
theorem d_Picture_takeCount_45 : decode b_Picture_takeCount 45 = .ok (.ireturn, 1) := by decide +kernel
theorem d_Picture_takeCount_46 : decode b_Picture_takeCount 46 = .ok (.iload_n 3, 1) := by decide +kernel
theorem d_Picture_takeCount_47 : decode b_Picture_takeCount 47 = .ok (.bipush 41, 2) := by decide +kernel
theorem d_Picture_takeCount_49 : decode b_Picture_takeCount 49 = .ok (.if_icmp .ne 18, 3) := by decide +kernel
theorem d_Picture_takeCount_52 : decode b_Picture_takeCount 52 = .ok (.aload_n 0, 1) := by decide +kernel
theorem d_Picture_takeCount_53 : decode b_Picture_takeCount 53 = .ok (.dup, 1) := by decide +kernel
theorem d_Picture_takeCount_54 : decode b_Picture_takeCount 54 = .ok (.getfield 47, 3) := by decide +kernel
theorem d_Picture_takeCount_57 : decode b_Picture_takeCount 57 = .ok (.iconst 3, 1) := by decide +kernel
theorem d_Picture_takeCount_58 : decode b_Picture_takeCount 58 = .ok (.iadd, 1) := by decide +kernel
theorem d_Picture_takeCount_59 : decode b_Picture_takeCount 59 = .ok (.putfield 47, 3) := by decide +kernel
theorem d_Picture_takeCount_62 : decode b_Picture_takeCount 62 = .ok (.iload_n 2, 1) := by decide +kernel
theorem d_Picture_takeCount_63 : decode b_Picture_takeCount 63 = .ok (.bipush 48, 2) := by decide +kernel
theorem d_Picture_takeCount_65 : decode b_Picture_takeCount 65 = .ok (.isub, 1) := by decide +kernel
theorem d_Picture_takeCount_66 : decode b_Picture_takeCount 66 = .ok (.ireturn, 1) := by decide +kernel
theorem d_Picture_takeCount_67 : decode b_Picture_takeCount 67 = .ok (.iload_n 3, 1) := by decide +kernel
theorem d_Picture_takeCount_68 : decode b_Picture_takeCount 68 = .ok (.invokestatic 93, 3) := by decide +kernel
theorem d_Picture_takeCount_71 : decode b_Picture_takeCount 71 = .ok (.ifCond .eq 18, 3) := by decide +kernel
theorem d_Picture_takeCount_74 : decode b_Picture_takeCount 74 = .ok (.aload_n 1, 1) := by decide +kernel
theorem d_Picture_takeCount_75 : decode b_Picture_takeCount 75 = .ok (.aload_n 0, 1) := by decide +kernel
theorem d_Picture_takeCount_76 : decode b_Picture_takeCount 76 = .ok (.getfield 47, 3) := by decide +kernel
theorem d_Picture_takeCount_79 : decode b_Picture_takeCount 79 = .ok (.iconst 3, 1) := by decide +kernel
theorem d_Picture_takeCount_80 : decode b_Picture_takeCount 80 = .ok (.iadd, 1) := by decide +kernel
theorem d_Picture_takeCount_81 : decode b_Picture_takeCount 81 = .ok (.invokevirtual 77, 3) := by decide +kernel
theorem d_Picture_takeCount_84 : decode b_Picture_takeCount 84 = .ok (.bipush 41, 2) := by decide +kernel
theorem d_Picture_takeCount_86 : decode b_Picture_takeCount 86 = .ok (.if_icmp .eq 5, 3) := by decide +kernel
theorem d_Picture_takeCount_89 : decode b_Picture_takeCount 89 = .ok (.iconst 0, 1) := by decide +kernel
theorem d_Picture_takeCount_90 : decode b_Picture_takeCount 90 = .ok (.ireturn, 1) := by decide +kernel
theorem d_Picture_takeCount_91 : decode b_Picture_takeCount 91 = .ok (.aload_n 0, 1) := by decide +kernel
theorem d_Picture_takeCount_92 : decode b_Picture_takeCount 92 = .ok (.dup, 1) := by decide +kernel
theorem d_Picture_takeCount_93 : decode b_Picture_takeCount 93 = .ok (.getfield 47, 3) := by decide +kernel
theorem d_Picture_takeCount_96 : decode b_Picture_takeCount 96 = .ok (.iconst 4, 1) := by decide +kernel
theorem d_Picture_takeCount_97 : decode b_Picture_takeCount 97 = .ok (.iadd, 1) := by decide +kernel
theorem d_Picture_takeCount_98 : decode b_Picture_takeCount 98 = .ok (.putfield 47, 3) := by decide +kernel
theorem d_Picture_takeCount_101 : decode b_Picture_takeCount 101 = .ok (.iload_n 2, 1) := by decide +kernel
theorem d_Picture_takeCount_102 : decode b_Picture_takeCount 102 = .ok (.bipush 48, 2) := by decide +kernel
theorem d_Picture_takeCount_104 : decode b_Picture_takeCount 104 = .ok (.isub, 1) := by decide +kernel
theorem d_Picture_takeCount_105 : decode b_Picture_takeCount 105 = .ok (.bipush 10, 2) := by decide +kernel
theorem d_Picture_takeCount_107 : decode b_Picture_takeCount 107 = .ok (.imul, 1) := by decide +kernel
theorem d_Picture_takeCount_108 : decode b_Picture_takeCount 108 = .ok (.iload_n 3, 1) := by decide +kernel
theorem d_Picture_takeCount_109 : decode b_Picture_takeCount 109 = .ok (.bipush 48, 2) := by decide +kernel
theorem d_Picture_takeCount_111 : decode b_Picture_takeCount 111 = .ok (.isub, 1) := by decide +kernel
theorem d_Picture_takeCount_112 : decode b_Picture_takeCount 112 = .ok (.iadd, 1) := by decide +kernel
theorem d_Picture_takeCount_113 : decode b_Picture_takeCount 113 = .ok (.ireturn, 1) := by decide +kernel
abbrev b_Picture_split : ByteArray := prog_5_method_8_code
abbrev y_Picture_split : MethodName := ⟨"EditMoves$Picture", "split", "(LEditMoves$Line;I)Z"⟩
def ws_Picture_split : List Cond := .code y_Picture_split b_Picture_split 6 (some .boolean) :: wAll
theorem d_Picture_split_0 : decode b_Picture_split 0 = .ok (.iconst 0, 1) := by decide +kernel
theorem d_Picture_split_1 : decode b_Picture_split 1 = .ok (.istore_n 3, 1) := by decide +kernel
theorem d_Picture_split_2 : decode b_Picture_split 2 = .ok (.iload_n 3, 1) := by decide +kernel
theorem d_Picture_split_3 : decode b_Picture_split 3 = .ok (.aload_n 0, 1) := by decide +kernel
theorem d_Picture_split_4 : decode b_Picture_split 4 = .ok (.getfield 9, 3) := by decide +kernel
theorem d_Picture_split_7 : decode b_Picture_split 7 = .ok (.arraylength, 1) := by decide +kernel
theorem d_Picture_split_8 : decode b_Picture_split 8 = .ok (.if_icmp .ge 70, 3) := by decide +kernel
theorem d_Picture_split_11 : decode b_Picture_split 11 = .ok (.aload_n 0, 1) := by decide +kernel
theorem d_Picture_split_12 : decode b_Picture_split 12 = .ok (.getfield 47, 3) := by decide +kernel
theorem d_Picture_split_15 : decode b_Picture_split 15 = .ok (.aload_n 1, 1) := by decide +kernel
theorem d_Picture_split_16 : decode b_Picture_split 16 = .ok (.getfield 66, 3) := by decide +kernel
theorem d_Picture_split_19 : decode b_Picture_split 19 = .ok (.if_icmp .ge 59, 3) := by decide +kernel
theorem d_Picture_split_22 : decode b_Picture_split 22 = .ok (.aload_n 0, 1) := by decide +kernel
theorem d_Picture_split_23 : decode b_Picture_split 23 = .ok (.aload_n 1, 1) := by decide +kernel
theorem d_Picture_split_24 : decode b_Picture_split 24 = .ok (.iload_n 2, 1) := by decide +kernel
theorem d_Picture_split_25 : decode b_Picture_split 25 = .ok (.invokevirtual 69, 3) := by decide +kernel
theorem d_Picture_split_28 : decode b_Picture_split 28 = .ok (.istore 4, 2) := by decide +kernel
theorem d_Picture_split_30 : decode b_Picture_split 30 = .ok (.aload_n 0, 1) := by decide +kernel
theorem d_Picture_split_31 : decode b_Picture_split 31 = .ok (.aload_n 1, 1) := by decide +kernel
theorem d_Picture_split_32 : decode b_Picture_split 32 = .ok (.invokevirtual 73, 3) := by decide +kernel
theorem d_Picture_split_35 : decode b_Picture_split 35 = .ok (.istore 5, 2) := by decide +kernel
theorem d_Picture_split_37 : decode b_Picture_split 37 = .ok (.iload 4, 2) := by decide +kernel
theorem d_Picture_split_39 : decode b_Picture_split 39 = .ok (.ifCond .eq 8, 3) := by decide +kernel
theorem d_Picture_split_42 : decode b_Picture_split 42 = .ok (.iload 5, 2) := by decide +kernel
theorem d_Picture_split_44 : decode b_Picture_split 44 = .ok (.ifCond .ne 5, 3) := by decide +kernel
theorem d_Picture_split_47 : decode b_Picture_split 47 = .ok (.iconst 0, 1) := by decide +kernel
theorem d_Picture_split_48 : decode b_Picture_split 48 = .ok (.ireturn, 1) := by decide +kernel
theorem d_Picture_split_49 : decode b_Picture_split 49 = .ok (.aload_n 0, 1) := by decide +kernel
theorem d_Picture_split_50 : decode b_Picture_split 50 = .ok (.getfield 9, 3) := by decide +kernel
theorem d_Picture_split_53 : decode b_Picture_split 53 = .ok (.iload_n 3, 1) := by decide +kernel
theorem d_Picture_split_54 : decode b_Picture_split 54 = .ok (.iload 4, 2) := by decide +kernel
theorem d_Picture_split_56 : decode b_Picture_split 56 = .ok (.iastore, 1) := by decide +kernel
theorem d_Picture_split_57 : decode b_Picture_split 57 = .ok (.aload_n 0, 1) := by decide +kernel
theorem d_Picture_split_58 : decode b_Picture_split 58 = .ok (.getfield 15, 3) := by decide +kernel
theorem d_Picture_split_61 : decode b_Picture_split 61 = .ok (.iload_n 3, 1) := by decide +kernel
theorem d_Picture_split_62 : decode b_Picture_split 62 = .ok (.iload 5, 2) := by decide +kernel
theorem d_Picture_split_64 : decode b_Picture_split 64 = .ok (.iastore, 1) := by decide +kernel
theorem d_Picture_split_65 : decode b_Picture_split 65 = .ok (.aload_n 0, 1) := by decide +kernel
theorem d_Picture_split_66 : decode b_Picture_split 66 = .ok (.iload_n 3, 1) := by decide +kernel
theorem d_Picture_split_67 : decode b_Picture_split 67 = .ok (.iconst 1, 1) := by decide +kernel
theorem d_Picture_split_68 : decode b_Picture_split 68 = .ok (.iadd, 1) := by decide +kernel
theorem d_Picture_split_69 : decode b_Picture_split 69 = .ok (.putfield 44, 3) := by decide +kernel
theorem d_Picture_split_72 : decode b_Picture_split 72 = .ok (.iinc 3 1, 3) := by decide +kernel
theorem d_Picture_split_75 : decode b_Picture_split 75 = .ok (.goto (-73), 3) := by decide +kernel
theorem d_Picture_split_78 : decode b_Picture_split 78 = .ok (.aload_n 0, 1) := by decide +kernel
theorem d_Picture_split_79 : decode b_Picture_split 79 = .ok (.getfield 44, 3) := by decide +kernel
theorem d_Picture_split_82 : decode b_Picture_split 82 = .ok (.ifCond .le 7, 3) := by decide +kernel
theorem d_Picture_split_85 : decode b_Picture_split 85 = .ok (.iconst 1, 1) := by decide +kernel
theorem d_Picture_split_86 : decode b_Picture_split 86 = .ok (.goto 4, 3) := by decide +kernel
theorem d_Picture_split_89 : decode b_Picture_split 89 = .ok (.iconst 0, 1) := by decide +kernel
theorem d_Picture_split_90 : decode b_Picture_split 90 = .ok (.ireturn, 1) := by decide +kernel
abbrev b_Picture_countPlaces : ByteArray := prog_5_method_11_code
abbrev y_Picture_countPlaces : MethodName := ⟨"EditMoves$Picture", "countPlaces", "()I"⟩
def ws_Picture_countPlaces : List Cond := .code y_Picture_countPlaces b_Picture_countPlaces 3 (some .int) :: wAll
theorem d_Picture_countPlaces_0 : decode b_Picture_countPlaces 0 = .ok (.iconst 0, 1) := by decide +kernel
theorem d_Picture_countPlaces_1 : decode b_Picture_countPlaces 1 = .ok (.istore_n 1, 1) := by decide +kernel
theorem d_Picture_countPlaces_2 : decode b_Picture_countPlaces 2 = .ok (.iconst 0, 1) := by decide +kernel
theorem d_Picture_countPlaces_3 : decode b_Picture_countPlaces 3 = .ok (.istore_n 2, 1) := by decide +kernel
theorem d_Picture_countPlaces_4 : decode b_Picture_countPlaces 4 = .ok (.iload_n 2, 1) := by decide +kernel
theorem d_Picture_countPlaces_5 : decode b_Picture_countPlaces 5 = .ok (.aload_n 0, 1) := by decide +kernel
theorem d_Picture_countPlaces_6 : decode b_Picture_countPlaces 6 = .ok (.getfield 44, 3) := by decide +kernel
theorem d_Picture_countPlaces_9 : decode b_Picture_countPlaces 9 = .ok (.if_icmp .ge 26, 3) := by decide +kernel
theorem d_Picture_countPlaces_12 : decode b_Picture_countPlaces 12 = .ok (.iload_n 1, 1) := by decide +kernel
theorem d_Picture_countPlaces_13 : decode b_Picture_countPlaces 13 = .ok (.aload_n 0, 1) := by decide +kernel
theorem d_Picture_countPlaces_14 : decode b_Picture_countPlaces 14 = .ok (.iload_n 2, 1) := by decide +kernel
theorem d_Picture_countPlaces_15 : decode b_Picture_countPlaces 15 = .ok (.invokevirtual 96, 3) := by decide +kernel
theorem d_Picture_countPlaces_18 : decode b_Picture_countPlaces 18 = .ok (.aload_n 0, 1) := by decide +kernel
theorem d_Picture_countPlaces_19 : decode b_Picture_countPlaces 19 = .ok (.iload_n 2, 1) := by decide +kernel
theorem d_Picture_countPlaces_20 : decode b_Picture_countPlaces 20 = .ok (.invokevirtual 99, 3) := by decide +kernel
theorem d_Picture_countPlaces_23 : decode b_Picture_countPlaces 23 = .ok (.invokestatic 102, 3) := by decide +kernel
theorem d_Picture_countPlaces_26 : decode b_Picture_countPlaces 26 = .ok (.imul, 1) := by decide +kernel
theorem d_Picture_countPlaces_27 : decode b_Picture_countPlaces 27 = .ok (.iadd, 1) := by decide +kernel
theorem d_Picture_countPlaces_28 : decode b_Picture_countPlaces 28 = .ok (.istore_n 1, 1) := by decide +kernel
theorem d_Picture_countPlaces_29 : decode b_Picture_countPlaces 29 = .ok (.iinc 2 1, 3) := by decide +kernel
theorem d_Picture_countPlaces_32 : decode b_Picture_countPlaces 32 = .ok (.goto (-28), 3) := by decide +kernel
theorem d_Picture_countPlaces_35 : decode b_Picture_countPlaces 35 = .ok (.iload_n 1, 1) := by decide +kernel
theorem d_Picture_countPlaces_36 : decode b_Picture_countPlaces 36 = .ok (.ireturn, 1) := by decide +kernel
abbrev b_Picture_isOfText : ByteArray := prog_5_method_12_code
abbrev y_Picture_isOfText : MethodName := ⟨"EditMoves$Picture", "isOfText", "()Z"⟩
def ws_Picture_isOfText : List Cond := .code y_Picture_isOfText b_Picture_isOfText 4 (some .boolean) :: wAll
theorem d_Picture_isOfText_0 : decode b_Picture_isOfText 0 = .ok (.iconst 0, 1) := by decide +kernel
theorem d_Picture_isOfText_1 : decode b_Picture_isOfText 1 = .ok (.istore_n 1, 1) := by decide +kernel
theorem d_Picture_isOfText_2 : decode b_Picture_isOfText 2 = .ok (.iconst 0, 1) := by decide +kernel
theorem d_Picture_isOfText_3 : decode b_Picture_isOfText 3 = .ok (.istore_n 2, 1) := by decide +kernel
theorem d_Picture_isOfText_4 : decode b_Picture_isOfText 4 = .ok (.iload_n 2, 1) := by decide +kernel
theorem d_Picture_isOfText_5 : decode b_Picture_isOfText 5 = .ok (.aload_n 0, 1) := by decide +kernel
theorem d_Picture_isOfText_6 : decode b_Picture_isOfText 6 = .ok (.getfield 44, 3) := by decide +kernel
theorem d_Picture_isOfText_9 : decode b_Picture_isOfText 9 = .ok (.if_icmp .ge 41, 3) := by decide +kernel
theorem d_Picture_isOfText_12 : decode b_Picture_isOfText 12 = .ok (.aload_n 0, 1) := by decide +kernel
theorem d_Picture_isOfText_13 : decode b_Picture_isOfText 13 = .ok (.iload_n 2, 1) := by decide +kernel
theorem d_Picture_isOfText_14 : decode b_Picture_isOfText 14 = .ok (.invokevirtual 99, 3) := by decide +kernel
theorem d_Picture_isOfText_17 : decode b_Picture_isOfText 17 = .ok (.istore_n 3, 1) := by decide +kernel
theorem d_Picture_isOfText_18 : decode b_Picture_isOfText 18 = .ok (.iload_n 3, 1) := by decide +kernel
theorem d_Picture_isOfText_19 : decode b_Picture_isOfText 19 = .ok (.bipush 88, 2) := by decide +kernel
theorem d_Picture_isOfText_21 : decode b_Picture_isOfText 21 = .ok (.if_icmp .ne 8, 3) := by decide +kernel
theorem d_Picture_isOfText_24 : decode b_Picture_isOfText 24 = .ok (.iconst 1, 1) := by decide +kernel
theorem d_Picture_isOfText_25 : decode b_Picture_isOfText 25 = .ok (.istore_n 1, 1) := by decide +kernel
theorem d_Picture_isOfText_26 : decode b_Picture_isOfText 26 = .ok (.goto 18, 3) := by decide +kernel
theorem d_Picture_isOfText_29 : decode b_Picture_isOfText 29 = .ok (.iload_n 3, 1) := by decide +kernel
theorem d_Picture_isOfText_30 : decode b_Picture_isOfText 30 = .ok (.bipush 44, 2) := by decide +kernel
theorem d_Picture_isOfText_32 : decode b_Picture_isOfText 32 = .ok (.if_icmp .eq 10, 3) := by decide +kernel
theorem d_Picture_isOfText_35 : decode b_Picture_isOfText 35 = .ok (.iload_n 3, 1) := by decide +kernel
theorem d_Picture_isOfText_36 : decode b_Picture_isOfText 36 = .ok (.invokestatic 105, 3) := by decide +kernel
theorem d_Picture_isOfText_39 : decode b_Picture_isOfText 39 = .ok (.ifCond .ne 5, 3) := by decide +kernel
theorem d_Picture_isOfText_42 : decode b_Picture_isOfText 42 = .ok (.iconst 0, 1) := by decide +kernel
theorem d_Picture_isOfText_43 : decode b_Picture_isOfText 43 = .ok (.ireturn, 1) := by decide +kernel
theorem d_Picture_isOfText_44 : decode b_Picture_isOfText 44 = .ok (.iinc 2 1, 3) := by decide +kernel
theorem d_Picture_isOfText_47 : decode b_Picture_isOfText 47 = .ok (.goto (-43), 3) := by decide +kernel
theorem d_Picture_isOfText_50 : decode b_Picture_isOfText 50 = .ok (.iload_n 1, 1) := by decide +kernel
theorem d_Picture_isOfText_51 : decode b_Picture_isOfText 51 = .ok (.ireturn, 1) := by decide +kernel
abbrev b_Picture_takeAll : ByteArray := prog_5_method_19_code
abbrev y_Picture_takeAll : MethodName := ⟨"EditMoves$Picture", "takeAll", "(I)I"⟩
def ws_Picture_takeAll : List Cond := .code y_Picture_takeAll b_Picture_takeAll 3 (some .int) :: wAll
theorem d_Picture_takeAll_0 : decode b_Picture_takeAll 0 = .ok (.iconst 0, 1) := by decide +kernel
theorem d_Picture_takeAll_1 : decode b_Picture_takeAll 1 = .ok (.istore_n 2, 1) := by decide +kernel
theorem d_Picture_takeAll_2 : decode b_Picture_takeAll 2 = .ok (.aload_n 0, 1) := by decide +kernel
theorem d_Picture_takeAll_3 : decode b_Picture_takeAll 3 = .ok (.getfield 47, 3) := by decide +kernel
theorem d_Picture_takeAll_6 : decode b_Picture_takeAll 6 = .ok (.aload_n 0, 1) := by decide +kernel
theorem d_Picture_takeAll_7 : decode b_Picture_takeAll 7 = .ok (.getfield 44, 3) := by decide +kernel
theorem d_Picture_takeAll_10 : decode b_Picture_takeAll 10 = .ok (.if_icmp .ge 74, 3) := by decide +kernel
theorem d_Picture_takeAll_13 : decode b_Picture_takeAll 13 = .ok (.aload_n 0, 1) := by decide +kernel
theorem d_Picture_takeAll_14 : decode b_Picture_takeAll 14 = .ok (.getfield 47, 3) := by decide +kernel
theorem d_Picture_takeAll_17 : decode b_Picture_takeAll 17 = .ok (.aload_n 0, 1) := by decide +kernel
theorem d_Picture_takeAll_18 : decode b_Picture_takeAll 18 = .ok (.getfield 9, 3) := by decide +kernel
theorem d_Picture_takeAll_21 : decode b_Picture_takeAll 21 = .ok (.arraylength, 1) := by decide +kernel
theorem d_Picture_takeAll_22 : decode b_Picture_takeAll 22 = .ok (.if_icmp .ge 62, 3) := by decide +kernel
theorem d_Picture_takeAll_25 : decode b_Picture_takeAll 25 = .ok (.aload_n 0, 1) := by decide +kernel
theorem d_Picture_takeAll_26 : decode b_Picture_takeAll 26 = .ok (.getfield 9, 3) := by decide +kernel
theorem d_Picture_takeAll_29 : decode b_Picture_takeAll 29 = .ok (.aload_n 0, 1) := by decide +kernel
theorem d_Picture_takeAll_30 : decode b_Picture_takeAll 30 = .ok (.getfield 47, 3) := by decide +kernel
theorem d_Picture_takeAll_33 : decode b_Picture_takeAll 33 = .ok (.iaload, 1) := by decide +kernel
theorem d_Picture_takeAll_34 : decode b_Picture_takeAll 34 = .ok (.iload_n 1, 1) := by decide +kernel
theorem d_Picture_takeAll_35 : decode b_Picture_takeAll 35 = .ok (.if_icmp .ne 18, 3) := by decide +kernel
theorem d_Picture_takeAll_38 : decode b_Picture_takeAll 38 = .ok (.iload_n 2, 1) := by decide +kernel
theorem d_Picture_takeAll_39 : decode b_Picture_takeAll 39 = .ok (.aload_n 0, 1) := by decide +kernel
theorem d_Picture_takeAll_40 : decode b_Picture_takeAll 40 = .ok (.getfield 15, 3) := by decide +kernel
theorem d_Picture_takeAll_43 : decode b_Picture_takeAll 43 = .ok (.aload_n 0, 1) := by decide +kernel
theorem d_Picture_takeAll_44 : decode b_Picture_takeAll 44 = .ok (.getfield 47, 3) := by decide +kernel
theorem d_Picture_takeAll_47 : decode b_Picture_takeAll 47 = .ok (.iaload, 1) := by decide +kernel
theorem d_Picture_takeAll_48 : decode b_Picture_takeAll 48 = .ok (.iadd, 1) := by decide +kernel
theorem d_Picture_takeAll_49 : decode b_Picture_takeAll 49 = .ok (.istore_n 2, 1) := by decide +kernel
theorem d_Picture_takeAll_50 : decode b_Picture_takeAll 50 = .ok (.goto 21, 3) := by decide +kernel
theorem d_Picture_takeAll_53 : decode b_Picture_takeAll 53 = .ok (.aload_n 0, 1) := by decide +kernel
theorem d_Picture_takeAll_54 : decode b_Picture_takeAll 54 = .ok (.getfield 9, 3) := by decide +kernel
theorem d_Picture_takeAll_57 : decode b_Picture_takeAll 57 = .ok (.aload_n 0, 1) := by decide +kernel
theorem d_Picture_takeAll_58 : decode b_Picture_takeAll 58 = .ok (.getfield 47, 3) := by decide +kernel
theorem d_Picture_takeAll_61 : decode b_Picture_takeAll 61 = .ok (.iaload, 1) := by decide +kernel
theorem d_Picture_takeAll_62 : decode b_Picture_takeAll 62 = .ok (.invokestatic 105, 3) := by decide +kernel
theorem d_Picture_takeAll_65 : decode b_Picture_takeAll 65 = .ok (.ifCond .ne 6, 3) := by decide +kernel
theorem d_Picture_takeAll_68 : decode b_Picture_takeAll 68 = .ok (.goto 16, 3) := by decide +kernel
theorem d_Picture_takeAll_71 : decode b_Picture_takeAll 71 = .ok (.aload_n 0, 1) := by decide +kernel
theorem d_Picture_takeAll_72 : decode b_Picture_takeAll 72 = .ok (.dup, 1) := by decide +kernel
theorem d_Picture_takeAll_73 : decode b_Picture_takeAll 73 = .ok (.getfield 47, 3) := by decide +kernel
theorem d_Picture_takeAll_76 : decode b_Picture_takeAll 76 = .ok (.iconst 1, 1) := by decide +kernel
theorem d_Picture_takeAll_77 : decode b_Picture_takeAll 77 = .ok (.iadd, 1) := by decide +kernel
theorem d_Picture_takeAll_78 : decode b_Picture_takeAll 78 = .ok (.putfield 47, 3) := by decide +kernel
theorem d_Picture_takeAll_81 : decode b_Picture_takeAll 81 = .ok (.goto (-79), 3) := by decide +kernel
theorem d_Picture_takeAll_84 : decode b_Picture_takeAll 84 = .ok (.iload_n 2, 1) := by decide +kernel
theorem d_Picture_takeAll_85 : decode b_Picture_takeAll 85 = .ok (.ireturn, 1) := by decide +kernel
abbrev b_Picture_takeOne : ByteArray := prog_5_method_18_code
abbrev y_Picture_takeOne : MethodName := ⟨"EditMoves$Picture", "takeOne", "(I)Z"⟩
def ws_Picture_takeOne : List Cond := .code y_Picture_takeOne b_Picture_takeOne 3 (some .boolean) :: wAll
theorem d_Picture_takeOne_0 : decode b_Picture_takeOne 0 = .ok (.aload_n 0, 1) := by decide +kernel
theorem d_Picture_takeOne_1 : decode b_Picture_takeOne 1 = .ok (.getfield 47, 3) := by decide +kernel
theorem d_Picture_takeOne_4 : decode b_Picture_takeOne 4 = .ok (.istore_n 2, 1) := by decide +kernel
theorem d_Picture_takeOne_5 : decode b_Picture_takeOne 5 = .ok (.aload_n 0, 1) := by decide +kernel
theorem d_Picture_takeOne_6 : decode b_Picture_takeOne 6 = .ok (.iload_n 1, 1) := by decide +kernel
theorem d_Picture_takeOne_7 : decode b_Picture_takeOne 7 = .ok (.invokevirtual 118, 3) := by decide +kernel
theorem d_Picture_takeOne_10 : decode b_Picture_takeOne 10 = .ok (.iconst 1, 1) := by decide +kernel
theorem d_Picture_takeOne_11 : decode b_Picture_takeOne 11 = .ok (.if_icmp .ne 5, 3) := by decide +kernel
theorem d_Picture_takeOne_14 : decode b_Picture_takeOne 14 = .ok (.iconst 1, 1) := by decide +kernel
theorem d_Picture_takeOne_15 : decode b_Picture_takeOne 15 = .ok (.ireturn, 1) := by decide +kernel
theorem d_Picture_takeOne_16 : decode b_Picture_takeOne 16 = .ok (.aload_n 0, 1) := by decide +kernel
theorem d_Picture_takeOne_17 : decode b_Picture_takeOne 17 = .ok (.iload_n 2, 1) := by decide +kernel
theorem d_Picture_takeOne_18 : decode b_Picture_takeOne 18 = .ok (.putfield 47, 3) := by decide +kernel
theorem d_Picture_takeOne_21 : decode b_Picture_takeOne 21 = .ok (.iconst 0, 1) := by decide +kernel
theorem d_Picture_takeOne_22 : decode b_Picture_takeOne 22 = .ok (.ireturn, 1) := by decide +kernel
abbrev b_Picture_upcoming : ByteArray := prog_5_method_17_code
abbrev y_Picture_upcoming : MethodName := ⟨"EditMoves$Picture", "upcoming", "()I"⟩
def ws_Picture_upcoming : List Cond := .code y_Picture_upcoming b_Picture_upcoming 1 (some .int) :: wAll
theorem d_Picture_upcoming_0 : decode b_Picture_upcoming 0 = .ok (.aload_n 0, 1) := by decide +kernel
theorem d_Picture_upcoming_1 : decode b_Picture_upcoming 1 = .ok (.getfield 47, 3) := by decide +kernel
theorem d_Picture_upcoming_4 : decode b_Picture_upcoming 4 = .ok (.aload_n 0, 1) := by decide +kernel
theorem d_Picture_upcoming_5 : decode b_Picture_upcoming 5 = .ok (.getfield 44, 3) := by decide +kernel
theorem d_Picture_upcoming_8 : decode b_Picture_upcoming 8 = .ok (.if_icmp .ge 30, 3) := by decide +kernel
theorem d_Picture_upcoming_11 : decode b_Picture_upcoming 11 = .ok (.aload_n 0, 1) := by decide +kernel
theorem d_Picture_upcoming_12 : decode b_Picture_upcoming 12 = .ok (.aload_n 0, 1) := by decide +kernel
theorem d_Picture_upcoming_13 : decode b_Picture_upcoming 13 = .ok (.getfield 47, 3) := by decide +kernel
theorem d_Picture_upcoming_16 : decode b_Picture_upcoming 16 = .ok (.invokevirtual 99, 3) := by decide +kernel
theorem d_Picture_upcoming_19 : decode b_Picture_upcoming 19 = .ok (.invokestatic 105, 3) := by decide +kernel
theorem d_Picture_upcoming_22 : decode b_Picture_upcoming 22 = .ok (.ifCond .eq 16, 3) := by decide +kernel
theorem d_Picture_upcoming_25 : decode b_Picture_upcoming 25 = .ok (.aload_n 0, 1) := by decide +kernel
theorem d_Picture_upcoming_26 : decode b_Picture_upcoming 26 = .ok (.dup, 1) := by decide +kernel
theorem d_Picture_upcoming_27 : decode b_Picture_upcoming 27 = .ok (.getfield 47, 3) := by decide +kernel
theorem d_Picture_upcoming_30 : decode b_Picture_upcoming 30 = .ok (.iconst 1, 1) := by decide +kernel
theorem d_Picture_upcoming_31 : decode b_Picture_upcoming 31 = .ok (.iadd, 1) := by decide +kernel
theorem d_Picture_upcoming_32 : decode b_Picture_upcoming 32 = .ok (.putfield 47, 3) := by decide +kernel
theorem d_Picture_upcoming_35 : decode b_Picture_upcoming 35 = .ok (.goto (-35), 3) := by decide +kernel
theorem d_Picture_upcoming_38 : decode b_Picture_upcoming 38 = .ok (.aload_n 0, 1) := by decide +kernel
theorem d_Picture_upcoming_39 : decode b_Picture_upcoming 39 = .ok (.aload_n 0, 1) := by decide +kernel
theorem d_Picture_upcoming_40 : decode b_Picture_upcoming 40 = .ok (.getfield 47, 3) := by decide +kernel
theorem d_Picture_upcoming_43 : decode b_Picture_upcoming 43 = .ok (.invokevirtual 99, 3) := by decide +kernel
theorem d_Picture_upcoming_46 : decode b_Picture_upcoming 46 = .ok (.ireturn, 1) := by decide +kernel
abbrev b_Picture_takeEnd : ByteArray := prog_5_method_16_code
abbrev y_Picture_takeEnd : MethodName := ⟨"EditMoves$Picture", "takeEnd", "()Z"⟩
def ws_Picture_takeEnd : List Cond := .code y_Picture_takeEnd b_Picture_takeEnd 2 (some .boolean) :: wAll
theorem d_Picture_takeEnd_0 : decode b_Picture_takeEnd 0 = .ok (.aload_n 0, 1) := by decide +kernel
theorem d_Picture_takeEnd_1 : decode b_Picture_takeEnd 1 = .ok (.bipush 43, 2) := by decide +kernel
theorem d_Picture_takeEnd_3 : decode b_Picture_takeEnd 3 = .ok (.invokevirtual 111, 3) := by decide +kernel
theorem d_Picture_takeEnd_6 : decode b_Picture_takeEnd 6 = .ok (.ifCond .ne 12, 3) := by decide +kernel
theorem d_Picture_takeEnd_9 : decode b_Picture_takeEnd 9 = .ok (.aload_n 0, 1) := by decide +kernel
theorem d_Picture_takeEnd_10 : decode b_Picture_takeEnd 10 = .ok (.bipush 45, 2) := by decide +kernel
theorem d_Picture_takeEnd_12 : decode b_Picture_takeEnd 12 = .ok (.invokevirtual 111, 3) := by decide +kernel
theorem d_Picture_takeEnd_15 : decode b_Picture_takeEnd 15 = .ok (.ifCond .eq 5, 3) := by decide +kernel
theorem d_Picture_takeEnd_18 : decode b_Picture_takeEnd 18 = .ok (.iconst 1, 1) := by decide +kernel
theorem d_Picture_takeEnd_19 : decode b_Picture_takeEnd 19 = .ok (.ireturn, 1) := by decide +kernel
theorem d_Picture_takeEnd_20 : decode b_Picture_takeEnd 20 = .ok (.aload_n 0, 1) := by decide +kernel
theorem d_Picture_takeEnd_21 : decode b_Picture_takeEnd 21 = .ok (.bipush 67, 2) := by decide +kernel
theorem d_Picture_takeEnd_23 : decode b_Picture_takeEnd 23 = .ok (.invokevirtual 111, 3) := by decide +kernel
theorem d_Picture_takeEnd_26 : decode b_Picture_takeEnd 26 = .ok (.ifCond .ne 12, 3) := by decide +kernel
theorem d_Picture_takeEnd_29 : decode b_Picture_takeEnd 29 = .ok (.aload_n 0, 1) := by decide +kernel
theorem d_Picture_takeEnd_30 : decode b_Picture_takeEnd 30 = .ok (.bipush 68, 2) := by decide +kernel
theorem d_Picture_takeEnd_32 : decode b_Picture_takeEnd 32 = .ok (.invokevirtual 111, 3) := by decide +kernel
theorem d_Picture_takeEnd_35 : decode b_Picture_takeEnd 35 = .ok (.ifCond .eq 32, 3) := by decide +kernel
theorem d_Picture_takeEnd_38 : decode b_Picture_takeEnd 38 = .ok (.aload_n 0, 1) := by decide +kernel
theorem d_Picture_takeEnd_39 : decode b_Picture_takeEnd 39 = .ok (.aload_n 0, 1) := by decide +kernel
theorem d_Picture_takeEnd_40 : decode b_Picture_takeEnd 40 = .ok (.getfield 44, 3) := by decide +kernel
theorem d_Picture_takeEnd_43 : decode b_Picture_takeEnd 43 = .ok (.iconst 1, 1) := by decide +kernel
theorem d_Picture_takeEnd_44 : decode b_Picture_takeEnd 44 = .ok (.isub, 1) := by decide +kernel
theorem d_Picture_takeEnd_45 : decode b_Picture_takeEnd 45 = .ok (.invokevirtual 99, 3) := by decide +kernel
theorem d_Picture_takeEnd_48 : decode b_Picture_takeEnd 48 = .ok (.istore_n 1, 1) := by decide +kernel
theorem d_Picture_takeEnd_49 : decode b_Picture_takeEnd 49 = .ok (.iload_n 1, 1) := by decide +kernel
theorem d_Picture_takeEnd_50 : decode b_Picture_takeEnd 50 = .ok (.bipush 67, 2) := by decide +kernel
theorem d_Picture_takeEnd_52 : decode b_Picture_takeEnd 52 = .ok (.if_icmp .eq 9, 3) := by decide +kernel
theorem d_Picture_takeEnd_55 : decode b_Picture_takeEnd 55 = .ok (.iload_n 1, 1) := by decide +kernel
theorem d_Picture_takeEnd_56 : decode b_Picture_takeEnd 56 = .ok (.bipush 68, 2) := by decide +kernel
theorem d_Picture_takeEnd_58 : decode b_Picture_takeEnd 58 = .ok (.if_icmp .ne 7, 3) := by decide +kernel
theorem d_Picture_takeEnd_61 : decode b_Picture_takeEnd 61 = .ok (.iconst 1, 1) := by decide +kernel
theorem d_Picture_takeEnd_62 : decode b_Picture_takeEnd 62 = .ok (.goto 4, 3) := by decide +kernel
theorem d_Picture_takeEnd_65 : decode b_Picture_takeEnd 65 = .ok (.iconst 0, 1) := by decide +kernel
theorem d_Picture_takeEnd_66 : decode b_Picture_takeEnd 66 = .ok (.ireturn, 1) := by decide +kernel
theorem d_Picture_takeEnd_67 : decode b_Picture_takeEnd 67 = .ok (.iconst 1, 1) := by decide +kernel
theorem d_Picture_takeEnd_68 : decode b_Picture_takeEnd 68 = .ok (.ireturn, 1) := by decide +kernel
abbrev b_Picture_takeString : ByteArray := prog_5_method_15_code
abbrev y_Picture_takeString : MethodName := ⟨"EditMoves$Picture", "takeString", "(II)I"⟩
def ws_Picture_takeString : List Cond := .code y_Picture_takeString b_Picture_takeString 7 (some .int) :: wAll
theorem d_Picture_takeString_0 : decode b_Picture_takeString 0 = .ok (.aload_n 0, 1) := by decide +kernel
theorem d_Picture_takeString_1 : decode b_Picture_takeString 1 = .ok (.invokevirtual 124, 3) := by decide +kernel
theorem d_Picture_takeString_4 : decode b_Picture_takeString 4 = .ok (.istore_n 3, 1) := by decide +kernel
theorem d_Picture_takeString_5 : decode b_Picture_takeString 5 = .ok (.iload_n 3, 1) := by decide +kernel
theorem d_Picture_takeString_6 : decode b_Picture_takeString 6 = .ok (.bipush 43, 2) := by decide +kernel
theorem d_Picture_takeString_8 : decode b_Picture_takeString 8 = .ok (.if_icmp .eq 14, 3) := by decide +kernel
theorem d_Picture_takeString_11 : decode b_Picture_takeString 11 = .ok (.iload_n 3, 1) := by decide +kernel
theorem d_Picture_takeString_12 : decode b_Picture_takeString 12 = .ok (.bipush 45, 2) := by decide +kernel
theorem d_Picture_takeString_14 : decode b_Picture_takeString 14 = .ok (.if_icmp .eq 8, 3) := by decide +kernel
theorem d_Picture_takeString_17 : decode b_Picture_takeString 17 = .ok (.iload_n 3, 1) := by decide +kernel
theorem d_Picture_takeString_18 : decode b_Picture_takeString 18 = .ok (.iload_n 2, 1) := by decide +kernel
theorem d_Picture_takeString_19 : decode b_Picture_takeString 19 = .ok (.if_icmp .ne 12, 3) := by decide +kernel
theorem d_Picture_takeString_22 : decode b_Picture_takeString 22 = .ok (.iload_n 3, 1) := by decide +kernel
theorem d_Picture_takeString_23 : decode b_Picture_takeString 23 = .ok (.iload_n 1, 1) := by decide +kernel
theorem d_Picture_takeString_24 : decode b_Picture_takeString 24 = .ok (.if_icmp .eq 7, 3) := by decide +kernel
theorem d_Picture_takeString_27 : decode b_Picture_takeString 27 = .ok (.iconst 1, 1) := by decide +kernel
theorem d_Picture_takeString_28 : decode b_Picture_takeString 28 = .ok (.goto 4, 3) := by decide +kernel
theorem d_Picture_takeString_31 : decode b_Picture_takeString 31 = .ok (.iconst 0, 1) := by decide +kernel
theorem d_Picture_takeString_32 : decode b_Picture_takeString 32 = .ok (.istore 4, 2) := by decide +kernel
theorem d_Picture_takeString_34 : decode b_Picture_takeString 34 = .ok (.iload_n 3, 1) := by decide +kernel
theorem d_Picture_takeString_35 : decode b_Picture_takeString 35 = .ok (.bipush 90, 2) := by decide +kernel
theorem d_Picture_takeString_37 : decode b_Picture_takeString 37 = .ok (.if_icmp .eq 16, 3) := by decide +kernel
theorem d_Picture_takeString_40 : decode b_Picture_takeString 40 = .ok (.iload_n 3, 1) := by decide +kernel
theorem d_Picture_takeString_41 : decode b_Picture_takeString 41 = .ok (.bipush 42, 2) := by decide +kernel
theorem d_Picture_takeString_43 : decode b_Picture_takeString 43 = .ok (.if_icmp .eq 10, 3) := by decide +kernel
theorem d_Picture_takeString_46 : decode b_Picture_takeString 46 = .ok (.iload 4, 2) := by decide +kernel
theorem d_Picture_takeString_48 : decode b_Picture_takeString 48 = .ok (.ifCond .ne 5, 3) := by decide +kernel
theorem d_Picture_takeString_51 : decode b_Picture_takeString 51 = .ok (.iconst 0, 1) := by decide +kernel
theorem d_Picture_takeString_52 : decode b_Picture_takeString 52 = .ok (.ireturn, 1) := by decide +kernel
theorem d_Picture_takeString_53 : decode b_Picture_takeString 53 = .ok (.aload_n 0, 1) := by decide +kernel
theorem d_Picture_takeString_54 : decode b_Picture_takeString 54 = .ok (.getfield 47, 3) := by decide +kernel
theorem d_Picture_takeString_57 : decode b_Picture_takeString 57 = .ok (.istore 5, 2) := by decide +kernel
theorem d_Picture_takeString_59 : decode b_Picture_takeString 59 = .ok (.aload_n 0, 1) := by decide +kernel
theorem d_Picture_takeString_60 : decode b_Picture_takeString 60 = .ok (.iload_n 3, 1) := by decide +kernel
theorem d_Picture_takeString_61 : decode b_Picture_takeString 61 = .ok (.invokevirtual 118, 3) := by decide +kernel
theorem d_Picture_takeString_64 : decode b_Picture_takeString 64 = .ok (.istore 6, 2) := by decide +kernel
theorem d_Picture_takeString_66 : decode b_Picture_takeString 66 = .ok (.iload 4, 2) := by decide +kernel
theorem d_Picture_takeString_68 : decode b_Picture_takeString 68 = .ok (.ifCond .eq 17, 3) := by decide +kernel
theorem d_Picture_takeString_71 : decode b_Picture_takeString 71 = .ok (.iload 6, 2) := by decide +kernel
theorem d_Picture_takeString_73 : decode b_Picture_takeString 73 = .ok (.iconst 2, 1) := by decide +kernel
theorem d_Picture_takeString_74 : decode b_Picture_takeString 74 = .ok (.if_icmp .ge 11, 3) := by decide +kernel
theorem d_Picture_takeString_77 : decode b_Picture_takeString 77 = .ok (.aload_n 0, 1) := by decide +kernel
theorem d_Picture_takeString_78 : decode b_Picture_takeString 78 = .ok (.iload 5, 2) := by decide +kernel
theorem d_Picture_takeString_80 : decode b_Picture_takeString 80 = .ok (.putfield 47, 3) := by decide +kernel
theorem d_Picture_takeString_83 : decode b_Picture_takeString 83 = .ok (.iconst 0, 1) := by decide +kernel
theorem d_Picture_takeString_84 : decode b_Picture_takeString 84 = .ok (.ireturn, 1) := by decide +kernel
theorem d_Picture_takeString_85 : decode b_Picture_takeString 85 = .ok (.aload_n 0, 1) := by decide +kernel
theorem d_Picture_takeString_86 : decode b_Picture_takeString 86 = .ok (.iload_n 3, 1) := by decide +kernel
theorem d_Picture_takeString_87 : decode b_Picture_takeString 87 = .ok (.putfield 60, 3) := by decide +kernel
theorem d_Picture_takeString_90 : decode b_Picture_takeString 90 = .ok (.aload_n 0, 1) := by decide +kernel
theorem d_Picture_takeString_91 : decode b_Picture_takeString 91 = .ok (.iload 4, 2) := by decide +kernel
theorem d_Picture_takeString_93 : decode b_Picture_takeString 93 = .ok (.putfield 63, 3) := by decide +kernel
theorem d_Picture_takeString_96 : decode b_Picture_takeString 96 = .ok (.iload 6, 2) := by decide +kernel
theorem d_Picture_takeString_98 : decode b_Picture_takeString 98 = .ok (.ireturn, 1) := by decide +kernel
abbrev b_Picture_takeFixedSign : ByteArray := prog_5_method_14_code
abbrev y_Picture_takeFixedSign : MethodName := ⟨"EditMoves$Picture", "takeFixedSign", "()I"⟩
def ws_Picture_takeFixedSign : List Cond := .code y_Picture_takeFixedSign b_Picture_takeFixedSign 1 (some .int) :: wAll
theorem d_Picture_takeFixedSign_0 : decode b_Picture_takeFixedSign 0 = .ok (.aload_n 0, 1) := by decide +kernel
theorem d_Picture_takeFixedSign_1 : decode b_Picture_takeFixedSign 1 = .ok (.bipush 43, 2) := by decide +kernel
theorem d_Picture_takeFixedSign_3 : decode b_Picture_takeFixedSign 3 = .ok (.invokevirtual 111, 3) := by decide +kernel
theorem d_Picture_takeFixedSign_6 : decode b_Picture_takeFixedSign 6 = .ok (.ifCond .eq 6, 3) := by decide +kernel
theorem d_Picture_takeFixedSign_9 : decode b_Picture_takeFixedSign 9 = .ok (.bipush 43, 2) := by decide +kernel
theorem d_Picture_takeFixedSign_11 : decode b_Picture_takeFixedSign 11 = .ok (.ireturn, 1) := by decide +kernel
theorem d_Picture_takeFixedSign_12 : decode b_Picture_takeFixedSign 12 = .ok (.aload_n 0, 1) := by decide +kernel
theorem d_Picture_takeFixedSign_13 : decode b_Picture_takeFixedSign 13 = .ok (.bipush 45, 2) := by decide +kernel
theorem d_Picture_takeFixedSign_15 : decode b_Picture_takeFixedSign 15 = .ok (.invokevirtual 111, 3) := by decide +kernel
theorem d_Picture_takeFixedSign_18 : decode b_Picture_takeFixedSign 18 = .ok (.ifCond .eq 8, 3) := by decide +kernel
theorem d_Picture_takeFixedSign_21 : decode b_Picture_takeFixedSign 21 = .ok (.bipush 45, 2) := by decide +kernel
theorem d_Picture_takeFixedSign_23 : decode b_Picture_takeFixedSign 23 = .ok (.goto 4, 3) := by decide +kernel
theorem d_Picture_takeFixedSign_26 : decode b_Picture_takeFixedSign 26 = .ok (.iconst 0, 1) := by decide +kernel
theorem d_Picture_takeFixedSign_27 : decode b_Picture_takeFixedSign 27 = .ok (.ireturn, 1) := by decide +kernel
abbrev b_Picture_isOfNumber : ByteArray := prog_5_method_13_code
abbrev y_Picture_isOfNumber : MethodName := ⟨"EditMoves$Picture", "isOfNumber", "(I)Z"⟩
def ws_Picture_isOfNumber : List Cond := .code y_Picture_isOfNumber b_Picture_isOfNumber 9 (some .boolean) :: wAll
theorem d_Picture_isOfNumber_0 : decode b_Picture_isOfNumber 0 = .ok (.aload_n 0, 1) := by decide +kernel
theorem d_Picture_isOfNumber_1 : decode b_Picture_isOfNumber 1 = .ok (.iconst 0, 1) := by decide +kernel
theorem d_Picture_isOfNumber_2 : decode b_Picture_isOfNumber 2 = .ok (.putfield 47, 3) := by decide +kernel
theorem d_Picture_isOfNumber_5 : decode b_Picture_isOfNumber 5 = .ok (.aload_n 0, 1) := by decide +kernel
theorem d_Picture_isOfNumber_6 : decode b_Picture_isOfNumber 6 = .ok (.invokevirtual 108, 3) := by decide +kernel
theorem d_Picture_isOfNumber_9 : decode b_Picture_isOfNumber 9 = .ok (.istore_n 2, 1) := by decide +kernel
theorem d_Picture_isOfNumber_10 : decode b_Picture_isOfNumber 10 = .ok (.aload_n 0, 1) := by decide +kernel
theorem d_Picture_isOfNumber_11 : decode b_Picture_isOfNumber 11 = .ok (.iload_n 1, 1) := by decide +kernel
theorem d_Picture_isOfNumber_12 : decode b_Picture_isOfNumber 12 = .ok (.invokevirtual 111, 3) := by decide +kernel
theorem d_Picture_isOfNumber_15 : decode b_Picture_isOfNumber 15 = .ok (.pop, 1) := by decide +kernel
theorem d_Picture_isOfNumber_16 : decode b_Picture_isOfNumber 16 = .ok (.aload_n 0, 1) := by decide +kernel
theorem d_Picture_isOfNumber_17 : decode b_Picture_isOfNumber 17 = .ok (.iload_n 2, 1) := by decide +kernel
theorem d_Picture_isOfNumber_18 : decode b_Picture_isOfNumber 18 = .ok (.iload_n 1, 1) := by decide +kernel
theorem d_Picture_isOfNumber_19 : decode b_Picture_isOfNumber 19 = .ok (.invokevirtual 114, 3) := by decide +kernel
theorem d_Picture_isOfNumber_22 : decode b_Picture_isOfNumber 22 = .ok (.istore_n 3, 1) := by decide +kernel
theorem d_Picture_isOfNumber_23 : decode b_Picture_isOfNumber 23 = .ok (.aload_n 0, 1) := by decide +kernel
theorem d_Picture_isOfNumber_24 : decode b_Picture_isOfNumber 24 = .ok (.bipush 57, 2) := by decide +kernel
theorem d_Picture_isOfNumber_26 : decode b_Picture_isOfNumber 26 = .ok (.invokevirtual 118, 3) := by decide +kernel
theorem d_Picture_isOfNumber_29 : decode b_Picture_isOfNumber 29 = .ok (.istore 4, 2) := by decide +kernel
theorem d_Picture_isOfNumber_31 : decode b_Picture_isOfNumber 31 = .ok (.iconst 0, 1) := by decide +kernel
theorem d_Picture_isOfNumber_32 : decode b_Picture_isOfNumber 32 = .ok (.istore 5, 2) := by decide +kernel
theorem d_Picture_isOfNumber_34 : decode b_Picture_isOfNumber 34 = .ok (.iconst 0, 1) := by decide +kernel
theorem d_Picture_isOfNumber_35 : decode b_Picture_isOfNumber 35 = .ok (.istore 6, 2) := by decide +kernel
theorem d_Picture_isOfNumber_37 : decode b_Picture_isOfNumber 37 = .ok (.aload_n 0, 1) := by decide +kernel
theorem d_Picture_isOfNumber_38 : decode b_Picture_isOfNumber 38 = .ok (.bipush 46, 2) := by decide +kernel
theorem d_Picture_isOfNumber_40 : decode b_Picture_isOfNumber 40 = .ok (.invokevirtual 111, 3) := by decide +kernel
theorem d_Picture_isOfNumber_43 : decode b_Picture_isOfNumber 43 = .ok (.ifCond .ne 12, 3) := by decide +kernel
theorem d_Picture_isOfNumber_46 : decode b_Picture_isOfNumber 46 = .ok (.aload_n 0, 1) := by decide +kernel
theorem d_Picture_isOfNumber_47 : decode b_Picture_isOfNumber 47 = .ok (.bipush 86, 2) := by decide +kernel
theorem d_Picture_isOfNumber_49 : decode b_Picture_isOfNumber 49 = .ok (.invokevirtual 111, 3) := by decide +kernel
theorem d_Picture_isOfNumber_52 : decode b_Picture_isOfNumber 52 = .ok (.ifCond .eq 34, 3) := by decide +kernel
theorem d_Picture_isOfNumber_55 : decode b_Picture_isOfNumber 55 = .ok (.iload 4, 2) := by decide +kernel
theorem d_Picture_isOfNumber_57 : decode b_Picture_isOfNumber 57 = .ok (.ifCond .ne 18, 3) := by decide +kernel
theorem d_Picture_isOfNumber_60 : decode b_Picture_isOfNumber 60 = .ok (.iload_n 3, 1) := by decide +kernel
theorem d_Picture_isOfNumber_61 : decode b_Picture_isOfNumber 61 = .ok (.ifCond .le 14, 3) := by decide +kernel
theorem d_Picture_isOfNumber_64 : decode b_Picture_isOfNumber 64 = .ok (.aload_n 0, 1) := by decide +kernel
theorem d_Picture_isOfNumber_65 : decode b_Picture_isOfNumber 65 = .ok (.aload_n 0, 1) := by decide +kernel
theorem d_Picture_isOfNumber_66 : decode b_Picture_isOfNumber 66 = .ok (.getfield 60, 3) := by decide +kernel
theorem d_Picture_isOfNumber_69 : decode b_Picture_isOfNumber 69 = .ok (.invokevirtual 118, 3) := by decide +kernel
theorem d_Picture_isOfNumber_72 : decode b_Picture_isOfNumber 72 = .ok (.goto 4, 3) := by decide +kernel
theorem d_Picture_isOfNumber_75 : decode b_Picture_isOfNumber 75 = .ok (.iconst 0, 1) := by decide +kernel
theorem d_Picture_isOfNumber_76 : decode b_Picture_isOfNumber 76 = .ok (.istore 5, 2) := by decide +kernel
theorem d_Picture_isOfNumber_78 : decode b_Picture_isOfNumber 78 = .ok (.aload_n 0, 1) := by decide +kernel
theorem d_Picture_isOfNumber_79 : decode b_Picture_isOfNumber 79 = .ok (.bipush 57, 2) := by decide +kernel
theorem d_Picture_isOfNumber_81 : decode b_Picture_isOfNumber 81 = .ok (.invokevirtual 118, 3) := by decide +kernel
theorem d_Picture_isOfNumber_84 : decode b_Picture_isOfNumber 84 = .ok (.istore 6, 2) := by decide +kernel
theorem d_Picture_isOfNumber_86 : decode b_Picture_isOfNumber 86 = .ok (.iload_n 2, 1) := by decide +kernel
theorem d_Picture_isOfNumber_87 : decode b_Picture_isOfNumber 87 = .ok (.ifCond .ne 21, 3) := by decide +kernel
theorem d_Picture_isOfNumber_90 : decode b_Picture_isOfNumber 90 = .ok (.aload_n 0, 1) := by decide +kernel
theorem d_Picture_isOfNumber_91 : decode b_Picture_isOfNumber 91 = .ok (.getfield 60, 3) := by decide +kernel
theorem d_Picture_isOfNumber_94 : decode b_Picture_isOfNumber 94 = .ok (.bipush 43, 2) := by decide +kernel
theorem d_Picture_isOfNumber_96 : decode b_Picture_isOfNumber 96 = .ok (.if_icmp .eq 12, 3) := by decide +kernel
theorem d_Picture_isOfNumber_99 : decode b_Picture_isOfNumber 99 = .ok (.aload_n 0, 1) := by decide +kernel
theorem d_Picture_isOfNumber_100 : decode b_Picture_isOfNumber 100 = .ok (.getfield 60, 3) := by decide +kernel
theorem d_Picture_isOfNumber_103 : decode b_Picture_isOfNumber 103 = .ok (.bipush 45, 2) := by decide +kernel
theorem d_Picture_isOfNumber_105 : decode b_Picture_isOfNumber 105 = .ok (.if_icmp .ne 7, 3) := by decide +kernel
theorem d_Picture_isOfNumber_108 : decode b_Picture_isOfNumber 108 = .ok (.iconst 1, 1) := by decide +kernel
theorem d_Picture_isOfNumber_109 : decode b_Picture_isOfNumber 109 = .ok (.goto 4, 3) := by decide +kernel
theorem d_Picture_isOfNumber_112 : decode b_Picture_isOfNumber 112 = .ok (.iconst 0, 1) := by decide +kernel
theorem d_Picture_isOfNumber_113 : decode b_Picture_isOfNumber 113 = .ok (.istore 7, 2) := by decide +kernel
theorem d_Picture_isOfNumber_115 : decode b_Picture_isOfNumber 115 = .ok (.iload 7, 2) := by decide +kernel
theorem d_Picture_isOfNumber_117 : decode b_Picture_isOfNumber 117 = .ok (.ifCond .ne 12, 3) := by decide +kernel
theorem d_Picture_isOfNumber_120 : decode b_Picture_isOfNumber 120 = .ok (.aload_n 0, 1) := by decide +kernel
theorem d_Picture_isOfNumber_121 : decode b_Picture_isOfNumber 121 = .ok (.invokevirtual 121, 3) := by decide +kernel
theorem d_Picture_isOfNumber_124 : decode b_Picture_isOfNumber 124 = .ok (.ifCond .ne 5, 3) := by decide +kernel
theorem d_Picture_isOfNumber_127 : decode b_Picture_isOfNumber 127 = .ok (.iconst 0, 1) := by decide +kernel
theorem d_Picture_isOfNumber_128 : decode b_Picture_isOfNumber 128 = .ok (.ireturn, 1) := by decide +kernel
theorem d_Picture_isOfNumber_129 : decode b_Picture_isOfNumber 129 = .ok (.aload_n 0, 1) := by decide +kernel
theorem d_Picture_isOfNumber_130 : decode b_Picture_isOfNumber 130 = .ok (.iload_n 3, 1) := by decide +kernel
theorem d_Picture_isOfNumber_131 : decode b_Picture_isOfNumber 131 = .ok (.aload_n 0, 1) := by decide +kernel
theorem d_Picture_isOfNumber_132 : decode b_Picture_isOfNumber 132 = .ok (.getfield 63, 3) := by decide +kernel
theorem d_Picture_isOfNumber_135 : decode b_Picture_isOfNumber 135 = .ok (.ifCond .eq 7, 3) := by decide +kernel
theorem d_Picture_isOfNumber_138 : decode b_Picture_isOfNumber 138 = .ok (.iconst 1, 1) := by decide +kernel
theorem d_Picture_isOfNumber_139 : decode b_Picture_isOfNumber 139 = .ok (.goto 4, 3) := by decide +kernel
theorem d_Picture_isOfNumber_142 : decode b_Picture_isOfNumber 142 = .ok (.iconst 0, 1) := by decide +kernel
theorem d_Picture_isOfNumber_143 : decode b_Picture_isOfNumber 143 = .ok (.isub, 1) := by decide +kernel
theorem d_Picture_isOfNumber_144 : decode b_Picture_isOfNumber 144 = .ok (.iload 4, 2) := by decide +kernel
theorem d_Picture_isOfNumber_146 : decode b_Picture_isOfNumber 146 = .ok (.iadd, 1) := by decide +kernel
theorem d_Picture_isOfNumber_147 : decode b_Picture_isOfNumber 147 = .ok (.putfield 50, 3) := by decide +kernel
theorem d_Picture_isOfNumber_150 : decode b_Picture_isOfNumber 150 = .ok (.aload_n 0, 1) := by decide +kernel
theorem d_Picture_isOfNumber_151 : decode b_Picture_isOfNumber 151 = .ok (.iload 5, 2) := by decide +kernel
theorem d_Picture_isOfNumber_153 : decode b_Picture_isOfNumber 153 = .ok (.iload 6, 2) := by decide +kernel
theorem d_Picture_isOfNumber_155 : decode b_Picture_isOfNumber 155 = .ok (.iadd, 1) := by decide +kernel
theorem d_Picture_isOfNumber_156 : decode b_Picture_isOfNumber 156 = .ok (.putfield 53, 3) := by decide +kernel
theorem d_Picture_isOfNumber_159 : decode b_Picture_isOfNumber 159 = .ok (.aload_n 0, 1) := by decide +kernel
theorem d_Picture_isOfNumber_160 : decode b_Picture_isOfNumber 160 = .ok (.iload 4, 2) := by decide +kernel
theorem d_Picture_isOfNumber_162 : decode b_Picture_isOfNumber 162 = .ok (.iload 6, 2) := by decide +kernel
theorem d_Picture_isOfNumber_164 : decode b_Picture_isOfNumber 164 = .ok (.iadd, 1) := by decide +kernel
theorem d_Picture_isOfNumber_165 : decode b_Picture_isOfNumber 165 = .ok (.ifCond .ne 7, 3) := by decide +kernel
theorem d_Picture_isOfNumber_168 : decode b_Picture_isOfNumber 168 = .ok (.iconst 1, 1) := by decide +kernel
theorem d_Picture_isOfNumber_169 : decode b_Picture_isOfNumber 169 = .ok (.goto 4, 3) := by decide +kernel
theorem d_Picture_isOfNumber_172 : decode b_Picture_isOfNumber 172 = .ok (.iconst 0, 1) := by decide +kernel
theorem d_Picture_isOfNumber_173 : decode b_Picture_isOfNumber 173 = .ok (.putfield 56, 3) := by decide +kernel
theorem d_Picture_isOfNumber_176 : decode b_Picture_isOfNumber 176 = .ok (.aload_n 0, 1) := by decide +kernel
theorem d_Picture_isOfNumber_177 : decode b_Picture_isOfNumber 177 = .ok (.getfield 50, 3) := by decide +kernel
theorem d_Picture_isOfNumber_180 : decode b_Picture_isOfNumber 180 = .ok (.aload_n 0, 1) := by decide +kernel
theorem d_Picture_isOfNumber_181 : decode b_Picture_isOfNumber 181 = .ok (.getfield 53, 3) := by decide +kernel
theorem d_Picture_isOfNumber_184 : decode b_Picture_isOfNumber 184 = .ok (.iadd, 1) := by decide +kernel
theorem d_Picture_isOfNumber_185 : decode b_Picture_isOfNumber 185 = .ok (.istore 8, 2) := by decide +kernel
theorem d_Picture_isOfNumber_187 : decode b_Picture_isOfNumber 187 = .ok (.aload_n 0, 1) := by decide +kernel
theorem d_Picture_isOfNumber_188 : decode b_Picture_isOfNumber 188 = .ok (.invokevirtual 124, 3) := by decide +kernel
theorem d_Picture_isOfNumber_191 : decode b_Picture_isOfNumber 191 = .ok (.ifCond .ne 20, 3) := by decide +kernel
theorem d_Picture_isOfNumber_194 : decode b_Picture_isOfNumber 194 = .ok (.iload 8, 2) := by decide +kernel
theorem d_Picture_isOfNumber_196 : decode b_Picture_isOfNumber 196 = .ok (.iconst 1, 1) := by decide +kernel
theorem d_Picture_isOfNumber_197 : decode b_Picture_isOfNumber 197 = .ok (.if_icmp .lt 14, 3) := by decide +kernel
theorem d_Picture_isOfNumber_200 : decode b_Picture_isOfNumber 200 = .ok (.iload 8, 2) := by decide +kernel
theorem d_Picture_isOfNumber_202 : decode b_Picture_isOfNumber 202 = .ok (.bipush 18, 2) := by decide +kernel
theorem d_Picture_isOfNumber_204 : decode b_Picture_isOfNumber 204 = .ok (.if_icmp .gt 7, 3) := by decide +kernel
theorem d_Picture_isOfNumber_207 : decode b_Picture_isOfNumber 207 = .ok (.iconst 1, 1) := by decide +kernel
theorem d_Picture_isOfNumber_208 : decode b_Picture_isOfNumber 208 = .ok (.goto 4, 3) := by decide +kernel
theorem d_Picture_isOfNumber_211 : decode b_Picture_isOfNumber 211 = .ok (.iconst 0, 1) := by decide +kernel
theorem d_Picture_isOfNumber_212 : decode b_Picture_isOfNumber 212 = .ok (.ireturn, 1) := by decide +kernel
abbrev b_Picture_read : ByteArray := prog_5_method_2_code
abbrev y_Picture_read : MethodName := ⟨"EditMoves$Picture", "read", "(LEditMoves$Line;I)V"⟩
def ws_Picture_read : List Cond := .code y_Picture_read b_Picture_read 4 none :: wAll
theorem d_Picture_read_0 : decode b_Picture_read 0 = .ok (.aload_n 0, 1) := by decide +kernel
theorem d_Picture_read_1 : decode b_Picture_read 1 = .ok (.invokevirtual 18, 3) := by decide +kernel
theorem d_Picture_read_4 : decode b_Picture_read 4 = .ok (.aload_n 0, 1) := by decide +kernel
theorem d_Picture_read_5 : decode b_Picture_read 5 = .ok (.aload_n 1, 1) := by decide +kernel
theorem d_Picture_read_6 : decode b_Picture_read 6 = .ok (.iload_n 2, 1) := by decide +kernel
theorem d_Picture_read_7 : decode b_Picture_read 7 = .ok (.invokevirtual 21, 3) := by decide +kernel
theorem d_Picture_read_10 : decode b_Picture_read 10 = .ok (.istore_n 3, 1) := by decide +kernel
theorem d_Picture_read_11 : decode b_Picture_read 11 = .ok (.iload_n 3, 1) := by decide +kernel
theorem d_Picture_read_12 : decode b_Picture_read 12 = .ok (.ifCond .eq 18, 3) := by decide +kernel
theorem d_Picture_read_15 : decode b_Picture_read 15 = .ok (.aload_n 0, 1) := by decide +kernel
theorem d_Picture_read_16 : decode b_Picture_read 16 = .ok (.invokevirtual 25, 3) := by decide +kernel
theorem d_Picture_read_19 : decode b_Picture_read 19 = .ok (.ifCond .eq 11, 3) := by decide +kernel
theorem d_Picture_read_22 : decode b_Picture_read 22 = .ok (.aload_n 0, 1) := by decide +kernel
theorem d_Picture_read_23 : decode b_Picture_read 23 = .ok (.iconst 2, 1) := by decide +kernel
theorem d_Picture_read_24 : decode b_Picture_read 24 = .ok (.putfield 29, 3) := by decide +kernel
theorem d_Picture_read_27 : decode b_Picture_read 27 = .ok (.goto 28, 3) := by decide +kernel
theorem d_Picture_read_30 : decode b_Picture_read 30 = .ok (.iload_n 3, 1) := by decide +kernel
theorem d_Picture_read_31 : decode b_Picture_read 31 = .ok (.ifCond .eq 19, 3) := by decide +kernel
theorem d_Picture_read_34 : decode b_Picture_read 34 = .ok (.aload_n 0, 1) := by decide +kernel
theorem d_Picture_read_35 : decode b_Picture_read 35 = .ok (.iload_n 2, 1) := by decide +kernel
theorem d_Picture_read_36 : decode b_Picture_read 36 = .ok (.invokevirtual 33, 3) := by decide +kernel
theorem d_Picture_read_39 : decode b_Picture_read 39 = .ok (.ifCond .eq 11, 3) := by decide +kernel
theorem d_Picture_read_42 : decode b_Picture_read 42 = .ok (.aload_n 0, 1) := by decide +kernel
theorem d_Picture_read_43 : decode b_Picture_read 43 = .ok (.iconst 1, 1) := by decide +kernel
theorem d_Picture_read_44 : decode b_Picture_read 44 = .ok (.putfield 29, 3) := by decide +kernel
theorem d_Picture_read_47 : decode b_Picture_read 47 = .ok (.goto 8, 3) := by decide +kernel
theorem d_Picture_read_50 : decode b_Picture_read 50 = .ok (.aload_n 0, 1) := by decide +kernel
theorem d_Picture_read_51 : decode b_Picture_read 51 = .ok (.invokevirtual 18, 3) := by decide +kernel
theorem d_Picture_read_54 : decode b_Picture_read 54 = .ok (.return_, 1) := by decide +kernel
theorem d_Picture_read_55 : decode b_Picture_read 55 = .ok (.aload_n 0, 1) := by decide +kernel
theorem d_Picture_read_56 : decode b_Picture_read 56 = .ok (.aload_n 0, 1) := by decide +kernel
theorem d_Picture_read_57 : decode b_Picture_read 57 = .ok (.invokevirtual 37, 3) := by decide +kernel
theorem d_Picture_read_60 : decode b_Picture_read 60 = .ok (.putfield 41, 3) := by decide +kernel
theorem d_Picture_read_63 : decode b_Picture_read 63 = .ok (.return_, 1) := by decide +kernel
abbrev b_Digits_digit : ByteArray := prog_2_method_3_code
abbrev y_Digits_digit : MethodName := ⟨"EditMoves$Digits", "digit", "(I)I"⟩
def ws_Digits_digit : List Cond := .code y_Digits_digit b_Digits_digit 2 (some .int) :: wAll
theorem d_Digits_digit_0 : decode b_Digits_digit 0 = .ok (.iload_n 1, 1) := by decide +kernel
theorem d_Digits_digit_1 : decode b_Digits_digit 1 = .ok (.ifCond .lt 21, 3) := by decide +kernel
theorem d_Digits_digit_4 : decode b_Digits_digit 4 = .ok (.iload_n 1, 1) := by decide +kernel
theorem d_Digits_digit_5 : decode b_Digits_digit 5 = .ok (.aload_n 0, 1) := by decide +kernel
theorem d_Digits_digit_6 : decode b_Digits_digit 6 = .ok (.getfield 9, 3) := by decide +kernel
theorem d_Digits_digit_9 : decode b_Digits_digit 9 = .ok (.arraylength, 1) := by decide +kernel
theorem d_Digits_digit_10 : decode b_Digits_digit 10 = .ok (.if_icmp .ge 12, 3) := by decide +kernel
theorem d_Digits_digit_13 : decode b_Digits_digit 13 = .ok (.aload_n 0, 1) := by decide +kernel
theorem d_Digits_digit_14 : decode b_Digits_digit 14 = .ok (.getfield 9, 3) := by decide +kernel
theorem d_Digits_digit_17 : decode b_Digits_digit 17 = .ok (.iload_n 1, 1) := by decide +kernel
theorem d_Digits_digit_18 : decode b_Digits_digit 18 = .ok (.iaload, 1) := by decide +kernel
theorem d_Digits_digit_19 : decode b_Digits_digit 19 = .ok (.goto 4, 3) := by decide +kernel
theorem d_Digits_digit_22 : decode b_Digits_digit 22 = .ok (.iconst 0, 1) := by decide +kernel
theorem d_Digits_digit_23 : decode b_Digits_digit 23 = .ok (.ireturn, 1) := by decide +kernel
abbrev b_Digits_clear : ByteArray := prog_2_method_4_code
abbrev y_Digits_clear : MethodName := ⟨"EditMoves$Digits", "clear", "()V"⟩
def ws_Digits_clear : List Cond := .code y_Digits_clear b_Digits_clear 2 none :: wAll
theorem d_Digits_clear_0 : decode b_Digits_clear 0 = .ok (.iconst 0, 1) := by decide +kernel
theorem d_Digits_clear_1 : decode b_Digits_clear 1 = .ok (.istore_n 1, 1) := by decide +kernel
theorem d_Digits_clear_2 : decode b_Digits_clear 2 = .ok (.iload_n 1, 1) := by decide +kernel
theorem d_Digits_clear_3 : decode b_Digits_clear 3 = .ok (.aload_n 0, 1) := by decide +kernel
theorem d_Digits_clear_4 : decode b_Digits_clear 4 = .ok (.getfield 9, 3) := by decide +kernel
theorem d_Digits_clear_7 : decode b_Digits_clear 7 = .ok (.arraylength, 1) := by decide +kernel
theorem d_Digits_clear_8 : decode b_Digits_clear 8 = .ok (.if_icmp .ge 16, 3) := by decide +kernel
theorem d_Digits_clear_11 : decode b_Digits_clear 11 = .ok (.aload_n 0, 1) := by decide +kernel
theorem d_Digits_clear_12 : decode b_Digits_clear 12 = .ok (.getfield 9, 3) := by decide +kernel
theorem d_Digits_clear_15 : decode b_Digits_clear 15 = .ok (.iload_n 1, 1) := by decide +kernel
theorem d_Digits_clear_16 : decode b_Digits_clear 16 = .ok (.iconst 0, 1) := by decide +kernel
theorem d_Digits_clear_17 : decode b_Digits_clear 17 = .ok (.iastore, 1) := by decide +kernel
theorem d_Digits_clear_18 : decode b_Digits_clear 18 = .ok (.iinc 1 1, 3) := by decide +kernel
theorem d_Digits_clear_21 : decode b_Digits_clear 21 = .ok (.goto (-19), 3) := by decide +kernel
theorem d_Digits_clear_24 : decode b_Digits_clear 24 = .ok (.aload_n 0, 1) := by decide +kernel
theorem d_Digits_clear_25 : decode b_Digits_clear 25 = .ok (.iconst 0, 1) := by decide +kernel
theorem d_Digits_clear_26 : decode b_Digits_clear 26 = .ok (.putfield 29, 3) := by decide +kernel
theorem d_Digits_clear_29 : decode b_Digits_clear 29 = .ok (.aload_n 0, 1) := by decide +kernel
theorem d_Digits_clear_30 : decode b_Digits_clear 30 = .ok (.iconst 0, 1) := by decide +kernel
theorem d_Digits_clear_31 : decode b_Digits_clear 31 = .ok (.putfield 33, 3) := by decide +kernel
theorem d_Digits_clear_34 : decode b_Digits_clear 34 = .ok (.aload_n 0, 1) := by decide +kernel
theorem d_Digits_clear_35 : decode b_Digits_clear 35 = .ok (.iconst 1, 1) := by decide +kernel
theorem d_Digits_clear_36 : decode b_Digits_clear 36 = .ok (.putfield 22, 3) := by decide +kernel
theorem d_Digits_clear_39 : decode b_Digits_clear 39 = .ok (.aload_n 0, 1) := by decide +kernel
theorem d_Digits_clear_40 : decode b_Digits_clear 40 = .ok (.iconst 0, 1) := by decide +kernel
theorem d_Digits_clear_41 : decode b_Digits_clear 41 = .ok (.putfield 26, 3) := by decide +kernel
theorem d_Digits_clear_44 : decode b_Digits_clear 44 = .ok (.return_, 1) := by decide +kernel
abbrev b_Digits_bringOne : ByteArray := prog_2_method_5_code
abbrev y_Digits_bringOne : MethodName := ⟨"EditMoves$Digits", "bringOne", "(III)V"⟩
def ws_Digits_bringOne : List Cond := .code y_Digits_bringOne b_Digits_bringOne 4 none :: wAll
theorem d_Digits_bringOne_0 : decode b_Digits_bringOne 0 = .ok (.iload_n 2, 1) := by decide +kernel
theorem d_Digits_bringOne_1 : decode b_Digits_bringOne 1 = .ok (.ifCond .lt 30, 3) := by decide +kernel
theorem d_Digits_bringOne_4 : decode b_Digits_bringOne 4 = .ok (.iload_n 2, 1) := by decide +kernel
theorem d_Digits_bringOne_5 : decode b_Digits_bringOne 5 = .ok (.iload_n 3, 1) := by decide +kernel
theorem d_Digits_bringOne_6 : decode b_Digits_bringOne 6 = .ok (.if_icmp .ge 25, 3) := by decide +kernel
theorem d_Digits_bringOne_9 : decode b_Digits_bringOne 9 = .ok (.iload_n 2, 1) := by decide +kernel
theorem d_Digits_bringOne_10 : decode b_Digits_bringOne 10 = .ok (.aload_n 0, 1) := by decide +kernel
theorem d_Digits_bringOne_11 : decode b_Digits_bringOne 11 = .ok (.getfield 9, 3) := by decide +kernel
theorem d_Digits_bringOne_14 : decode b_Digits_bringOne 14 = .ok (.arraylength, 1) := by decide +kernel
theorem d_Digits_bringOne_15 : decode b_Digits_bringOne 15 = .ok (.if_icmp .ge 16, 3) := by decide +kernel
theorem d_Digits_bringOne_18 : decode b_Digits_bringOne 18 = .ok (.aload_n 0, 1) := by decide +kernel
theorem d_Digits_bringOne_19 : decode b_Digits_bringOne 19 = .ok (.getfield 9, 3) := by decide +kernel
theorem d_Digits_bringOne_22 : decode b_Digits_bringOne 22 = .ok (.iload_n 2, 1) := by decide +kernel
theorem d_Digits_bringOne_23 : decode b_Digits_bringOne 23 = .ok (.iload_n 1, 1) := by decide +kernel
theorem d_Digits_bringOne_24 : decode b_Digits_bringOne 24 = .ok (.iastore, 1) := by decide +kernel
theorem d_Digits_bringOne_25 : decode b_Digits_bringOne 25 = .ok (.aload_n 0, 1) := by decide +kernel
theorem d_Digits_bringOne_26 : decode b_Digits_bringOne 26 = .ok (.iconst 0, 1) := by decide +kernel
theorem d_Digits_bringOne_27 : decode b_Digits_bringOne 27 = .ok (.putfield 22, 3) := by decide +kernel
theorem d_Digits_bringOne_30 : decode b_Digits_bringOne 30 = .ok (.return_, 1) := by decide +kernel
theorem d_Digits_bringOne_31 : decode b_Digits_bringOne 31 = .ok (.aload_n 0, 1) := by decide +kernel
theorem d_Digits_bringOne_32 : decode b_Digits_bringOne 32 = .ok (.dup, 1) := by decide +kernel
theorem d_Digits_bringOne_33 : decode b_Digits_bringOne 33 = .ok (.getfield 29, 3) := by decide +kernel
theorem d_Digits_bringOne_36 : decode b_Digits_bringOne 36 = .ok (.iconst 1, 1) := by decide +kernel
theorem d_Digits_bringOne_37 : decode b_Digits_bringOne 37 = .ok (.iadd, 1) := by decide +kernel
theorem d_Digits_bringOne_38 : decode b_Digits_bringOne 38 = .ok (.putfield 29, 3) := by decide +kernel
theorem d_Digits_bringOne_41 : decode b_Digits_bringOne 41 = .ok (.iload_n 2, 1) := by decide +kernel
theorem d_Digits_bringOne_42 : decode b_Digits_bringOne 42 = .ok (.ifCond .ge 8, 3) := by decide +kernel
theorem d_Digits_bringOne_45 : decode b_Digits_bringOne 45 = .ok (.aload_n 0, 1) := by decide +kernel
theorem d_Digits_bringOne_46 : decode b_Digits_bringOne 46 = .ok (.iconst 1, 1) := by decide +kernel
theorem d_Digits_bringOne_47 : decode b_Digits_bringOne 47 = .ok (.putfield 33, 3) := by decide +kernel
theorem d_Digits_bringOne_50 : decode b_Digits_bringOne 50 = .ok (.return_, 1) := by decide +kernel
abbrev b_Digits_bring : ByteArray := prog_2_method_2_code
abbrev y_Digits_bring : MethodName := ⟨"EditMoves$Digits", "bring", "(JIII)V"⟩
def ws_Digits_bring : List Cond := .code y_Digits_bring b_Digits_bring 10 none :: wAll
theorem d_Digits_bring_0 : decode b_Digits_bring 0 = .ok (.aload_n 0, 1) := by decide +kernel
theorem d_Digits_bring_1 : decode b_Digits_bring 1 = .ok (.invokevirtual 13, 3) := by decide +kernel
theorem d_Digits_bring_4 : decode b_Digits_bring 4 = .ok (.lload_n 1, 1) := by decide +kernel
theorem d_Digits_bring_5 : decode b_Digits_bring 5 = .ok (.lstore 6, 2) := by decide +kernel
theorem d_Digits_bring_7 : decode b_Digits_bring 7 = .ok (.iconst 0, 1) := by decide +kernel
theorem d_Digits_bring_8 : decode b_Digits_bring 8 = .ok (.istore 8, 2) := by decide +kernel
theorem d_Digits_bring_10 : decode b_Digits_bring 10 = .ok (.iload 8, 2) := by decide +kernel
theorem d_Digits_bring_12 : decode b_Digits_bring 12 = .ok (.bipush 19, 2) := by decide +kernel
theorem d_Digits_bring_14 : decode b_Digits_bring 14 = .ok (.if_icmp .ge 62, 3) := by decide +kernel
theorem d_Digits_bring_17 : decode b_Digits_bring 17 = .ok (.lload 6, 2) := by decide +kernel
theorem d_Digits_bring_19 : decode b_Digits_bring 19 = .ok (.ldc2_w 16, 3) := by decide +kernel
theorem d_Digits_bring_22 : decode b_Digits_bring 22 = .ok (.lrem, 1) := by decide +kernel
theorem d_Digits_bring_23 : decode b_Digits_bring 23 = .ok (.l2i, 1) := by decide +kernel
theorem d_Digits_bring_24 : decode b_Digits_bring 24 = .ok (.istore 9, 2) := by decide +kernel
theorem d_Digits_bring_26 : decode b_Digits_bring 26 = .ok (.lload 6, 2) := by decide +kernel
theorem d_Digits_bring_28 : decode b_Digits_bring 28 = .ok (.ldc2_w 16, 3) := by decide +kernel
theorem d_Digits_bring_31 : decode b_Digits_bring 31 = .ok (.ldiv, 1) := by decide +kernel
theorem d_Digits_bring_32 : decode b_Digits_bring 32 = .ok (.lstore 6, 2) := by decide +kernel
theorem d_Digits_bring_34 : decode b_Digits_bring 34 = .ok (.iload 9, 2) := by decide +kernel
theorem d_Digits_bring_36 : decode b_Digits_bring 36 = .ok (.ifCond .eq 34, 3) := by decide +kernel
theorem d_Digits_bring_39 : decode b_Digits_bring 39 = .ok (.aload_n 0, 1) := by decide +kernel
theorem d_Digits_bring_40 : decode b_Digits_bring 40 = .ok (.iload 9, 2) := by decide +kernel
theorem d_Digits_bring_42 : decode b_Digits_bring 42 = .ok (.ifCond .ge 9, 3) := by decide +kernel
theorem d_Digits_bring_45 : decode b_Digits_bring 45 = .ok (.iload 9, 2) := by decide +kernel
theorem d_Digits_bring_47 : decode b_Digits_bring 47 = .ok (.ineg, 1) := by decide +kernel
theorem d_Digits_bring_48 : decode b_Digits_bring 48 = .ok (.goto 5, 3) := by decide +kernel
theorem d_Digits_bring_51 : decode b_Digits_bring 51 = .ok (.iload 9, 2) := by decide +kernel
theorem d_Digits_bring_53 : decode b_Digits_bring 53 = .ok (.iload 4, 2) := by decide +kernel
theorem d_Digits_bring_55 : decode b_Digits_bring 55 = .ok (.iconst 1, 1) := by decide +kernel
theorem d_Digits_bring_56 : decode b_Digits_bring 56 = .ok (.isub, 1) := by decide +kernel
theorem d_Digits_bring_57 : decode b_Digits_bring 57 = .ok (.iload 8, 2) := by decide +kernel
theorem d_Digits_bring_59 : decode b_Digits_bring 59 = .ok (.iload_n 3, 1) := by decide +kernel
theorem d_Digits_bring_60 : decode b_Digits_bring 60 = .ok (.isub, 1) := by decide +kernel
theorem d_Digits_bring_61 : decode b_Digits_bring 61 = .ok (.isub, 1) := by decide +kernel
theorem d_Digits_bring_62 : decode b_Digits_bring 62 = .ok (.iload 4, 2) := by decide +kernel
theorem d_Digits_bring_64 : decode b_Digits_bring 64 = .ok (.iload 5, 2) := by decide +kernel
theorem d_Digits_bring_66 : decode b_Digits_bring 66 = .ok (.iadd, 1) := by decide +kernel
theorem d_Digits_bring_67 : decode b_Digits_bring 67 = .ok (.invokevirtual 18, 3) := by decide +kernel
theorem d_Digits_bring_70 : decode b_Digits_bring 70 = .ok (.iinc 8 1, 3) := by decide +kernel
theorem d_Digits_bring_73 : decode b_Digits_bring 73 = .ok (.goto (-63), 3) := by decide +kernel
theorem d_Digits_bring_76 : decode b_Digits_bring 76 = .ok (.aload_n 0, 1) := by decide +kernel
theorem d_Digits_bring_77 : decode b_Digits_bring 77 = .ok (.lload_n 1, 1) := by decide +kernel
theorem d_Digits_bring_78 : decode b_Digits_bring 78 = .ok (.lconst 0, 1) := by decide +kernel
theorem d_Digits_bring_79 : decode b_Digits_bring 79 = .ok (.lcmp, 1) := by decide +kernel
theorem d_Digits_bring_80 : decode b_Digits_bring 80 = .ok (.ifCond .ge 14, 3) := by decide +kernel
theorem d_Digits_bring_83 : decode b_Digits_bring 83 = .ok (.aload_n 0, 1) := by decide +kernel
theorem d_Digits_bring_84 : decode b_Digits_bring 84 = .ok (.getfield 22, 3) := by decide +kernel
theorem d_Digits_bring_87 : decode b_Digits_bring 87 = .ok (.ifCond .ne 7, 3) := by decide +kernel
theorem d_Digits_bring_90 : decode b_Digits_bring 90 = .ok (.iconst 1, 1) := by decide +kernel
theorem d_Digits_bring_91 : decode b_Digits_bring 91 = .ok (.goto 4, 3) := by decide +kernel
theorem d_Digits_bring_94 : decode b_Digits_bring 94 = .ok (.iconst 0, 1) := by decide +kernel
theorem d_Digits_bring_95 : decode b_Digits_bring 95 = .ok (.putfield 26, 3) := by decide +kernel
theorem d_Digits_bring_98 : decode b_Digits_bring 98 = .ok (.return_, 1) := by decide +kernel
abbrev b_Result_drop : ByteArray := prog_6_method_2_code
abbrev y_Result_drop : MethodName := ⟨"EditMoves$Result", "drop", "()V"⟩
def ws_Result_drop : List Cond := .code y_Result_drop b_Result_drop 1 none :: wAll
theorem d_Result_drop_0 : decode b_Result_drop 0 = .ok (.aload_n 0, 1) := by decide +kernel
theorem d_Result_drop_1 : decode b_Result_drop 1 = .ok (.iconst 0, 1) := by decide +kernel
theorem d_Result_drop_2 : decode b_Result_drop 2 = .ok (.putfield 21, 3) := by decide +kernel
theorem d_Result_drop_5 : decode b_Result_drop 5 = .ok (.aload_n 0, 1) := by decide +kernel
theorem d_Result_drop_6 : decode b_Result_drop 6 = .ok (.iconst 0, 1) := by decide +kernel
theorem d_Result_drop_7 : decode b_Result_drop 7 = .ok (.putfield 25, 3) := by decide +kernel
theorem d_Result_drop_10 : decode b_Result_drop 10 = .ok (.aload_n 0, 1) := by decide +kernel
theorem d_Result_drop_11 : decode b_Result_drop 11 = .ok (.iconst 0, 1) := by decide +kernel
theorem d_Result_drop_12 : decode b_Result_drop 12 = .ok (.putfield 28, 3) := by decide +kernel
theorem d_Result_drop_15 : decode b_Result_drop 15 = .ok (.return_, 1) := by decide +kernel
abbrev b_Result_put : ByteArray := prog_6_method_3_code
abbrev y_Result_put : MethodName := ⟨"EditMoves$Result", "put", "(IZ)V"⟩
def ws_Result_put : List Cond := .code y_Result_put b_Result_put 3 none :: wAll
theorem d_Result_put_0 : decode b_Result_put 0 = .ok (.aload_n 0, 1) := by decide +kernel
theorem d_Result_put_1 : decode b_Result_put 1 = .ok (.getfield 25, 3) := by decide +kernel
theorem d_Result_put_4 : decode b_Result_put 4 = .ok (.ifCond .lt 57, 3) := by decide +kernel
theorem d_Result_put_7 : decode b_Result_put 7 = .ok (.aload_n 0, 1) := by decide +kernel
theorem d_Result_put_8 : decode b_Result_put 8 = .ok (.getfield 25, 3) := by decide +kernel
theorem d_Result_put_11 : decode b_Result_put 11 = .ok (.aload_n 0, 1) := by decide +kernel
theorem d_Result_put_12 : decode b_Result_put 12 = .ok (.getfield 11, 3) := by decide +kernel
theorem d_Result_put_15 : decode b_Result_put 15 = .ok (.arraylength, 1) := by decide +kernel
theorem d_Result_put_16 : decode b_Result_put 16 = .ok (.if_icmp .ge 45, 3) := by decide +kernel
theorem d_Result_put_19 : decode b_Result_put 19 = .ok (.aload_n 0, 1) := by decide +kernel
theorem d_Result_put_20 : decode b_Result_put 20 = .ok (.getfield 25, 3) := by decide +kernel
theorem d_Result_put_23 : decode b_Result_put 23 = .ok (.aload_n 0, 1) := by decide +kernel
theorem d_Result_put_24 : decode b_Result_put 24 = .ok (.getfield 15, 3) := by decide +kernel
theorem d_Result_put_27 : decode b_Result_put 27 = .ok (.arraylength, 1) := by decide +kernel
theorem d_Result_put_28 : decode b_Result_put 28 = .ok (.if_icmp .ge 33, 3) := by decide +kernel
theorem d_Result_put_31 : decode b_Result_put 31 = .ok (.aload_n 0, 1) := by decide +kernel
theorem d_Result_put_32 : decode b_Result_put 32 = .ok (.getfield 11, 3) := by decide +kernel
theorem d_Result_put_35 : decode b_Result_put 35 = .ok (.aload_n 0, 1) := by decide +kernel
theorem d_Result_put_36 : decode b_Result_put 36 = .ok (.getfield 25, 3) := by decide +kernel
theorem d_Result_put_39 : decode b_Result_put 39 = .ok (.iload_n 1, 1) := by decide +kernel
theorem d_Result_put_40 : decode b_Result_put 40 = .ok (.iastore, 1) := by decide +kernel
theorem d_Result_put_41 : decode b_Result_put 41 = .ok (.aload_n 0, 1) := by decide +kernel
theorem d_Result_put_42 : decode b_Result_put 42 = .ok (.getfield 15, 3) := by decide +kernel
theorem d_Result_put_45 : decode b_Result_put 45 = .ok (.aload_n 0, 1) := by decide +kernel
theorem d_Result_put_46 : decode b_Result_put 46 = .ok (.getfield 25, 3) := by decide +kernel
theorem d_Result_put_49 : decode b_Result_put 49 = .ok (.iload_n 2, 1) := by decide +kernel
theorem d_Result_put_50 : decode b_Result_put 50 = .ok (.bastore, 1) := by decide +kernel
theorem d_Result_put_51 : decode b_Result_put 51 = .ok (.aload_n 0, 1) := by decide +kernel
theorem d_Result_put_52 : decode b_Result_put 52 = .ok (.dup, 1) := by decide +kernel
theorem d_Result_put_53 : decode b_Result_put 53 = .ok (.getfield 25, 3) := by decide +kernel
theorem d_Result_put_56 : decode b_Result_put 56 = .ok (.iconst 1, 1) := by decide +kernel
theorem d_Result_put_57 : decode b_Result_put 57 = .ok (.iadd, 1) := by decide +kernel
theorem d_Result_put_58 : decode b_Result_put 58 = .ok (.putfield 25, 3) := by decide +kernel
theorem d_Result_put_61 : decode b_Result_put 61 = .ok (.return_, 1) := by decide +kernel
abbrev b_Result_hide : ByteArray := prog_6_method_4_code
abbrev y_Result_hide : MethodName := ⟨"EditMoves$Result", "hide", "(I)V"⟩
def ws_Result_hide : List Cond := .code y_Result_hide b_Result_hide 2 none :: wAll
theorem d_Result_hide_0 : decode b_Result_hide 0 = .ok (.aload_n 0, 1) := by decide +kernel
theorem d_Result_hide_1 : decode b_Result_hide 1 = .ok (.iload_n 1, 1) := by decide +kernel
theorem d_Result_hide_2 : decode b_Result_hide 2 = .ok (.iconst 0, 1) := by decide +kernel
theorem d_Result_hide_3 : decode b_Result_hide 3 = .ok (.invokevirtual 31, 3) := by decide +kernel
theorem d_Result_hide_6 : decode b_Result_hide 6 = .ok (.aload_n 0, 1) := by decide +kernel
theorem d_Result_hide_7 : decode b_Result_hide 7 = .ok (.dup, 1) := by decide +kernel
theorem d_Result_hide_8 : decode b_Result_hide 8 = .ok (.getfield 28, 3) := by decide +kernel
theorem d_Result_hide_11 : decode b_Result_hide 11 = .ok (.iconst 1, 1) := by decide +kernel
theorem d_Result_hide_12 : decode b_Result_hide 12 = .ok (.iadd, 1) := by decide +kernel
theorem d_Result_hide_13 : decode b_Result_hide 13 = .ok (.putfield 28, 3) := by decide +kernel
theorem d_Result_hide_16 : decode b_Result_hide 16 = .ok (.return_, 1) := by decide +kernel
abbrev b_Result_replaceLast : ByteArray := prog_6_method_5_code
abbrev y_Result_replaceLast : MethodName := ⟨"EditMoves$Result", "replaceLast", "(I)V"⟩
def ws_Result_replaceLast : List Cond := .code y_Result_replaceLast b_Result_replaceLast 2 none :: wAll
theorem d_Result_replaceLast_0 : decode b_Result_replaceLast 0 = .ok (.aload_n 0, 1) := by decide +kernel
theorem d_Result_replaceLast_1 : decode b_Result_replaceLast 1 = .ok (.getfield 25, 3) := by decide +kernel
theorem d_Result_replaceLast_4 : decode b_Result_replaceLast 4 = .ok (.ifCond .le 27, 3) := by decide +kernel
theorem d_Result_replaceLast_7 : decode b_Result_replaceLast 7 = .ok (.aload_n 0, 1) := by decide +kernel
theorem d_Result_replaceLast_8 : decode b_Result_replaceLast 8 = .ok (.getfield 25, 3) := by decide +kernel
theorem d_Result_replaceLast_11 : decode b_Result_replaceLast 11 = .ok (.aload_n 0, 1) := by decide +kernel
theorem d_Result_replaceLast_12 : decode b_Result_replaceLast 12 = .ok (.getfield 11, 3) := by decide +kernel
theorem d_Result_replaceLast_15 : decode b_Result_replaceLast 15 = .ok (.arraylength, 1) := by decide +kernel
theorem d_Result_replaceLast_16 : decode b_Result_replaceLast 16 = .ok (.if_icmp .gt 15, 3) := by decide +kernel
theorem d_Result_replaceLast_19 : decode b_Result_replaceLast 19 = .ok (.aload_n 0, 1) := by decide +kernel
theorem d_Result_replaceLast_20 : decode b_Result_replaceLast 20 = .ok (.getfield 11, 3) := by decide +kernel
theorem d_Result_replaceLast_23 : decode b_Result_replaceLast 23 = .ok (.aload_n 0, 1) := by decide +kernel
theorem d_Result_replaceLast_24 : decode b_Result_replaceLast 24 = .ok (.getfield 25, 3) := by decide +kernel
theorem d_Result_replaceLast_27 : decode b_Result_replaceLast 27 = .ok (.iconst 1, 1) := by decide +kernel
theorem d_Result_replaceLast_28 : decode b_Result_replaceLast 28 = .ok (.isub, 1) := by decide +kernel
theorem d_Result_replaceLast_29 : decode b_Result_replaceLast 29 = .ok (.iload_n 1, 1) := by decide +kernel
theorem d_Result_replaceLast_30 : decode b_Result_replaceLast 30 = .ok (.iastore, 1) := by decide +kernel
theorem d_Result_replaceLast_31 : decode b_Result_replaceLast 31 = .ok (.return_, 1) := by decide +kernel
abbrev b_Result_character : ByteArray := prog_6_method_6_code
abbrev y_Result_character : MethodName := ⟨"EditMoves$Result", "character", "(I)I"⟩
def ws_Result_character : List Cond := .code y_Result_character b_Result_character 2 (some .int) :: wAll
theorem d_Result_character_0 : decode b_Result_character 0 = .ok (.iload_n 1, 1) := by decide +kernel
theorem d_Result_character_1 : decode b_Result_character 1 = .ok (.ifCond .lt 29, 3) := by decide +kernel
theorem d_Result_character_4 : decode b_Result_character 4 = .ok (.iload_n 1, 1) := by decide +kernel
theorem d_Result_character_5 : decode b_Result_character 5 = .ok (.aload_n 0, 1) := by decide +kernel
theorem d_Result_character_6 : decode b_Result_character 6 = .ok (.getfield 25, 3) := by decide +kernel
theorem d_Result_character_9 : decode b_Result_character 9 = .ok (.if_icmp .ge 21, 3) := by decide +kernel
theorem d_Result_character_12 : decode b_Result_character 12 = .ok (.iload_n 1, 1) := by decide +kernel
theorem d_Result_character_13 : decode b_Result_character 13 = .ok (.aload_n 0, 1) := by decide +kernel
theorem d_Result_character_14 : decode b_Result_character 14 = .ok (.getfield 11, 3) := by decide +kernel
theorem d_Result_character_17 : decode b_Result_character 17 = .ok (.arraylength, 1) := by decide +kernel
theorem d_Result_character_18 : decode b_Result_character 18 = .ok (.if_icmp .ge 12, 3) := by decide +kernel
theorem d_Result_character_21 : decode b_Result_character 21 = .ok (.aload_n 0, 1) := by decide +kernel
theorem d_Result_character_22 : decode b_Result_character 22 = .ok (.getfield 11, 3) := by decide +kernel
theorem d_Result_character_25 : decode b_Result_character 25 = .ok (.iload_n 1, 1) := by decide +kernel
theorem d_Result_character_26 : decode b_Result_character 26 = .ok (.iaload, 1) := by decide +kernel
theorem d_Result_character_27 : decode b_Result_character 27 = .ok (.goto 4, 3) := by decide +kernel
theorem d_Result_character_30 : decode b_Result_character 30 = .ok (.iconst (-1), 1) := by decide +kernel
theorem d_Result_character_31 : decode b_Result_character 31 = .ok (.ireturn, 1) := by decide +kernel
abbrev b_Result_wholeNumber : ByteArray := prog_6_method_7_code
abbrev y_Result_wholeNumber : MethodName := ⟨"EditMoves$Result", "wholeNumber", "()J"⟩
def ws_Result_wholeNumber : List Cond := .code y_Result_wholeNumber b_Result_wholeNumber 6 (some .long) :: wAll
theorem d_Result_wholeNumber_0 : decode b_Result_wholeNumber 0 = .ok (.lconst 0, 1) := by decide +kernel
theorem d_Result_wholeNumber_1 : decode b_Result_wholeNumber 1 = .ok (.lstore_n 1, 1) := by decide +kernel
theorem d_Result_wholeNumber_2 : decode b_Result_wholeNumber 2 = .ok (.iconst 0, 1) := by decide +kernel
theorem d_Result_wholeNumber_3 : decode b_Result_wholeNumber 3 = .ok (.istore_n 3, 1) := by decide +kernel
theorem d_Result_wholeNumber_4 : decode b_Result_wholeNumber 4 = .ok (.iconst 0, 1) := by decide +kernel
theorem d_Result_wholeNumber_5 : decode b_Result_wholeNumber 5 = .ok (.istore 4, 2) := by decide +kernel
theorem d_Result_wholeNumber_7 : decode b_Result_wholeNumber 7 = .ok (.iload 4, 2) := by decide +kernel
theorem d_Result_wholeNumber_9 : decode b_Result_wholeNumber 9 = .ok (.aload_n 0, 1) := by decide +kernel
theorem d_Result_wholeNumber_10 : decode b_Result_wholeNumber 10 = .ok (.getfield 25, 3) := by decide +kernel
theorem d_Result_wholeNumber_13 : decode b_Result_wholeNumber 13 = .ok (.if_icmp .ge 92, 3) := by decide +kernel
theorem d_Result_wholeNumber_16 : decode b_Result_wholeNumber 16 = .ok (.iload 4, 2) := by decide +kernel
theorem d_Result_wholeNumber_18 : decode b_Result_wholeNumber 18 = .ok (.aload_n 0, 1) := by decide +kernel
theorem d_Result_wholeNumber_19 : decode b_Result_wholeNumber 19 = .ok (.getfield 11, 3) := by decide +kernel
theorem d_Result_wholeNumber_22 : decode b_Result_wholeNumber 22 = .ok (.arraylength, 1) := by decide +kernel
theorem d_Result_wholeNumber_23 : decode b_Result_wholeNumber 23 = .ok (.if_icmp .ge 82, 3) := by decide +kernel
theorem d_Result_wholeNumber_26 : decode b_Result_wholeNumber 26 = .ok (.iload 4, 2) := by decide +kernel
theorem d_Result_wholeNumber_28 : decode b_Result_wholeNumber 28 = .ok (.aload_n 0, 1) := by decide +kernel
theorem d_Result_wholeNumber_29 : decode b_Result_wholeNumber 29 = .ok (.getfield 15, 3) := by decide +kernel
theorem d_Result_wholeNumber_32 : decode b_Result_wholeNumber 32 = .ok (.arraylength, 1) := by decide +kernel
theorem d_Result_wholeNumber_33 : decode b_Result_wholeNumber 33 = .ok (.if_icmp .ge 72, 3) := by decide +kernel
theorem d_Result_wholeNumber_36 : decode b_Result_wholeNumber 36 = .ok (.aload_n 0, 1) := by decide +kernel
theorem d_Result_wholeNumber_37 : decode b_Result_wholeNumber 37 = .ok (.getfield 11, 3) := by decide +kernel
theorem d_Result_wholeNumber_40 : decode b_Result_wholeNumber 40 = .ok (.iload 4, 2) := by decide +kernel
theorem d_Result_wholeNumber_42 : decode b_Result_wholeNumber 42 = .ok (.iaload, 1) := by decide +kernel
theorem d_Result_wholeNumber_43 : decode b_Result_wholeNumber 43 = .ok (.istore 5, 2) := by decide +kernel
theorem d_Result_wholeNumber_45 : decode b_Result_wholeNumber 45 = .ok (.aload_n 0, 1) := by decide +kernel
theorem d_Result_wholeNumber_46 : decode b_Result_wholeNumber 46 = .ok (.getfield 15, 3) := by decide +kernel
theorem d_Result_wholeNumber_49 : decode b_Result_wholeNumber 49 = .ok (.iload 4, 2) := by decide +kernel
theorem d_Result_wholeNumber_51 : decode b_Result_wholeNumber 51 = .ok (.baload, 1) := by decide +kernel
theorem d_Result_wholeNumber_52 : decode b_Result_wholeNumber 52 = .ok (.ifCond .eq 16, 3) := by decide +kernel
theorem d_Result_wholeNumber_55 : decode b_Result_wholeNumber 55 = .ok (.lload_n 1, 1) := by decide +kernel
theorem d_Result_wholeNumber_56 : decode b_Result_wholeNumber 56 = .ok (.ldc2_w 35, 3) := by decide +kernel
theorem d_Result_wholeNumber_59 : decode b_Result_wholeNumber 59 = .ok (.lmul, 1) := by decide +kernel
theorem d_Result_wholeNumber_60 : decode b_Result_wholeNumber 60 = .ok (.iload 5, 2) := by decide +kernel
theorem d_Result_wholeNumber_62 : decode b_Result_wholeNumber 62 = .ok (.bipush 48, 2) := by decide +kernel
theorem d_Result_wholeNumber_64 : decode b_Result_wholeNumber 64 = .ok (.isub, 1) := by decide +kernel
theorem d_Result_wholeNumber_65 : decode b_Result_wholeNumber 65 = .ok (.i2l, 1) := by decide +kernel
theorem d_Result_wholeNumber_66 : decode b_Result_wholeNumber 66 = .ok (.ladd, 1) := by decide +kernel
theorem d_Result_wholeNumber_67 : decode b_Result_wholeNumber 67 = .ok (.lstore_n 1, 1) := by decide +kernel
theorem d_Result_wholeNumber_68 : decode b_Result_wholeNumber 68 = .ok (.iload_n 3, 1) := by decide +kernel
theorem d_Result_wholeNumber_69 : decode b_Result_wholeNumber 69 = .ok (.ifCond .ne 24, 3) := by decide +kernel
theorem d_Result_wholeNumber_72 : decode b_Result_wholeNumber 72 = .ok (.iload 5, 2) := by decide +kernel
theorem d_Result_wholeNumber_74 : decode b_Result_wholeNumber 74 = .ok (.bipush 45, 2) := by decide +kernel
theorem d_Result_wholeNumber_76 : decode b_Result_wholeNumber 76 = .ok (.if_icmp .eq 17, 3) := by decide +kernel
theorem d_Result_wholeNumber_79 : decode b_Result_wholeNumber 79 = .ok (.iload 5, 2) := by decide +kernel
theorem d_Result_wholeNumber_81 : decode b_Result_wholeNumber 81 = .ok (.bipush 67, 2) := by decide +kernel
theorem d_Result_wholeNumber_83 : decode b_Result_wholeNumber 83 = .ok (.if_icmp .eq 10, 3) := by decide +kernel
theorem d_Result_wholeNumber_86 : decode b_Result_wholeNumber 86 = .ok (.iload 5, 2) := by decide +kernel
theorem d_Result_wholeNumber_88 : decode b_Result_wholeNumber 88 = .ok (.bipush 68, 2) := by decide +kernel
theorem d_Result_wholeNumber_90 : decode b_Result_wholeNumber 90 = .ok (.if_icmp .ne 7, 3) := by decide +kernel
theorem d_Result_wholeNumber_93 : decode b_Result_wholeNumber 93 = .ok (.iconst 1, 1) := by decide +kernel
theorem d_Result_wholeNumber_94 : decode b_Result_wholeNumber 94 = .ok (.goto 4, 3) := by decide +kernel
theorem d_Result_wholeNumber_97 : decode b_Result_wholeNumber 97 = .ok (.iconst 0, 1) := by decide +kernel
theorem d_Result_wholeNumber_98 : decode b_Result_wholeNumber 98 = .ok (.istore_n 3, 1) := by decide +kernel
theorem d_Result_wholeNumber_99 : decode b_Result_wholeNumber 99 = .ok (.iinc 4 1, 3) := by decide +kernel
theorem d_Result_wholeNumber_102 : decode b_Result_wholeNumber 102 = .ok (.goto (-95), 3) := by decide +kernel
theorem d_Result_wholeNumber_105 : decode b_Result_wholeNumber 105 = .ok (.iload_n 3, 1) := by decide +kernel
theorem d_Result_wholeNumber_106 : decode b_Result_wholeNumber 106 = .ok (.ifCond .eq 8, 3) := by decide +kernel
theorem d_Result_wholeNumber_109 : decode b_Result_wholeNumber 109 = .ok (.lload_n 1, 1) := by decide +kernel
theorem d_Result_wholeNumber_110 : decode b_Result_wholeNumber 110 = .ok (.lneg, 1) := by decide +kernel
theorem d_Result_wholeNumber_111 : decode b_Result_wholeNumber 111 = .ok (.goto 4, 3) := by decide +kernel
theorem d_Result_wholeNumber_114 : decode b_Result_wholeNumber 114 = .ok (.lload_n 1, 1) := by decide +kernel
theorem d_Result_wholeNumber_115 : decode b_Result_wholeNumber 115 = .ok (.lreturn, 1) := by decide +kernel
abbrev b_Editor_takeDigit : ByteArray := prog_3_method_11_code
abbrev y_Editor_takeDigit : MethodName := ⟨"EditMoves$Editor", "takeDigit", "()I"⟩
def ws_Editor_takeDigit : List Cond := .code y_Editor_takeDigit b_Editor_takeDigit 2 (some .int) :: wAll
theorem d_Editor_takeDigit_0 : decode b_Editor_takeDigit 0 = .ok (.aload_n 0, 1) := by decide +kernel
theorem d_Editor_takeDigit_1 : decode b_Editor_takeDigit 1 = .ok (.getfield 10, 3) := by decide +kernel
theorem d_Editor_takeDigit_4 : decode b_Editor_takeDigit 4 = .ok (.aload_n 0, 1) := by decide +kernel
theorem d_Editor_takeDigit_5 : decode b_Editor_takeDigit 5 = .ok (.getfield 51, 3) := by decide +kernel
theorem d_Editor_takeDigit_8 : decode b_Editor_takeDigit 8 = .ok (.invokevirtual 121, 3) := by decide +kernel
theorem d_Editor_takeDigit_11 : decode b_Editor_takeDigit 11 = .ok (.istore_n 1, 1) := by decide +kernel
theorem d_Editor_takeDigit_12 : decode b_Editor_takeDigit 12 = .ok (.aload_n 0, 1) := by decide +kernel
theorem d_Editor_takeDigit_13 : decode b_Editor_takeDigit 13 = .ok (.dup, 1) := by decide +kernel
theorem d_Editor_takeDigit_14 : decode b_Editor_takeDigit 14 = .ok (.getfield 51, 3) := by decide +kernel
theorem d_Editor_takeDigit_17 : decode b_Editor_takeDigit 17 = .ok (.iconst 1, 1) := by decide +kernel
theorem d_Editor_takeDigit_18 : decode b_Editor_takeDigit 18 = .ok (.iadd, 1) := by decide +kernel
theorem d_Editor_takeDigit_19 : decode b_Editor_takeDigit 19 = .ok (.putfield 51, 3) := by decide +kernel
theorem d_Editor_takeDigit_22 : decode b_Editor_takeDigit 22 = .ok (.iload_n 1, 1) := by decide +kernel
theorem d_Editor_takeDigit_23 : decode b_Editor_takeDigit 23 = .ok (.ireturn, 1) := by decide +kernel
abbrev b_Editor_signShown : ByteArray := prog_3_method_10_code
abbrev y_Editor_signShown : MethodName := ⟨"EditMoves$Editor", "signShown", "(I)I"⟩
def ws_Editor_signShown : List Cond := .code y_Editor_signShown b_Editor_signShown 2 (some .int) :: wAll
theorem d_Editor_signShown_0 : decode b_Editor_signShown 0 = .ok (.iload_n 1, 1) := by decide +kernel
theorem d_Editor_signShown_1 : decode b_Editor_signShown 1 = .ok (.bipush 43, 2) := by decide +kernel
theorem d_Editor_signShown_3 : decode b_Editor_signShown 3 = .ok (.if_icmp .ne 21, 3) := by decide +kernel
theorem d_Editor_signShown_6 : decode b_Editor_signShown 6 = .ok (.aload_n 0, 1) := by decide +kernel
theorem d_Editor_signShown_7 : decode b_Editor_signShown 7 = .ok (.getfield 10, 3) := by decide +kernel
theorem d_Editor_signShown_10 : decode b_Editor_signShown 10 = .ok (.getfield 118, 3) := by decide +kernel
theorem d_Editor_signShown_13 : decode b_Editor_signShown 13 = .ok (.ifCond .eq 8, 3) := by decide +kernel
theorem d_Editor_signShown_16 : decode b_Editor_signShown 16 = .ok (.bipush 45, 2) := by decide +kernel
theorem d_Editor_signShown_18 : decode b_Editor_signShown 18 = .ok (.goto 5, 3) := by decide +kernel
theorem d_Editor_signShown_21 : decode b_Editor_signShown 21 = .ok (.bipush 43, 2) := by decide +kernel
theorem d_Editor_signShown_23 : decode b_Editor_signShown 23 = .ok (.ireturn, 1) := by decide +kernel
theorem d_Editor_signShown_24 : decode b_Editor_signShown 24 = .ok (.iload_n 1, 1) := by decide +kernel
theorem d_Editor_signShown_25 : decode b_Editor_signShown 25 = .ok (.bipush 45, 2) := by decide +kernel
theorem d_Editor_signShown_27 : decode b_Editor_signShown 27 = .ok (.if_icmp .ne 21, 3) := by decide +kernel
theorem d_Editor_signShown_30 : decode b_Editor_signShown 30 = .ok (.aload_n 0, 1) := by decide +kernel
theorem d_Editor_signShown_31 : decode b_Editor_signShown 31 = .ok (.getfield 10, 3) := by decide +kernel
theorem d_Editor_signShown_34 : decode b_Editor_signShown 34 = .ok (.getfield 118, 3) := by decide +kernel
theorem d_Editor_signShown_37 : decode b_Editor_signShown 37 = .ok (.ifCond .eq 8, 3) := by decide +kernel
theorem d_Editor_signShown_40 : decode b_Editor_signShown 40 = .ok (.bipush 45, 2) := by decide +kernel
theorem d_Editor_signShown_42 : decode b_Editor_signShown 42 = .ok (.goto 5, 3) := by decide +kernel
theorem d_Editor_signShown_45 : decode b_Editor_signShown 45 = .ok (.bipush 32, 2) := by decide +kernel
theorem d_Editor_signShown_47 : decode b_Editor_signShown 47 = .ok (.ireturn, 1) := by decide +kernel
theorem d_Editor_signShown_48 : decode b_Editor_signShown 48 = .ok (.iload_n 1, 1) := by decide +kernel
theorem d_Editor_signShown_49 : decode b_Editor_signShown 49 = .ok (.ireturn, 1) := by decide +kernel
abbrev b_Editor_writePair : ByteArray := prog_3_method_9_code
abbrev y_Editor_writePair : MethodName := ⟨"EditMoves$Editor", "writePair", "(II)V"⟩
def ws_Editor_writePair : List Cond := .code y_Editor_writePair b_Editor_writePair 3 none :: wAll
theorem d_Editor_writePair_0 : decode b_Editor_writePair 0 = .ok (.aload_n 0, 1) := by decide +kernel
theorem d_Editor_writePair_1 : decode b_Editor_writePair 1 = .ok (.getfield 19, 3) := by decide +kernel
theorem d_Editor_writePair_4 : decode b_Editor_writePair 4 = .ok (.aload_n 0, 1) := by decide +kernel
theorem d_Editor_writePair_5 : decode b_Editor_writePair 5 = .ok (.getfield 10, 3) := by decide +kernel
theorem d_Editor_writePair_8 : decode b_Editor_writePair 8 = .ok (.getfield 118, 3) := by decide +kernel
theorem d_Editor_writePair_11 : decode b_Editor_writePair 11 = .ok (.ifCond .eq 7, 3) := by decide +kernel
theorem d_Editor_writePair_14 : decode b_Editor_writePair 14 = .ok (.iload_n 1, 1) := by decide +kernel
theorem d_Editor_writePair_15 : decode b_Editor_writePair 15 = .ok (.goto 5, 3) := by decide +kernel
theorem d_Editor_writePair_18 : decode b_Editor_writePair 18 = .ok (.bipush 32, 2) := by decide +kernel
theorem d_Editor_writePair_20 : decode b_Editor_writePair 20 = .ok (.iconst 0, 1) := by decide +kernel
theorem d_Editor_writePair_21 : decode b_Editor_writePair 21 = .ok (.invokevirtual 47, 3) := by decide +kernel
theorem d_Editor_writePair_24 : decode b_Editor_writePair 24 = .ok (.aload_n 0, 1) := by decide +kernel
theorem d_Editor_writePair_25 : decode b_Editor_writePair 25 = .ok (.getfield 19, 3) := by decide +kernel
theorem d_Editor_writePair_28 : decode b_Editor_writePair 28 = .ok (.aload_n 0, 1) := by decide +kernel
theorem d_Editor_writePair_29 : decode b_Editor_writePair 29 = .ok (.getfield 10, 3) := by decide +kernel
theorem d_Editor_writePair_32 : decode b_Editor_writePair 32 = .ok (.getfield 118, 3) := by decide +kernel
theorem d_Editor_writePair_35 : decode b_Editor_writePair 35 = .ok (.ifCond .eq 7, 3) := by decide +kernel
theorem d_Editor_writePair_38 : decode b_Editor_writePair 38 = .ok (.iload_n 2, 1) := by decide +kernel
theorem d_Editor_writePair_39 : decode b_Editor_writePair 39 = .ok (.goto 5, 3) := by decide +kernel
theorem d_Editor_writePair_42 : decode b_Editor_writePair 42 = .ok (.bipush 32, 2) := by decide +kernel
theorem d_Editor_writePair_44 : decode b_Editor_writePair 44 = .ok (.iconst 0, 1) := by decide +kernel
theorem d_Editor_writePair_45 : decode b_Editor_writePair 45 = .ok (.invokevirtual 47, 3) := by decide +kernel
theorem d_Editor_writePair_48 : decode b_Editor_writePair 48 = .ok (.return_, 1) := by decide +kernel
abbrev b_Editor_writePlainSign : ByteArray := prog_3_method_8_code
abbrev y_Editor_writePlainSign : MethodName := ⟨"EditMoves$Editor", "writePlainSign", "(I)V"⟩
def ws_Editor_writePlainSign : List Cond := .code y_Editor_writePlainSign b_Editor_writePlainSign 2 none :: wAll
theorem d_Editor_writePlainSign_0 : decode b_Editor_writePlainSign 0 = .ok (.iload_n 1, 1) := by decide +kernel
theorem d_Editor_writePlainSign_1 : decode b_Editor_writePlainSign 1 = .ok (.lookupswitch 107 #[(57, 51), (66, 72), (67, 85), (68, 96), (86, 69)], 51) := by decide +kernel
theorem d_Editor_writePlainSign_52 : decode b_Editor_writePlainSign 52 = .ok (.aload_n 0, 1) := by decide +kernel
theorem d_Editor_writePlainSign_53 : decode b_Editor_writePlainSign 53 = .ok (.getfield 19, 3) := by decide +kernel
theorem d_Editor_writePlainSign_56 : decode b_Editor_writePlainSign 56 = .ok (.bipush 48, 2) := by decide +kernel
theorem d_Editor_writePlainSign_58 : decode b_Editor_writePlainSign 58 = .ok (.aload_n 0, 1) := by decide +kernel
theorem d_Editor_writePlainSign_59 : decode b_Editor_writePlainSign 59 = .ok (.invokevirtual 104, 3) := by decide +kernel
theorem d_Editor_writePlainSign_62 : decode b_Editor_writePlainSign 62 = .ok (.iadd, 1) := by decide +kernel
theorem d_Editor_writePlainSign_63 : decode b_Editor_writePlainSign 63 = .ok (.iconst 1, 1) := by decide +kernel
theorem d_Editor_writePlainSign_64 : decode b_Editor_writePlainSign 64 = .ok (.invokevirtual 47, 3) := by decide +kernel
theorem d_Editor_writePlainSign_67 : decode b_Editor_writePlainSign 67 = .ok (.goto 54, 3) := by decide +kernel
theorem d_Editor_writePlainSign_70 : decode b_Editor_writePlainSign 70 = .ok (.goto 51, 3) := by decide +kernel
theorem d_Editor_writePlainSign_73 : decode b_Editor_writePlainSign 73 = .ok (.aload_n 0, 1) := by decide +kernel
theorem d_Editor_writePlainSign_74 : decode b_Editor_writePlainSign 74 = .ok (.getfield 19, 3) := by decide +kernel
theorem d_Editor_writePlainSign_77 : decode b_Editor_writePlainSign 77 = .ok (.bipush 32, 2) := by decide +kernel
theorem d_Editor_writePlainSign_79 : decode b_Editor_writePlainSign 79 = .ok (.iconst 0, 1) := by decide +kernel
theorem d_Editor_writePlainSign_80 : decode b_Editor_writePlainSign 80 = .ok (.invokevirtual 47, 3) := by decide +kernel
theorem d_Editor_writePlainSign_83 : decode b_Editor_writePlainSign 83 = .ok (.goto 38, 3) := by decide +kernel
theorem d_Editor_writePlainSign_86 : decode b_Editor_writePlainSign 86 = .ok (.aload_n 0, 1) := by decide +kernel
theorem d_Editor_writePlainSign_87 : decode b_Editor_writePlainSign 87 = .ok (.bipush 67, 2) := by decide +kernel
theorem d_Editor_writePlainSign_89 : decode b_Editor_writePlainSign 89 = .ok (.bipush 82, 2) := by decide +kernel
theorem d_Editor_writePlainSign_91 : decode b_Editor_writePlainSign 91 = .ok (.invokevirtual 114, 3) := by decide +kernel
theorem d_Editor_writePlainSign_94 : decode b_Editor_writePlainSign 94 = .ok (.goto 27, 3) := by decide +kernel
theorem d_Editor_writePlainSign_97 : decode b_Editor_writePlainSign 97 = .ok (.aload_n 0, 1) := by decide +kernel
theorem d_Editor_writePlainSign_98 : decode b_Editor_writePlainSign 98 = .ok (.bipush 68, 2) := by decide +kernel
theorem d_Editor_writePlainSign_100 : decode b_Editor_writePlainSign 100 = .ok (.bipush 66, 2) := by decide +kernel
theorem d_Editor_writePlainSign_102 : decode b_Editor_writePlainSign 102 = .ok (.invokevirtual 114, 3) := by decide +kernel
theorem d_Editor_writePlainSign_105 : decode b_Editor_writePlainSign 105 = .ok (.goto 16, 3) := by decide +kernel
theorem d_Editor_writePlainSign_108 : decode b_Editor_writePlainSign 108 = .ok (.aload_n 0, 1) := by decide +kernel
theorem d_Editor_writePlainSign_109 : decode b_Editor_writePlainSign 109 = .ok (.getfield 19, 3) := by decide +kernel
theorem d_Editor_writePlainSign_112 : decode b_Editor_writePlainSign 112 = .ok (.aload_n 0, 1) := by decide +kernel
theorem d_Editor_writePlainSign_113 : decode b_Editor_writePlainSign 113 = .ok (.iload_n 1, 1) := by decide +kernel
theorem d_Editor_writePlainSign_114 : decode b_Editor_writePlainSign 114 = .ok (.invokevirtual 108, 3) := by decide +kernel
theorem d_Editor_writePlainSign_117 : decode b_Editor_writePlainSign 117 = .ok (.iconst 0, 1) := by decide +kernel
theorem d_Editor_writePlainSign_118 : decode b_Editor_writePlainSign 118 = .ok (.invokevirtual 47, 3) := by decide +kernel
theorem d_Editor_writePlainSign_121 : decode b_Editor_writePlainSign 121 = .ok (.return_, 1) := by decide +kernel
abbrev b_Editor_endSuppressing : ByteArray := prog_3_method_7_code
abbrev y_Editor_endSuppressing : MethodName := ⟨"EditMoves$Editor", "endSuppressing", "(LEditMoves$Picture;)V"⟩
def ws_Editor_endSuppressing : List Cond := .code y_Editor_endSuppressing b_Editor_endSuppressing 2 none :: wAll
theorem d_Editor_endSuppressing_0 : decode b_Editor_endSuppressing 0 = .ok (.aload_n 0, 1) := by decide +kernel
theorem d_Editor_endSuppressing_1 : decode b_Editor_endSuppressing 1 = .ok (.getfield 58, 3) := by decide +kernel
theorem d_Editor_endSuppressing_4 : decode b_Editor_endSuppressing 4 = .ok (.ifCond .eq 25, 3) := by decide +kernel
theorem d_Editor_endSuppressing_7 : decode b_Editor_endSuppressing 7 = .ok (.aload_n 1, 1) := by decide +kernel
theorem d_Editor_endSuppressing_8 : decode b_Editor_endSuppressing 8 = .ok (.getfield 101, 3) := by decide +kernel
theorem d_Editor_endSuppressing_11 : decode b_Editor_endSuppressing 11 = .ok (.ifCond .eq 18, 3) := by decide +kernel
theorem d_Editor_endSuppressing_14 : decode b_Editor_endSuppressing 14 = .ok (.aload_n 0, 1) := by decide +kernel
theorem d_Editor_endSuppressing_15 : decode b_Editor_endSuppressing 15 = .ok (.getfield 19, 3) := by decide +kernel
theorem d_Editor_endSuppressing_18 : decode b_Editor_endSuppressing 18 = .ok (.aload_n 0, 1) := by decide +kernel
theorem d_Editor_endSuppressing_19 : decode b_Editor_endSuppressing 19 = .ok (.aload_n 1, 1) := by decide +kernel
theorem d_Editor_endSuppressing_20 : decode b_Editor_endSuppressing 20 = .ok (.getfield 61, 3) := by decide +kernel
theorem d_Editor_endSuppressing_23 : decode b_Editor_endSuppressing 23 = .ok (.invokevirtual 108, 3) := by decide +kernel
theorem d_Editor_endSuppressing_26 : decode b_Editor_endSuppressing 26 = .ok (.invokevirtual 111, 3) := by decide +kernel
theorem d_Editor_endSuppressing_29 : decode b_Editor_endSuppressing 29 = .ok (.aload_n 0, 1) := by decide +kernel
theorem d_Editor_endSuppressing_30 : decode b_Editor_endSuppressing 30 = .ok (.iconst 0, 1) := by decide +kernel
theorem d_Editor_endSuppressing_31 : decode b_Editor_endSuppressing 31 = .ok (.putfield 58, 3) := by decide +kernel
theorem d_Editor_endSuppressing_34 : decode b_Editor_endSuppressing 34 = .ok (.return_, 1) := by decide +kernel
abbrev b_Editor_writeStringSign : ByteArray := prog_3_method_6_code
abbrev y_Editor_writeStringSign : MethodName := ⟨"EditMoves$Editor", "writeStringSign", "(LEditMoves$Picture;)V"⟩
def ws_Editor_writeStringSign : List Cond := .code y_Editor_writeStringSign b_Editor_writeStringSign 3 none :: wAll
theorem d_Editor_writeStringSign_0 : decode b_Editor_writeStringSign 0 = .ok (.aload_n 0, 1) := by decide +kernel
theorem d_Editor_writeStringSign_1 : decode b_Editor_writeStringSign 1 = .ok (.getfield 54, 3) := by decide +kernel
theorem d_Editor_writeStringSign_4 : decode b_Editor_writeStringSign 4 = .ok (.ifCond .ne 32, 3) := by decide +kernel
theorem d_Editor_writeStringSign_7 : decode b_Editor_writeStringSign 7 = .ok (.aload_n 0, 1) := by decide +kernel
theorem d_Editor_writeStringSign_8 : decode b_Editor_writeStringSign 8 = .ok (.iconst 1, 1) := by decide +kernel
theorem d_Editor_writeStringSign_9 : decode b_Editor_writeStringSign 9 = .ok (.putfield 54, 3) := by decide +kernel
theorem d_Editor_writeStringSign_12 : decode b_Editor_writeStringSign 12 = .ok (.aload_n 0, 1) := by decide +kernel
theorem d_Editor_writeStringSign_13 : decode b_Editor_writeStringSign 13 = .ok (.iconst 1, 1) := by decide +kernel
theorem d_Editor_writeStringSign_14 : decode b_Editor_writeStringSign 14 = .ok (.putfield 58, 3) := by decide +kernel
theorem d_Editor_writeStringSign_17 : decode b_Editor_writeStringSign 17 = .ok (.aload_n 1, 1) := by decide +kernel
theorem d_Editor_writeStringSign_18 : decode b_Editor_writeStringSign 18 = .ok (.getfield 101, 3) := by decide +kernel
theorem d_Editor_writeStringSign_21 : decode b_Editor_writeStringSign 21 = .ok (.ifCond .eq 15, 3) := by decide +kernel
theorem d_Editor_writeStringSign_24 : decode b_Editor_writeStringSign 24 = .ok (.aload_n 0, 1) := by decide +kernel
theorem d_Editor_writeStringSign_25 : decode b_Editor_writeStringSign 25 = .ok (.getfield 19, 3) := by decide +kernel
theorem d_Editor_writeStringSign_28 : decode b_Editor_writeStringSign 28 = .ok (.aload_n 0, 1) := by decide +kernel
theorem d_Editor_writeStringSign_29 : decode b_Editor_writeStringSign 29 = .ok (.getfield 64, 3) := by decide +kernel
theorem d_Editor_writeStringSign_32 : decode b_Editor_writeStringSign 32 = .ok (.invokevirtual 84, 3) := by decide +kernel
theorem d_Editor_writeStringSign_35 : decode b_Editor_writeStringSign 35 = .ok (.return_, 1) := by decide +kernel
theorem d_Editor_writeStringSign_36 : decode b_Editor_writeStringSign 36 = .ok (.aload_n 0, 1) := by decide +kernel
theorem d_Editor_writeStringSign_37 : decode b_Editor_writeStringSign 37 = .ok (.invokevirtual 104, 3) := by decide +kernel
theorem d_Editor_writeStringSign_40 : decode b_Editor_writeStringSign 40 = .ok (.istore_n 2, 1) := by decide +kernel
theorem d_Editor_writeStringSign_41 : decode b_Editor_writeStringSign 41 = .ok (.aload_n 0, 1) := by decide +kernel
theorem d_Editor_writeStringSign_42 : decode b_Editor_writeStringSign 42 = .ok (.getfield 58, 3) := by decide +kernel
theorem d_Editor_writeStringSign_45 : decode b_Editor_writeStringSign 45 = .ok (.ifCond .eq 19, 3) := by decide +kernel
theorem d_Editor_writeStringSign_48 : decode b_Editor_writeStringSign 48 = .ok (.iload_n 2, 1) := by decide +kernel
theorem d_Editor_writeStringSign_49 : decode b_Editor_writeStringSign 49 = .ok (.ifCond .ne 15, 3) := by decide +kernel
theorem d_Editor_writeStringSign_52 : decode b_Editor_writeStringSign 52 = .ok (.aload_n 0, 1) := by decide +kernel
theorem d_Editor_writeStringSign_53 : decode b_Editor_writeStringSign 53 = .ok (.getfield 19, 3) := by decide +kernel
theorem d_Editor_writeStringSign_56 : decode b_Editor_writeStringSign 56 = .ok (.aload_n 0, 1) := by decide +kernel
theorem d_Editor_writeStringSign_57 : decode b_Editor_writeStringSign 57 = .ok (.getfield 64, 3) := by decide +kernel
theorem d_Editor_writeStringSign_60 : decode b_Editor_writeStringSign 60 = .ok (.invokevirtual 84, 3) := by decide +kernel
theorem d_Editor_writeStringSign_63 : decode b_Editor_writeStringSign 63 = .ok (.return_, 1) := by decide +kernel
theorem d_Editor_writeStringSign_64 : decode b_Editor_writeStringSign 64 = .ok (.aload_n 0, 1) := by decide +kernel
theorem d_Editor_writeStringSign_65 : decode b_Editor_writeStringSign 65 = .ok (.aload_n 1, 1) := by decide +kernel
theorem d_Editor_writeStringSign_66 : decode b_Editor_writeStringSign 66 = .ok (.invokevirtual 95, 3) := by decide +kernel
theorem d_Editor_writeStringSign_69 : decode b_Editor_writeStringSign 69 = .ok (.aload_n 0, 1) := by decide +kernel
theorem d_Editor_writeStringSign_70 : decode b_Editor_writeStringSign 70 = .ok (.getfield 19, 3) := by decide +kernel
theorem d_Editor_writeStringSign_73 : decode b_Editor_writeStringSign 73 = .ok (.bipush 48, 2) := by decide +kernel
theorem d_Editor_writeStringSign_75 : decode b_Editor_writeStringSign 75 = .ok (.iload_n 2, 1) := by decide +kernel
theorem d_Editor_writeStringSign_76 : decode b_Editor_writeStringSign 76 = .ok (.iadd, 1) := by decide +kernel
theorem d_Editor_writeStringSign_77 : decode b_Editor_writeStringSign 77 = .ok (.iconst 1, 1) := by decide +kernel
theorem d_Editor_writeStringSign_78 : decode b_Editor_writeStringSign 78 = .ok (.invokevirtual 47, 3) := by decide +kernel
theorem d_Editor_writeStringSign_81 : decode b_Editor_writeStringSign 81 = .ok (.return_, 1) := by decide +kernel
abbrev b_Editor_writeSign : ByteArray := prog_3_method_5_code
abbrev y_Editor_writeSign : MethodName := ⟨"EditMoves$Editor", "writeSign", "(LEditMoves$Picture;I)V"⟩
def ws_Editor_writeSign : List Cond := .code y_Editor_writeSign b_Editor_writeSign 3 none :: wAll
theorem d_Editor_writeSign_0 : decode b_Editor_writeSign 0 = .ok (.iload_n 2, 1) := by decide +kernel
theorem d_Editor_writeSign_1 : decode b_Editor_writeSign 1 = .ok (.aload_n 1, 1) := by decide +kernel
theorem d_Editor_writeSign_2 : decode b_Editor_writeSign 2 = .ok (.getfield 61, 3) := by decide +kernel
theorem d_Editor_writeSign_5 : decode b_Editor_writeSign 5 = .ok (.if_icmp .ne 11, 3) := by decide +kernel
theorem d_Editor_writeSign_8 : decode b_Editor_writeSign 8 = .ok (.aload_n 0, 1) := by decide +kernel
theorem d_Editor_writeSign_9 : decode b_Editor_writeSign 9 = .ok (.aload_n 1, 1) := by decide +kernel
theorem d_Editor_writeSign_10 : decode b_Editor_writeSign 10 = .ok (.invokevirtual 87, 3) := by decide +kernel
theorem d_Editor_writeSign_13 : decode b_Editor_writeSign 13 = .ok (.goto 41, 3) := by decide +kernel
theorem d_Editor_writeSign_16 : decode b_Editor_writeSign 16 = .ok (.aload_n 0, 1) := by decide +kernel
theorem d_Editor_writeSign_17 : decode b_Editor_writeSign 17 = .ok (.getfield 58, 3) := by decide +kernel
theorem d_Editor_writeSign_20 : decode b_Editor_writeSign 20 = .ok (.ifCond .eq 24, 3) := by decide +kernel
theorem d_Editor_writeSign_23 : decode b_Editor_writeSign 23 = .ok (.iload_n 2, 1) := by decide +kernel
theorem d_Editor_writeSign_24 : decode b_Editor_writeSign 24 = .ok (.invokestatic 91, 3) := by decide +kernel
theorem d_Editor_writeSign_27 : decode b_Editor_writeSign 27 = .ok (.ifCond .eq 17, 3) := by decide +kernel
theorem d_Editor_writeSign_30 : decode b_Editor_writeSign 30 = .ok (.aload_n 0, 1) := by decide +kernel
theorem d_Editor_writeSign_31 : decode b_Editor_writeSign 31 = .ok (.getfield 19, 3) := by decide +kernel
theorem d_Editor_writeSign_34 : decode b_Editor_writeSign 34 = .ok (.aload_n 0, 1) := by decide +kernel
theorem d_Editor_writeSign_35 : decode b_Editor_writeSign 35 = .ok (.getfield 64, 3) := by decide +kernel
theorem d_Editor_writeSign_38 : decode b_Editor_writeSign 38 = .ok (.invokevirtual 84, 3) := by decide +kernel
theorem d_Editor_writeSign_41 : decode b_Editor_writeSign 41 = .ok (.goto 13, 3) := by decide +kernel
theorem d_Editor_writeSign_44 : decode b_Editor_writeSign 44 = .ok (.aload_n 0, 1) := by decide +kernel
theorem d_Editor_writeSign_45 : decode b_Editor_writeSign 45 = .ok (.aload_n 1, 1) := by decide +kernel
theorem d_Editor_writeSign_46 : decode b_Editor_writeSign 46 = .ok (.invokevirtual 95, 3) := by decide +kernel
theorem d_Editor_writeSign_49 : decode b_Editor_writeSign 49 = .ok (.aload_n 0, 1) := by decide +kernel
theorem d_Editor_writeSign_50 : decode b_Editor_writeSign 50 = .ok (.iload_n 2, 1) := by decide +kernel
theorem d_Editor_writeSign_51 : decode b_Editor_writeSign 51 = .ok (.invokevirtual 98, 3) := by decide +kernel
theorem d_Editor_writeSign_54 : decode b_Editor_writeSign 54 = .ok (.return_, 1) := by decide +kernel
abbrev b_Editor_hideSign : ByteArray := prog_3_method_4_code
abbrev y_Editor_hideSign : MethodName := ⟨"EditMoves$Editor", "hideSign", "(I)V"⟩
def ws_Editor_hideSign : List Cond := .code y_Editor_hideSign b_Editor_hideSign 3 none :: wAll
theorem d_Editor_hideSign_0 : decode b_Editor_hideSign 0 = .ok (.aload_n 0, 1) := by decide +kernel
theorem d_Editor_hideSign_1 : decode b_Editor_hideSign 1 = .ok (.getfield 64, 3) := by decide +kernel
theorem d_Editor_hideSign_4 : decode b_Editor_hideSign 4 = .ok (.bipush 42, 2) := by decide +kernel
theorem d_Editor_hideSign_6 : decode b_Editor_hideSign 6 = .ok (.if_icmp .ne 20, 3) := by decide +kernel
theorem d_Editor_hideSign_9 : decode b_Editor_hideSign 9 = .ok (.iload_n 1, 1) := by decide +kernel
theorem d_Editor_hideSign_10 : decode b_Editor_hideSign 10 = .ok (.bipush 46, 2) := by decide +kernel
theorem d_Editor_hideSign_12 : decode b_Editor_hideSign 12 = .ok (.if_icmp .ne 14, 3) := by decide +kernel
theorem d_Editor_hideSign_15 : decode b_Editor_hideSign 15 = .ok (.aload_n 0, 1) := by decide +kernel
theorem d_Editor_hideSign_16 : decode b_Editor_hideSign 16 = .ok (.getfield 19, 3) := by decide +kernel
theorem d_Editor_hideSign_19 : decode b_Editor_hideSign 19 = .ok (.bipush 46, 2) := by decide +kernel
theorem d_Editor_hideSign_21 : decode b_Editor_hideSign 21 = .ok (.iconst 0, 1) := by decide +kernel
theorem d_Editor_hideSign_22 : decode b_Editor_hideSign 22 = .ok (.invokevirtual 47, 3) := by decide +kernel
theorem d_Editor_hideSign_25 : decode b_Editor_hideSign 25 = .ok (.return_, 1) := by decide +kernel
theorem d_Editor_hideSign_26 : decode b_Editor_hideSign 26 = .ok (.iconst 0, 1) := by decide +kernel
theorem d_Editor_hideSign_27 : decode b_Editor_hideSign 27 = .ok (.istore_n 2, 1) := by decide +kernel
theorem d_Editor_hideSign_28 : decode b_Editor_hideSign 28 = .ok (.iload_n 2, 1) := by decide +kernel
theorem d_Editor_hideSign_29 : decode b_Editor_hideSign 29 = .ok (.iload_n 1, 1) := by decide +kernel
theorem d_Editor_hideSign_30 : decode b_Editor_hideSign 30 = .ok (.invokestatic 81, 3) := by decide +kernel
theorem d_Editor_hideSign_33 : decode b_Editor_hideSign 33 = .ok (.if_icmp .ge 20, 3) := by decide +kernel
theorem d_Editor_hideSign_36 : decode b_Editor_hideSign 36 = .ok (.aload_n 0, 1) := by decide +kernel
theorem d_Editor_hideSign_37 : decode b_Editor_hideSign 37 = .ok (.getfield 19, 3) := by decide +kernel
theorem d_Editor_hideSign_40 : decode b_Editor_hideSign 40 = .ok (.aload_n 0, 1) := by decide +kernel
theorem d_Editor_hideSign_41 : decode b_Editor_hideSign 41 = .ok (.getfield 64, 3) := by decide +kernel
theorem d_Editor_hideSign_44 : decode b_Editor_hideSign 44 = .ok (.invokevirtual 84, 3) := by decide +kernel
theorem d_Editor_hideSign_47 : decode b_Editor_hideSign 47 = .ok (.iinc 2 1, 3) := by decide +kernel
theorem d_Editor_hideSign_50 : decode b_Editor_hideSign 50 = .ok (.goto (-22), 3) := by decide +kernel
theorem d_Editor_hideSign_53 : decode b_Editor_hideSign 53 = .ok (.return_, 1) := by decide +kernel
abbrev b_Editor_writeAmount : ByteArray := prog_3_method_3_code
abbrev y_Editor_writeAmount : MethodName := ⟨"EditMoves$Editor", "writeAmount", "(LEditMoves$Picture;Z)V"⟩
def ws_Editor_writeAmount : List Cond := .code y_Editor_writeAmount b_Editor_writeAmount 8 none :: wAll
theorem d_Editor_writeAmount_0 : decode b_Editor_writeAmount 0 = .ok (.aload_n 0, 1) := by decide +kernel
theorem d_Editor_writeAmount_1 : decode b_Editor_writeAmount 1 = .ok (.getfield 19, 3) := by decide +kernel
theorem d_Editor_writeAmount_4 : decode b_Editor_writeAmount 4 = .ok (.iconst 1, 1) := by decide +kernel
theorem d_Editor_writeAmount_5 : decode b_Editor_writeAmount 5 = .ok (.putfield 25, 3) := by decide +kernel
theorem d_Editor_writeAmount_8 : decode b_Editor_writeAmount 8 = .ok (.aload_n 0, 1) := by decide +kernel
theorem d_Editor_writeAmount_9 : decode b_Editor_writeAmount 9 = .ok (.iconst 0, 1) := by decide +kernel
theorem d_Editor_writeAmount_10 : decode b_Editor_writeAmount 10 = .ok (.putfield 51, 3) := by decide +kernel
theorem d_Editor_writeAmount_13 : decode b_Editor_writeAmount 13 = .ok (.aload_n 0, 1) := by decide +kernel
theorem d_Editor_writeAmount_14 : decode b_Editor_writeAmount 14 = .ok (.iconst 0, 1) := by decide +kernel
theorem d_Editor_writeAmount_15 : decode b_Editor_writeAmount 15 = .ok (.putfield 54, 3) := by decide +kernel
theorem d_Editor_writeAmount_18 : decode b_Editor_writeAmount 18 = .ok (.aload_n 0, 1) := by decide +kernel
theorem d_Editor_writeAmount_19 : decode b_Editor_writeAmount 19 = .ok (.iconst 0, 1) := by decide +kernel
theorem d_Editor_writeAmount_20 : decode b_Editor_writeAmount 20 = .ok (.putfield 58, 3) := by decide +kernel
theorem d_Editor_writeAmount_23 : decode b_Editor_writeAmount 23 = .ok (.aload_n 1, 1) := by decide +kernel
theorem d_Editor_writeAmount_24 : decode b_Editor_writeAmount 24 = .ok (.getfield 61, 3) := by decide +kernel
theorem d_Editor_writeAmount_27 : decode b_Editor_writeAmount 27 = .ok (.bipush 42, 2) := by decide +kernel
theorem d_Editor_writeAmount_29 : decode b_Editor_writeAmount 29 = .ok (.if_icmp .ne 7, 3) := by decide +kernel
theorem d_Editor_writeAmount_32 : decode b_Editor_writeAmount 32 = .ok (.iconst 1, 1) := by decide +kernel
theorem d_Editor_writeAmount_33 : decode b_Editor_writeAmount 33 = .ok (.goto 4, 3) := by decide +kernel
theorem d_Editor_writeAmount_36 : decode b_Editor_writeAmount 36 = .ok (.iconst 0, 1) := by decide +kernel
theorem d_Editor_writeAmount_37 : decode b_Editor_writeAmount 37 = .ok (.istore_n 3, 1) := by decide +kernel
theorem d_Editor_writeAmount_38 : decode b_Editor_writeAmount 38 = .ok (.aload_n 0, 1) := by decide +kernel
theorem d_Editor_writeAmount_39 : decode b_Editor_writeAmount 39 = .ok (.iload_n 3, 1) := by decide +kernel
theorem d_Editor_writeAmount_40 : decode b_Editor_writeAmount 40 = .ok (.ifCond .eq 8, 3) := by decide +kernel
theorem d_Editor_writeAmount_43 : decode b_Editor_writeAmount 43 = .ok (.bipush 42, 2) := by decide +kernel
theorem d_Editor_writeAmount_45 : decode b_Editor_writeAmount 45 = .ok (.goto 5, 3) := by decide +kernel
theorem d_Editor_writeAmount_48 : decode b_Editor_writeAmount 48 = .ok (.bipush 32, 2) := by decide +kernel
theorem d_Editor_writeAmount_50 : decode b_Editor_writeAmount 50 = .ok (.putfield 64, 3) := by decide +kernel
theorem d_Editor_writeAmount_53 : decode b_Editor_writeAmount 53 = .ok (.aload_n 0, 1) := by decide +kernel
theorem d_Editor_writeAmount_54 : decode b_Editor_writeAmount 54 = .ok (.getfield 10, 3) := by decide +kernel
theorem d_Editor_writeAmount_57 : decode b_Editor_writeAmount 57 = .ok (.getfield 67, 3) := by decide +kernel
theorem d_Editor_writeAmount_60 : decode b_Editor_writeAmount 60 = .ok (.ifCond .eq 22, 3) := by decide +kernel
theorem d_Editor_writeAmount_63 : decode b_Editor_writeAmount 63 = .ok (.aload_n 1, 1) := by decide +kernel
theorem d_Editor_writeAmount_64 : decode b_Editor_writeAmount 64 = .ok (.getfield 70, 3) := by decide +kernel
theorem d_Editor_writeAmount_67 : decode b_Editor_writeAmount 67 = .ok (.ifCond .ne 11, 3) := by decide +kernel
theorem d_Editor_writeAmount_70 : decode b_Editor_writeAmount 70 = .ok (.iload_n 2, 1) := by decide +kernel
theorem d_Editor_writeAmount_71 : decode b_Editor_writeAmount 71 = .ok (.ifCond .eq 11, 3) := by decide +kernel
theorem d_Editor_writeAmount_74 : decode b_Editor_writeAmount 74 = .ok (.iload_n 3, 1) := by decide +kernel
theorem d_Editor_writeAmount_75 : decode b_Editor_writeAmount 75 = .ok (.ifCond .ne 7, 3) := by decide +kernel
theorem d_Editor_writeAmount_78 : decode b_Editor_writeAmount 78 = .ok (.iconst 1, 1) := by decide +kernel
theorem d_Editor_writeAmount_79 : decode b_Editor_writeAmount 79 = .ok (.goto 4, 3) := by decide +kernel
theorem d_Editor_writeAmount_82 : decode b_Editor_writeAmount 82 = .ok (.iconst 0, 1) := by decide +kernel
theorem d_Editor_writeAmount_83 : decode b_Editor_writeAmount 83 = .ok (.istore 4, 2) := by decide +kernel
theorem d_Editor_writeAmount_85 : decode b_Editor_writeAmount 85 = .ok (.iconst 0, 1) := by decide +kernel
theorem d_Editor_writeAmount_86 : decode b_Editor_writeAmount 86 = .ok (.istore 5, 2) := by decide +kernel
theorem d_Editor_writeAmount_88 : decode b_Editor_writeAmount 88 = .ok (.iload 5, 2) := by decide +kernel
theorem d_Editor_writeAmount_90 : decode b_Editor_writeAmount 90 = .ok (.aload_n 1, 1) := by decide +kernel
theorem d_Editor_writeAmount_91 : decode b_Editor_writeAmount 91 = .ok (.getfield 29, 3) := by decide +kernel
theorem d_Editor_writeAmount_94 : decode b_Editor_writeAmount 94 = .ok (.if_icmp .ge 58, 3) := by decide +kernel
theorem d_Editor_writeAmount_97 : decode b_Editor_writeAmount 97 = .ok (.aload_n 1, 1) := by decide +kernel
theorem d_Editor_writeAmount_98 : decode b_Editor_writeAmount 98 = .ok (.iload 5, 2) := by decide +kernel
theorem d_Editor_writeAmount_100 : decode b_Editor_writeAmount 100 = .ok (.invokevirtual 32, 3) := by decide +kernel
theorem d_Editor_writeAmount_103 : decode b_Editor_writeAmount 103 = .ok (.istore 6, 2) := by decide +kernel
theorem d_Editor_writeAmount_105 : decode b_Editor_writeAmount 105 = .ok (.iconst 0, 1) := by decide +kernel
theorem d_Editor_writeAmount_106 : decode b_Editor_writeAmount 106 = .ok (.istore 7, 2) := by decide +kernel
theorem d_Editor_writeAmount_108 : decode b_Editor_writeAmount 108 = .ok (.iload 7, 2) := by decide +kernel
theorem d_Editor_writeAmount_110 : decode b_Editor_writeAmount 110 = .ok (.aload_n 1, 1) := by decide +kernel
theorem d_Editor_writeAmount_111 : decode b_Editor_writeAmount 111 = .ok (.iload 5, 2) := by decide +kernel
theorem d_Editor_writeAmount_113 : decode b_Editor_writeAmount 113 = .ok (.invokevirtual 36, 3) := by decide +kernel
theorem d_Editor_writeAmount_116 : decode b_Editor_writeAmount 116 = .ok (.if_icmp .ge 30, 3) := by decide +kernel
theorem d_Editor_writeAmount_119 : decode b_Editor_writeAmount 119 = .ok (.iload 4, 2) := by decide +kernel
theorem d_Editor_writeAmount_121 : decode b_Editor_writeAmount 121 = .ok (.ifCond .eq 12, 3) := by decide +kernel
theorem d_Editor_writeAmount_124 : decode b_Editor_writeAmount 124 = .ok (.aload_n 0, 1) := by decide +kernel
theorem d_Editor_writeAmount_125 : decode b_Editor_writeAmount 125 = .ok (.iload 6, 2) := by decide +kernel
theorem d_Editor_writeAmount_127 : decode b_Editor_writeAmount 127 = .ok (.invokevirtual 73, 3) := by decide +kernel
theorem d_Editor_writeAmount_130 : decode b_Editor_writeAmount 130 = .ok (.goto 10, 3) := by decide +kernel
theorem d_Editor_writeAmount_133 : decode b_Editor_writeAmount 133 = .ok (.aload_n 0, 1) := by decide +kernel
theorem d_Editor_writeAmount_134 : decode b_Editor_writeAmount 134 = .ok (.aload_n 1, 1) := by decide +kernel
theorem d_Editor_writeAmount_135 : decode b_Editor_writeAmount 135 = .ok (.iload 6, 2) := by decide +kernel
theorem d_Editor_writeAmount_137 : decode b_Editor_writeAmount 137 = .ok (.invokevirtual 77, 3) := by decide +kernel
theorem d_Editor_writeAmount_140 : decode b_Editor_writeAmount 140 = .ok (.iinc 7 1, 3) := by decide +kernel
theorem d_Editor_writeAmount_143 : decode b_Editor_writeAmount 143 = .ok (.goto (-35), 3) := by decide +kernel
theorem d_Editor_writeAmount_146 : decode b_Editor_writeAmount 146 = .ok (.iinc 5 1, 3) := by decide +kernel
theorem d_Editor_writeAmount_149 : decode b_Editor_writeAmount 149 = .ok (.goto (-61), 3) := by decide +kernel
theorem d_Editor_writeAmount_152 : decode b_Editor_writeAmount 152 = .ok (.return_, 1) := by decide +kernel
abbrev b_Editor_writeLine : ByteArray := prog_3_method_2_code
abbrev y_Editor_writeLine : MethodName := ⟨"EditMoves$Editor", "writeLine", "(LEditMoves$Picture;LEditMoves$Line;)I"⟩
def ws_Editor_writeLine : List Cond := .code y_Editor_writeLine b_Editor_writeLine 7 (some .int) :: wAll
theorem d_Editor_writeLine_0 : decode b_Editor_writeLine 0 = .ok (.aload_n 0, 1) := by decide +kernel
theorem d_Editor_writeLine_1 : decode b_Editor_writeLine 1 = .ok (.getfield 19, 3) := by decide +kernel
theorem d_Editor_writeLine_4 : decode b_Editor_writeLine 4 = .ok (.iconst 2, 1) := by decide +kernel
theorem d_Editor_writeLine_5 : decode b_Editor_writeLine 5 = .ok (.putfield 25, 3) := by decide +kernel
theorem d_Editor_writeLine_8 : decode b_Editor_writeLine 8 = .ok (.iconst 0, 1) := by decide +kernel
theorem d_Editor_writeLine_9 : decode b_Editor_writeLine 9 = .ok (.istore_n 3, 1) := by decide +kernel
theorem d_Editor_writeLine_10 : decode b_Editor_writeLine 10 = .ok (.iconst 0, 1) := by decide +kernel
theorem d_Editor_writeLine_11 : decode b_Editor_writeLine 11 = .ok (.istore 4, 2) := by decide +kernel
theorem d_Editor_writeLine_13 : decode b_Editor_writeLine 13 = .ok (.iload 4, 2) := by decide +kernel
theorem d_Editor_writeLine_15 : decode b_Editor_writeLine 15 = .ok (.aload_n 1, 1) := by decide +kernel
theorem d_Editor_writeLine_16 : decode b_Editor_writeLine 16 = .ok (.getfield 29, 3) := by decide +kernel
theorem d_Editor_writeLine_19 : decode b_Editor_writeLine 19 = .ok (.if_icmp .ge 98, 3) := by decide +kernel
theorem d_Editor_writeLine_22 : decode b_Editor_writeLine 22 = .ok (.aload_n 1, 1) := by decide +kernel
theorem d_Editor_writeLine_23 : decode b_Editor_writeLine 23 = .ok (.iload 4, 2) := by decide +kernel
theorem d_Editor_writeLine_25 : decode b_Editor_writeLine 25 = .ok (.invokevirtual 32, 3) := by decide +kernel
theorem d_Editor_writeLine_28 : decode b_Editor_writeLine 28 = .ok (.istore 5, 2) := by decide +kernel
theorem d_Editor_writeLine_30 : decode b_Editor_writeLine 30 = .ok (.iconst 0, 1) := by decide +kernel
theorem d_Editor_writeLine_31 : decode b_Editor_writeLine 31 = .ok (.istore 6, 2) := by decide +kernel
theorem d_Editor_writeLine_33 : decode b_Editor_writeLine 33 = .ok (.iload 6, 2) := by decide +kernel
theorem d_Editor_writeLine_35 : decode b_Editor_writeLine 35 = .ok (.aload_n 1, 1) := by decide +kernel
theorem d_Editor_writeLine_36 : decode b_Editor_writeLine 36 = .ok (.iload 4, 2) := by decide +kernel
theorem d_Editor_writeLine_38 : decode b_Editor_writeLine 38 = .ok (.invokevirtual 36, 3) := by decide +kernel
theorem d_Editor_writeLine_41 : decode b_Editor_writeLine 41 = .ok (.if_icmp .ge 70, 3) := by decide +kernel
theorem d_Editor_writeLine_44 : decode b_Editor_writeLine 44 = .ok (.iload 5, 2) := by decide +kernel
theorem d_Editor_writeLine_46 : decode b_Editor_writeLine 46 = .ok (.bipush 88, 2) := by decide +kernel
theorem d_Editor_writeLine_48 : decode b_Editor_writeLine 48 = .ok (.if_icmp .ne 35, 3) := by decide +kernel
theorem d_Editor_writeLine_51 : decode b_Editor_writeLine 51 = .ok (.aload_n 0, 1) := by decide +kernel
theorem d_Editor_writeLine_52 : decode b_Editor_writeLine 52 = .ok (.getfield 19, 3) := by decide +kernel
theorem d_Editor_writeLine_55 : decode b_Editor_writeLine 55 = .ok (.iload_n 3, 1) := by decide +kernel
theorem d_Editor_writeLine_56 : decode b_Editor_writeLine 56 = .ok (.aload_n 2, 1) := by decide +kernel
theorem d_Editor_writeLine_57 : decode b_Editor_writeLine 57 = .ok (.getfield 39, 3) := by decide +kernel
theorem d_Editor_writeLine_60 : decode b_Editor_writeLine 60 = .ok (.if_icmp .ge 11, 3) := by decide +kernel
theorem d_Editor_writeLine_63 : decode b_Editor_writeLine 63 = .ok (.aload_n 2, 1) := by decide +kernel
theorem d_Editor_writeLine_64 : decode b_Editor_writeLine 64 = .ok (.iload_n 3, 1) := by decide +kernel
theorem d_Editor_writeLine_65 : decode b_Editor_writeLine 65 = .ok (.invokevirtual 44, 3) := by decide +kernel
theorem d_Editor_writeLine_68 : decode b_Editor_writeLine 68 = .ok (.goto 5, 3) := by decide +kernel
theorem d_Editor_writeLine_71 : decode b_Editor_writeLine 71 = .ok (.bipush 32, 2) := by decide +kernel
theorem d_Editor_writeLine_73 : decode b_Editor_writeLine 73 = .ok (.iconst 0, 1) := by decide +kernel
theorem d_Editor_writeLine_74 : decode b_Editor_writeLine 74 = .ok (.invokevirtual 47, 3) := by decide +kernel
theorem d_Editor_writeLine_77 : decode b_Editor_writeLine 77 = .ok (.iinc 3 1, 3) := by decide +kernel
theorem d_Editor_writeLine_80 : decode b_Editor_writeLine 80 = .ok (.goto 25, 3) := by decide +kernel
theorem d_Editor_writeLine_83 : decode b_Editor_writeLine 83 = .ok (.aload_n 0, 1) := by decide +kernel
theorem d_Editor_writeLine_84 : decode b_Editor_writeLine 84 = .ok (.getfield 19, 3) := by decide +kernel
theorem d_Editor_writeLine_87 : decode b_Editor_writeLine 87 = .ok (.iload 5, 2) := by decide +kernel
theorem d_Editor_writeLine_89 : decode b_Editor_writeLine 89 = .ok (.bipush 66, 2) := by decide +kernel
theorem d_Editor_writeLine_91 : decode b_Editor_writeLine 91 = .ok (.if_icmp .ne 8, 3) := by decide +kernel
theorem d_Editor_writeLine_94 : decode b_Editor_writeLine 94 = .ok (.bipush 32, 2) := by decide +kernel
theorem d_Editor_writeLine_96 : decode b_Editor_writeLine 96 = .ok (.goto 5, 3) := by decide +kernel
theorem d_Editor_writeLine_99 : decode b_Editor_writeLine 99 = .ok (.iload 5, 2) := by decide +kernel
theorem d_Editor_writeLine_101 : decode b_Editor_writeLine 101 = .ok (.iconst 0, 1) := by decide +kernel
theorem d_Editor_writeLine_102 : decode b_Editor_writeLine 102 = .ok (.invokevirtual 47, 3) := by decide +kernel
theorem d_Editor_writeLine_105 : decode b_Editor_writeLine 105 = .ok (.iinc 6 1, 3) := by decide +kernel
theorem d_Editor_writeLine_108 : decode b_Editor_writeLine 108 = .ok (.goto (-75), 3) := by decide +kernel
theorem d_Editor_writeLine_111 : decode b_Editor_writeLine 111 = .ok (.iinc 4 1, 3) := by decide +kernel
theorem d_Editor_writeLine_114 : decode b_Editor_writeLine 114 = .ok (.goto (-101), 3) := by decide +kernel
theorem d_Editor_writeLine_117 : decode b_Editor_writeLine 117 = .ok (.iload_n 3, 1) := by decide +kernel
theorem d_Editor_writeLine_118 : decode b_Editor_writeLine 118 = .ok (.aload_n 2, 1) := by decide +kernel
theorem d_Editor_writeLine_119 : decode b_Editor_writeLine 119 = .ok (.getfield 39, 3) := by decide +kernel
theorem d_Editor_writeLine_122 : decode b_Editor_writeLine 122 = .ok (.if_icmp .ge 12, 3) := by decide +kernel
theorem d_Editor_writeLine_125 : decode b_Editor_writeLine 125 = .ok (.aload_n 2, 1) := by decide +kernel
theorem d_Editor_writeLine_126 : decode b_Editor_writeLine 126 = .ok (.getfield 39, 3) := by decide +kernel
theorem d_Editor_writeLine_129 : decode b_Editor_writeLine 129 = .ok (.iload_n 3, 1) := by decide +kernel
theorem d_Editor_writeLine_130 : decode b_Editor_writeLine 130 = .ok (.isub, 1) := by decide +kernel
theorem d_Editor_writeLine_131 : decode b_Editor_writeLine 131 = .ok (.goto 4, 3) := by decide +kernel
theorem d_Editor_writeLine_134 : decode b_Editor_writeLine 134 = .ok (.iconst 0, 1) := by decide +kernel
theorem d_Editor_writeLine_135 : decode b_Editor_writeLine 135 = .ok (.ireturn, 1) := by decide +kernel
abbrev b_EditMoves_mayBeCurrency : ByteArray := prog_1_method_17_code
abbrev y_EditMoves_mayBeCurrency : MethodName := ⟨"EditMoves", "mayBeCurrency", "(I)Z"⟩
def ws_EditMoves_mayBeCurrency : List Cond := .code y_EditMoves_mayBeCurrency b_EditMoves_mayBeCurrency 2 (some .boolean) :: wAll
theorem d_EditMoves_mayBeCurrency_0 : decode b_EditMoves_mayBeCurrency 0 = .ok (.iload_n 0, 1) := by decide +kernel
theorem d_EditMoves_mayBeCurrency_1 : decode b_EditMoves_mayBeCurrency 1 = .ok (.bipush 32, 2) := by decide +kernel
theorem d_EditMoves_mayBeCurrency_3 : decode b_EditMoves_mayBeCurrency 3 = .ok (.if_icmp .le 16, 3) := by decide +kernel
theorem d_EditMoves_mayBeCurrency_6 : decode b_EditMoves_mayBeCurrency 6 = .ok (.iload_n 0, 1) := by decide +kernel
theorem d_EditMoves_mayBeCurrency_7 : decode b_EditMoves_mayBeCurrency 7 = .ok (.bipush 126, 2) := by decide +kernel
theorem d_EditMoves_mayBeCurrency_9 : decode b_EditMoves_mayBeCurrency 9 = .ok (.if_icmp .gt 10, 3) := by decide +kernel
theorem d_EditMoves_mayBeCurrency_12 : decode b_EditMoves_mayBeCurrency 12 = .ok (.iload_n 0, 1) := by decide +kernel
theorem d_EditMoves_mayBeCurrency_13 : decode b_EditMoves_mayBeCurrency 13 = .ok (.invokestatic 140, 3) := by decide +kernel
theorem d_EditMoves_mayBeCurrency_16 : decode b_EditMoves_mayBeCurrency 16 = .ok (.ifCond .eq 5, 3) := by decide +kernel
theorem d_EditMoves_mayBeCurrency_19 : decode b_EditMoves_mayBeCurrency 19 = .ok (.iconst 0, 1) := by decide +kernel
theorem d_EditMoves_mayBeCurrency_20 : decode b_EditMoves_mayBeCurrency 20 = .ok (.ireturn, 1) := by decide +kernel
theorem d_EditMoves_mayBeCurrency_21 : decode b_EditMoves_mayBeCurrency 21 = .ok (.iload_n 0, 1) := by decide +kernel
theorem d_EditMoves_mayBeCurrency_22 : decode b_EditMoves_mayBeCurrency 22 = .ok (.invokestatic 143, 3) := by decide +kernel
theorem d_EditMoves_mayBeCurrency_25 : decode b_EditMoves_mayBeCurrency 25 = .ok (.istore_n 1, 1) := by decide +kernel
theorem d_EditMoves_mayBeCurrency_26 : decode b_EditMoves_mayBeCurrency 26 = .ok (.iload_n 1, 1) := by decide +kernel
theorem d_EditMoves_mayBeCurrency_27 : decode b_EditMoves_mayBeCurrency 27 = .ok (.bipush 65, 2) := by decide +kernel
theorem d_EditMoves_mayBeCurrency_29 : decode b_EditMoves_mayBeCurrency 29 = .ok (.if_icmp .lt 9, 3) := by decide +kernel
theorem d_EditMoves_mayBeCurrency_32 : decode b_EditMoves_mayBeCurrency 32 = .ok (.iload_n 1, 1) := by decide +kernel
theorem d_EditMoves_mayBeCurrency_33 : decode b_EditMoves_mayBeCurrency 33 = .ok (.bipush 90, 2) := by decide +kernel
theorem d_EditMoves_mayBeCurrency_35 : decode b_EditMoves_mayBeCurrency 35 = .ok (.if_icmp .le 17, 3) := by decide +kernel
theorem d_EditMoves_mayBeCurrency_38 : decode b_EditMoves_mayBeCurrency 38 = .ok (.ldc 146, 2) := by decide +kernel
theorem d_EditMoves_mayBeCurrency_40 : decode b_EditMoves_mayBeCurrency 40 = .ok (.iload_n 0, 1) := by decide +kernel
theorem d_EditMoves_mayBeCurrency_41 : decode b_EditMoves_mayBeCurrency 41 = .ok (.i2c, 1) := by decide +kernel
theorem d_EditMoves_mayBeCurrency_42 : decode b_EditMoves_mayBeCurrency 42 = .ok (.invokevirtual 148, 3) := by decide +kernel
theorem d_EditMoves_mayBeCurrency_45 : decode b_EditMoves_mayBeCurrency 45 = .ok (.ifCond .ge 7, 3) := by decide +kernel
theorem d_EditMoves_mayBeCurrency_48 : decode b_EditMoves_mayBeCurrency 48 = .ok (.iconst 1, 1) := by decide +kernel
theorem d_EditMoves_mayBeCurrency_49 : decode b_EditMoves_mayBeCurrency 49 = .ok (.goto 4, 3) := by decide +kernel
theorem d_EditMoves_mayBeCurrency_52 : decode b_EditMoves_mayBeCurrency 52 = .ok (.iconst 0, 1) := by decide +kernel
theorem d_EditMoves_mayBeCurrency_53 : decode b_EditMoves_mayBeCurrency 53 = .ok (.ireturn, 1) := by decide +kernel
abbrev b_EditMoves_picture : ByteArray := prog_1_method_2_code
abbrev y_EditMoves_picture : MethodName := ⟨"EditMoves", "picture", "(I)V"⟩
def ws_EditMoves_picture : List Cond := .code y_EditMoves_picture b_EditMoves_picture 2 none :: wAll
theorem d_EditMoves_picture_0 : decode b_EditMoves_picture 0 = .ok (.iload_n 1, 1) := by decide +kernel
theorem d_EditMoves_picture_1 : decode b_EditMoves_picture 1 = .ok (.ifCond .ne 13, 3) := by decide +kernel
theorem d_EditMoves_picture_4 : decode b_EditMoves_picture 4 = .ok (.aload_n 0, 1) := by decide +kernel
theorem d_EditMoves_picture_5 : decode b_EditMoves_picture 5 = .ok (.getfield 10, 3) := by decide +kernel
theorem d_EditMoves_picture_8 : decode b_EditMoves_picture 8 = .ok (.invokevirtual 37, 3) := by decide +kernel
theorem d_EditMoves_picture_11 : decode b_EditMoves_picture 11 = .ok (.goto 26, 3) := by decide +kernel
theorem d_EditMoves_picture_14 : decode b_EditMoves_picture 14 = .ok (.aload_n 0, 1) := by decide +kernel
theorem d_EditMoves_picture_15 : decode b_EditMoves_picture 15 = .ok (.getfield 10, 3) := by decide +kernel
theorem d_EditMoves_picture_18 : decode b_EditMoves_picture 18 = .ok (.iload_n 1, 1) := by decide +kernel
theorem d_EditMoves_picture_19 : decode b_EditMoves_picture 19 = .ok (.ifCond .le 13, 3) := by decide +kernel
theorem d_EditMoves_picture_22 : decode b_EditMoves_picture 22 = .ok (.iload_n 1, 1) := by decide +kernel
theorem d_EditMoves_picture_23 : decode b_EditMoves_picture 23 = .ok (.bipush 126, 2) := by decide +kernel
theorem d_EditMoves_picture_25 : decode b_EditMoves_picture 25 = .ok (.if_icmp .gt 7, 3) := by decide +kernel
theorem d_EditMoves_picture_28 : decode b_EditMoves_picture 28 = .ok (.iload_n 1, 1) := by decide +kernel
theorem d_EditMoves_picture_29 : decode b_EditMoves_picture 29 = .ok (.goto 5, 3) := by decide +kernel
theorem d_EditMoves_picture_32 : decode b_EditMoves_picture 32 = .ok (.bipush 127, 2) := by decide +kernel
theorem d_EditMoves_picture_34 : decode b_EditMoves_picture 34 = .ok (.invokevirtual 40, 3) := by decide +kernel
theorem d_EditMoves_picture_37 : decode b_EditMoves_picture 37 = .ok (.return_, 1) := by decide +kernel
abbrev b_EditMoves_value : ByteArray := prog_1_method_3_code
abbrev y_EditMoves_value : MethodName := ⟨"EditMoves", "value", "(JI)I"⟩
def ws_EditMoves_value : List Cond := .code y_EditMoves_value b_EditMoves_value 4 (some .int) :: wAll
theorem d_EditMoves_value_0 : decode b_EditMoves_value 0 = .ok (.iload_n 3, 1) := by decide +kernel
theorem d_EditMoves_value_1 : decode b_EditMoves_value 1 = .ok (.ifCond .lt 9, 3) := by decide +kernel
theorem d_EditMoves_value_4 : decode b_EditMoves_value 4 = .ok (.iload_n 3, 1) := by decide +kernel
theorem d_EditMoves_value_5 : decode b_EditMoves_value 5 = .ok (.bipush 18, 2) := by decide +kernel
theorem d_EditMoves_value_7 : decode b_EditMoves_value 7 = .ok (.if_icmp .le 5, 3) := by decide +kernel
theorem d_EditMoves_value_10 : decode b_EditMoves_value 10 = .ok (.iconst 0, 1) := by decide +kernel
theorem d_EditMoves_value_11 : decode b_EditMoves_value 11 = .ok (.ireturn, 1) := by decide +kernel
theorem d_EditMoves_value_12 : decode b_EditMoves_value 12 = .ok (.aload_n 0, 1) := by decide +kernel
theorem d_EditMoves_value_13 : decode b_EditMoves_value 13 = .ok (.lload_n 1, 1) := by decide +kernel
theorem d_EditMoves_value_14 : decode b_EditMoves_value 14 = .ok (.putfield 44, 3) := by decide +kernel
theorem d_EditMoves_value_17 : decode b_EditMoves_value 17 = .ok (.aload_n 0, 1) := by decide +kernel
theorem d_EditMoves_value_18 : decode b_EditMoves_value 18 = .ok (.iload_n 3, 1) := by decide +kernel
theorem d_EditMoves_value_19 : decode b_EditMoves_value 19 = .ok (.putfield 48, 3) := by decide +kernel
theorem d_EditMoves_value_22 : decode b_EditMoves_value 22 = .ok (.iconst 1, 1) := by decide +kernel
theorem d_EditMoves_value_23 : decode b_EditMoves_value 23 = .ok (.ireturn, 1) := by decide +kernel
abbrev b_EditMoves_text : ByteArray := prog_1_method_4_code
abbrev y_EditMoves_text : MethodName := ⟨"EditMoves", "text", "(I)V"⟩
def ws_EditMoves_text : List Cond := .code y_EditMoves_text b_EditMoves_text 2 none :: wAll
theorem d_EditMoves_text_0 : decode b_EditMoves_text 0 = .ok (.iload_n 1, 1) := by decide +kernel
theorem d_EditMoves_text_1 : decode b_EditMoves_text 1 = .ok (.bipush 32, 2) := by decide +kernel
theorem d_EditMoves_text_3 : decode b_EditMoves_text 3 = .ok (.if_icmp .lt 20, 3) := by decide +kernel
theorem d_EditMoves_text_6 : decode b_EditMoves_text 6 = .ok (.iload_n 1, 1) := by decide +kernel
theorem d_EditMoves_text_7 : decode b_EditMoves_text 7 = .ok (.bipush 126, 2) := by decide +kernel
theorem d_EditMoves_text_9 : decode b_EditMoves_text 9 = .ok (.if_icmp .gt 14, 3) := by decide +kernel
theorem d_EditMoves_text_12 : decode b_EditMoves_text 12 = .ok (.aload_n 0, 1) := by decide +kernel
theorem d_EditMoves_text_13 : decode b_EditMoves_text 13 = .ok (.getfield 16, 3) := by decide +kernel
theorem d_EditMoves_text_16 : decode b_EditMoves_text 16 = .ok (.iload_n 1, 1) := by decide +kernel
theorem d_EditMoves_text_17 : decode b_EditMoves_text 17 = .ok (.invokevirtual 40, 3) := by decide +kernel
theorem d_EditMoves_text_20 : decode b_EditMoves_text 20 = .ok (.goto 10, 3) := by decide +kernel
theorem d_EditMoves_text_23 : decode b_EditMoves_text 23 = .ok (.aload_n 0, 1) := by decide +kernel
theorem d_EditMoves_text_24 : decode b_EditMoves_text 24 = .ok (.getfield 16, 3) := by decide +kernel
theorem d_EditMoves_text_27 : decode b_EditMoves_text 27 = .ok (.invokevirtual 37, 3) := by decide +kernel
theorem d_EditMoves_text_30 : decode b_EditMoves_text 30 = .ok (.return_, 1) := by decide +kernel
abbrev b_EditMoves_editLine : ByteArray := prog_1_method_15_code
abbrev y_EditMoves_editLine : MethodName := ⟨"EditMoves", "editLine", "()I"⟩
def ws_EditMoves_editLine : List Cond := .code y_EditMoves_editLine b_EditMoves_editLine 1 (some .int) :: wAll
theorem d_EditMoves_editLine_0 : decode b_EditMoves_editLine 0 = .ok (.aload_n 0, 1) := by decide +kernel
theorem d_EditMoves_editLine_1 : decode b_EditMoves_editLine 1 = .ok (.aload_n 0, 1) := by decide +kernel
theorem d_EditMoves_editLine_2 : decode b_EditMoves_editLine 2 = .ok (.getfield 29, 3) := by decide +kernel
theorem d_EditMoves_editLine_5 : decode b_EditMoves_editLine 5 = .ok (.aload_n 0, 1) := by decide +kernel
theorem d_EditMoves_editLine_6 : decode b_EditMoves_editLine 6 = .ok (.getfield 22, 3) := by decide +kernel
theorem d_EditMoves_editLine_9 : decode b_EditMoves_editLine 9 = .ok (.aload_n 0, 1) := by decide +kernel
theorem d_EditMoves_editLine_10 : decode b_EditMoves_editLine 10 = .ok (.getfield 16, 3) := by decide +kernel
theorem d_EditMoves_editLine_13 : decode b_EditMoves_editLine 13 = .ok (.invokevirtual 115, 3) := by decide +kernel
theorem d_EditMoves_editLine_16 : decode b_EditMoves_editLine 16 = .ok (.putfield 60, 3) := by decide +kernel
theorem d_EditMoves_editLine_19 : decode b_EditMoves_editLine 19 = .ok (.aload_n 0, 1) := by decide +kernel
theorem d_EditMoves_editLine_20 : decode b_EditMoves_editLine 20 = .ok (.getfield 29, 3) := by decide +kernel
theorem d_EditMoves_editLine_23 : decode b_EditMoves_editLine 23 = .ok (.getfield 51, 3) := by decide +kernel
theorem d_EditMoves_editLine_26 : decode b_EditMoves_editLine 26 = .ok (.getfield 119, 3) := by decide +kernel
theorem d_EditMoves_editLine_29 : decode b_EditMoves_editLine 29 = .ok (.ireturn, 1) := by decide +kernel
abbrev b_EditMoves_editAmount : ByteArray := prog_1_method_16_code
abbrev y_EditMoves_editAmount : MethodName := ⟨"EditMoves", "editAmount", "()I"⟩
def ws_EditMoves_editAmount : List Cond := .code y_EditMoves_editAmount b_EditMoves_editAmount 2 (some .int) :: wAll
theorem d_EditMoves_editAmount_0 : decode b_EditMoves_editAmount 0 = .ok (.aload_n 0, 1) := by decide +kernel
theorem d_EditMoves_editAmount_1 : decode b_EditMoves_editAmount 1 = .ok (.getfield 29, 3) := by decide +kernel
theorem d_EditMoves_editAmount_4 : decode b_EditMoves_editAmount 4 = .ok (.getfield 122, 3) := by decide +kernel
theorem d_EditMoves_editAmount_7 : decode b_EditMoves_editAmount 7 = .ok (.astore_n 1, 1) := by decide +kernel
theorem d_EditMoves_editAmount_8 : decode b_EditMoves_editAmount 8 = .ok (.aload_n 1, 1) := by decide +kernel
theorem d_EditMoves_editAmount_9 : decode b_EditMoves_editAmount 9 = .ok (.aload_n 0, 1) := by decide +kernel
theorem d_EditMoves_editAmount_10 : decode b_EditMoves_editAmount 10 = .ok (.getfield 44, 3) := by decide +kernel
theorem d_EditMoves_editAmount_13 : decode b_EditMoves_editAmount 13 = .ok (.aload_n 0, 1) := by decide +kernel
theorem d_EditMoves_editAmount_14 : decode b_EditMoves_editAmount 14 = .ok (.getfield 48, 3) := by decide +kernel
theorem d_EditMoves_editAmount_17 : decode b_EditMoves_editAmount 17 = .ok (.aload_n 0, 1) := by decide +kernel
theorem d_EditMoves_editAmount_18 : decode b_EditMoves_editAmount 18 = .ok (.getfield 22, 3) := by decide +kernel
theorem d_EditMoves_editAmount_21 : decode b_EditMoves_editAmount 21 = .ok (.getfield 106, 3) := by decide +kernel
theorem d_EditMoves_editAmount_24 : decode b_EditMoves_editAmount 24 = .ok (.aload_n 0, 1) := by decide +kernel
theorem d_EditMoves_editAmount_25 : decode b_EditMoves_editAmount 25 = .ok (.getfield 22, 3) := by decide +kernel
theorem d_EditMoves_editAmount_28 : decode b_EditMoves_editAmount 28 = .ok (.getfield 109, 3) := by decide +kernel
theorem d_EditMoves_editAmount_31 : decode b_EditMoves_editAmount 31 = .ok (.invokevirtual 126, 3) := by decide +kernel
theorem d_EditMoves_editAmount_34 : decode b_EditMoves_editAmount 34 = .ok (.aload_n 0, 1) := by decide +kernel
theorem d_EditMoves_editAmount_35 : decode b_EditMoves_editAmount 35 = .ok (.aload_n 1, 1) := by decide +kernel
theorem d_EditMoves_editAmount_36 : decode b_EditMoves_editAmount 36 = .ok (.getfield 132, 3) := by decide +kernel
theorem d_EditMoves_editAmount_39 : decode b_EditMoves_editAmount 39 = .ok (.putfield 60, 3) := by decide +kernel
theorem d_EditMoves_editAmount_42 : decode b_EditMoves_editAmount 42 = .ok (.aload_n 0, 1) := by decide +kernel
theorem d_EditMoves_editAmount_43 : decode b_EditMoves_editAmount 43 = .ok (.getfield 100, 3) := by decide +kernel
theorem d_EditMoves_editAmount_46 : decode b_EditMoves_editAmount 46 = .ok (.ifCond .eq 12, 3) := by decide +kernel
theorem d_EditMoves_editAmount_49 : decode b_EditMoves_editAmount 49 = .ok (.aload_n 1, 1) := by decide +kernel
theorem d_EditMoves_editAmount_50 : decode b_EditMoves_editAmount 50 = .ok (.getfield 133, 3) := by decide +kernel
theorem d_EditMoves_editAmount_53 : decode b_EditMoves_editAmount 53 = .ok (.ifCond .eq 5, 3) := by decide +kernel
theorem d_EditMoves_editAmount_56 : decode b_EditMoves_editAmount 56 = .ok (.iconst (-1), 1) := by decide +kernel
theorem d_EditMoves_editAmount_57 : decode b_EditMoves_editAmount 57 = .ok (.ireturn, 1) := by decide +kernel
theorem d_EditMoves_editAmount_58 : decode b_EditMoves_editAmount 58 = .ok (.aload_n 0, 1) := by decide +kernel
theorem d_EditMoves_editAmount_59 : decode b_EditMoves_editAmount 59 = .ok (.getfield 29, 3) := by decide +kernel
theorem d_EditMoves_editAmount_62 : decode b_EditMoves_editAmount 62 = .ok (.aload_n 0, 1) := by decide +kernel
theorem d_EditMoves_editAmount_63 : decode b_EditMoves_editAmount 63 = .ok (.getfield 22, 3) := by decide +kernel
theorem d_EditMoves_editAmount_66 : decode b_EditMoves_editAmount 66 = .ok (.aload_n 0, 1) := by decide +kernel
theorem d_EditMoves_editAmount_67 : decode b_EditMoves_editAmount 67 = .ok (.getfield 96, 3) := by decide +kernel
theorem d_EditMoves_editAmount_70 : decode b_EditMoves_editAmount 70 = .ok (.invokevirtual 136, 3) := by decide +kernel
theorem d_EditMoves_editAmount_73 : decode b_EditMoves_editAmount 73 = .ok (.aload_n 0, 1) := by decide +kernel
theorem d_EditMoves_editAmount_74 : decode b_EditMoves_editAmount 74 = .ok (.getfield 29, 3) := by decide +kernel
theorem d_EditMoves_editAmount_77 : decode b_EditMoves_editAmount 77 = .ok (.getfield 51, 3) := by decide +kernel
theorem d_EditMoves_editAmount_80 : decode b_EditMoves_editAmount 80 = .ok (.getfield 119, 3) := by decide +kernel
theorem d_EditMoves_editAmount_83 : decode b_EditMoves_editAmount 83 = .ok (.ireturn, 1) := by decide +kernel
abbrev b_EditMoves_edit : ByteArray := prog_1_method_5_code
abbrev y_EditMoves_edit : MethodName := ⟨"EditMoves", "edit", "()I"⟩
def ws_EditMoves_edit : List Cond := .code y_EditMoves_edit b_EditMoves_edit 1 (some .int) :: wAll
theorem d_EditMoves_edit_0 : decode b_EditMoves_edit 0 = .ok (.aload_n 0, 1) := by decide +kernel
theorem d_EditMoves_edit_1 : decode b_EditMoves_edit 1 = .ok (.getfield 29, 3) := by decide +kernel
theorem d_EditMoves_edit_4 : decode b_EditMoves_edit 4 = .ok (.getfield 51, 3) := by decide +kernel
theorem d_EditMoves_edit_7 : decode b_EditMoves_edit 7 = .ok (.invokevirtual 55, 3) := by decide +kernel
theorem d_EditMoves_edit_10 : decode b_EditMoves_edit 10 = .ok (.aload_n 0, 1) := by decide +kernel
theorem d_EditMoves_edit_11 : decode b_EditMoves_edit 11 = .ok (.iconst 0, 1) := by decide +kernel
theorem d_EditMoves_edit_12 : decode b_EditMoves_edit 12 = .ok (.putfield 60, 3) := by decide +kernel
theorem d_EditMoves_edit_15 : decode b_EditMoves_edit 15 = .ok (.aload_n 0, 1) := by decide +kernel
theorem d_EditMoves_edit_16 : decode b_EditMoves_edit 16 = .ok (.getfield 22, 3) := by decide +kernel
theorem d_EditMoves_edit_19 : decode b_EditMoves_edit 19 = .ok (.aload_n 0, 1) := by decide +kernel
theorem d_EditMoves_edit_20 : decode b_EditMoves_edit 20 = .ok (.getfield 10, 3) := by decide +kernel
theorem d_EditMoves_edit_23 : decode b_EditMoves_edit 23 = .ok (.aload_n 0, 1) := by decide +kernel
theorem d_EditMoves_edit_24 : decode b_EditMoves_edit 24 = .ok (.getfield 33, 3) := by decide +kernel
theorem d_EditMoves_edit_27 : decode b_EditMoves_edit 27 = .ok (.invokevirtual 63, 3) := by decide +kernel
theorem d_EditMoves_edit_30 : decode b_EditMoves_edit 30 = .ok (.aload_n 0, 1) := by decide +kernel
theorem d_EditMoves_edit_31 : decode b_EditMoves_edit 31 = .ok (.getfield 22, 3) := by decide +kernel
theorem d_EditMoves_edit_34 : decode b_EditMoves_edit 34 = .ok (.getfield 67, 3) := by decide +kernel
theorem d_EditMoves_edit_37 : decode b_EditMoves_edit 37 = .ok (.ifCond .eq 16, 3) := by decide +kernel
theorem d_EditMoves_edit_40 : decode b_EditMoves_edit 40 = .ok (.aload_n 0, 1) := by decide +kernel
theorem d_EditMoves_edit_41 : decode b_EditMoves_edit 41 = .ok (.getfield 22, 3) := by decide +kernel
theorem d_EditMoves_edit_44 : decode b_EditMoves_edit 44 = .ok (.getfield 70, 3) := by decide +kernel
theorem d_EditMoves_edit_47 : decode b_EditMoves_edit 47 = .ok (.sipush 200, 3) := by decide +kernel
theorem d_EditMoves_edit_50 : decode b_EditMoves_edit 50 = .ok (.if_icmp .le 6, 3) := by decide +kernel
theorem d_EditMoves_edit_53 : decode b_EditMoves_edit 53 = .ok (.bipush (-2), 2) := by decide +kernel
theorem d_EditMoves_edit_55 : decode b_EditMoves_edit 55 = .ok (.ireturn, 1) := by decide +kernel
theorem d_EditMoves_edit_56 : decode b_EditMoves_edit 56 = .ok (.aload_n 0, 1) := by decide +kernel
theorem d_EditMoves_edit_57 : decode b_EditMoves_edit 57 = .ok (.getfield 22, 3) := by decide +kernel
theorem d_EditMoves_edit_60 : decode b_EditMoves_edit 60 = .ok (.getfield 67, 3) := by decide +kernel
theorem d_EditMoves_edit_63 : decode b_EditMoves_edit 63 = .ok (.iconst 2, 1) := by decide +kernel
theorem d_EditMoves_edit_64 : decode b_EditMoves_edit 64 = .ok (.if_icmp .ne 10, 3) := by decide +kernel
theorem d_EditMoves_edit_67 : decode b_EditMoves_edit 67 = .ok (.aload_n 0, 1) := by decide +kernel
theorem d_EditMoves_edit_68 : decode b_EditMoves_edit 68 = .ok (.invokevirtual 73, 3) := by decide +kernel
theorem d_EditMoves_edit_71 : decode b_EditMoves_edit 71 = .ok (.goto 7, 3) := by decide +kernel
theorem d_EditMoves_edit_74 : decode b_EditMoves_edit 74 = .ok (.aload_n 0, 1) := by decide +kernel
theorem d_EditMoves_edit_75 : decode b_EditMoves_edit 75 = .ok (.invokevirtual 77, 3) := by decide +kernel
theorem d_EditMoves_edit_78 : decode b_EditMoves_edit 78 = .ok (.ireturn, 1) := by decide +kernel
abbrev b_EditMoves_at : ByteArray := prog_1_method_6_code
abbrev y_EditMoves_at : MethodName := ⟨"EditMoves", "at", "(I)I"⟩
def ws_EditMoves_at : List Cond := .code y_EditMoves_at b_EditMoves_at 2 (some .int) :: wAll
theorem d_EditMoves_at_0 : decode b_EditMoves_at 0 = .ok (.aload_n 0, 1) := by decide +kernel
theorem d_EditMoves_at_1 : decode b_EditMoves_at 1 = .ok (.getfield 29, 3) := by decide +kernel
theorem d_EditMoves_at_4 : decode b_EditMoves_at 4 = .ok (.getfield 51, 3) := by decide +kernel
theorem d_EditMoves_at_7 : decode b_EditMoves_at 7 = .ok (.iload_n 1, 1) := by decide +kernel
theorem d_EditMoves_at_8 : decode b_EditMoves_at 8 = .ok (.invokevirtual 80, 3) := by decide +kernel
theorem d_EditMoves_at_11 : decode b_EditMoves_at 11 = .ok (.ireturn, 1) := by decide +kernel
abbrev b_EditMoves_back : ByteArray := prog_1_method_7_code
abbrev y_EditMoves_back : MethodName := ⟨"EditMoves", "back", "()I"⟩
def ws_EditMoves_back : List Cond := .code y_EditMoves_back b_EditMoves_back 1 (some .int) :: wAll
theorem d_EditMoves_back_0 : decode b_EditMoves_back 0 = .ok (.aload_n 0, 1) := by decide +kernel
theorem d_EditMoves_back_1 : decode b_EditMoves_back 1 = .ok (.getfield 29, 3) := by decide +kernel
theorem d_EditMoves_back_4 : decode b_EditMoves_back 4 = .ok (.getfield 51, 3) := by decide +kernel
theorem d_EditMoves_back_7 : decode b_EditMoves_back 7 = .ok (.getfield 84, 3) := by decide +kernel
theorem d_EditMoves_back_10 : decode b_EditMoves_back 10 = .ok (.iconst 1, 1) := by decide +kernel
theorem d_EditMoves_back_11 : decode b_EditMoves_back 11 = .ok (.if_icmp .eq 5, 3) := by decide +kernel
theorem d_EditMoves_back_14 : decode b_EditMoves_back 14 = .ok (.iconst 0, 1) := by decide +kernel
theorem d_EditMoves_back_15 : decode b_EditMoves_back 15 = .ok (.ireturn, 1) := by decide +kernel
theorem d_EditMoves_back_16 : decode b_EditMoves_back 16 = .ok (.aload_n 0, 1) := by decide +kernel
theorem d_EditMoves_back_17 : decode b_EditMoves_back 17 = .ok (.aload_n 0, 1) := by decide +kernel
theorem d_EditMoves_back_18 : decode b_EditMoves_back 18 = .ok (.getfield 29, 3) := by decide +kernel
theorem d_EditMoves_back_21 : decode b_EditMoves_back 21 = .ok (.getfield 51, 3) := by decide +kernel
theorem d_EditMoves_back_24 : decode b_EditMoves_back 24 = .ok (.invokevirtual 85, 3) := by decide +kernel
theorem d_EditMoves_back_27 : decode b_EditMoves_back 27 = .ok (.putfield 89, 3) := by decide +kernel
theorem d_EditMoves_back_30 : decode b_EditMoves_back 30 = .ok (.iconst 1, 1) := by decide +kernel
theorem d_EditMoves_back_31 : decode b_EditMoves_back 31 = .ok (.ireturn, 1) := by decide +kernel
abbrev b_EditMoves_number : ByteArray := prog_1_method_8_code
abbrev y_EditMoves_number : MethodName := ⟨"EditMoves", "number", "()J"⟩
def ws_EditMoves_number : List Cond := .code y_EditMoves_number b_EditMoves_number 1 (some .long) :: wAll
theorem d_EditMoves_number_0 : decode b_EditMoves_number 0 = .ok (.aload_n 0, 1) := by decide +kernel
theorem d_EditMoves_number_1 : decode b_EditMoves_number 1 = .ok (.getfield 89, 3) := by decide +kernel
theorem d_EditMoves_number_4 : decode b_EditMoves_number 4 = .ok (.lreturn, 1) := by decide +kernel
abbrev b_EditMoves_currency : ByteArray := prog_1_method_9_code
abbrev y_EditMoves_currency : MethodName := ⟨"EditMoves", "currency", "(IZ)I"⟩
def ws_EditMoves_currency : List Cond := .code y_EditMoves_currency b_EditMoves_currency 4 (some .int) :: wAll
theorem d_EditMoves_currency_0 : decode b_EditMoves_currency 0 = .ok (.iload_n 1, 1) := by decide +kernel
theorem d_EditMoves_currency_1 : decode b_EditMoves_currency 1 = .ok (.invokestatic 92, 3) := by decide +kernel
theorem d_EditMoves_currency_4 : decode b_EditMoves_currency 4 = .ok (.ifCond .ne 5, 3) := by decide +kernel
theorem d_EditMoves_currency_7 : decode b_EditMoves_currency 7 = .ok (.iconst (-1), 1) := by decide +kernel
theorem d_EditMoves_currency_8 : decode b_EditMoves_currency 8 = .ok (.ireturn, 1) := by decide +kernel
theorem d_EditMoves_currency_9 : decode b_EditMoves_currency 9 = .ok (.aload_n 0, 1) := by decide +kernel
theorem d_EditMoves_currency_10 : decode b_EditMoves_currency 10 = .ok (.getfield 33, 3) := by decide +kernel
theorem d_EditMoves_currency_13 : decode b_EditMoves_currency 13 = .ok (.istore_n 3, 1) := by decide +kernel
theorem d_EditMoves_currency_14 : decode b_EditMoves_currency 14 = .ok (.aload_n 0, 1) := by decide +kernel
theorem d_EditMoves_currency_15 : decode b_EditMoves_currency 15 = .ok (.iload_n 1, 1) := by decide +kernel
theorem d_EditMoves_currency_16 : decode b_EditMoves_currency 16 = .ok (.putfield 33, 3) := by decide +kernel
theorem d_EditMoves_currency_19 : decode b_EditMoves_currency 19 = .ok (.iload_n 3, 1) := by decide +kernel
theorem d_EditMoves_currency_20 : decode b_EditMoves_currency 20 = .ok (.ireturn, 1) := by decide +kernel
abbrev b_EditMoves_zero : ByteArray := prog_1_method_10_code
abbrev y_EditMoves_zero : MethodName := ⟨"EditMoves", "zero", "(Z)Z"⟩
def ws_EditMoves_zero : List Cond := .code y_EditMoves_zero b_EditMoves_zero 3 (some .boolean) :: wAll
theorem d_EditMoves_zero_0 : decode b_EditMoves_zero 0 = .ok (.aload_n 0, 1) := by decide +kernel
theorem d_EditMoves_zero_1 : decode b_EditMoves_zero 1 = .ok (.getfield 96, 3) := by decide +kernel
theorem d_EditMoves_zero_4 : decode b_EditMoves_zero 4 = .ok (.istore_n 2, 1) := by decide +kernel
theorem d_EditMoves_zero_5 : decode b_EditMoves_zero 5 = .ok (.aload_n 0, 1) := by decide +kernel
theorem d_EditMoves_zero_6 : decode b_EditMoves_zero 6 = .ok (.iload_n 1, 1) := by decide +kernel
theorem d_EditMoves_zero_7 : decode b_EditMoves_zero 7 = .ok (.putfield 96, 3) := by decide +kernel
theorem d_EditMoves_zero_10 : decode b_EditMoves_zero 10 = .ok (.iload_n 2, 1) := by decide +kernel
theorem d_EditMoves_zero_11 : decode b_EditMoves_zero 11 = .ok (.ireturn, 1) := by decide +kernel
abbrev b_EditMoves_size : ByteArray := prog_1_method_11_code
abbrev y_EditMoves_size : MethodName := ⟨"EditMoves", "size", "(Z)Z"⟩
def ws_EditMoves_size : List Cond := .code y_EditMoves_size b_EditMoves_size 3 (some .boolean) :: wAll
theorem d_EditMoves_size_0 : decode b_EditMoves_size 0 = .ok (.aload_n 0, 1) := by decide +kernel
theorem d_EditMoves_size_1 : decode b_EditMoves_size 1 = .ok (.getfield 100, 3) := by decide +kernel
theorem d_EditMoves_size_4 : decode b_EditMoves_size 4 = .ok (.istore_n 2, 1) := by decide +kernel
theorem d_EditMoves_size_5 : decode b_EditMoves_size 5 = .ok (.aload_n 0, 1) := by decide +kernel
theorem d_EditMoves_size_6 : decode b_EditMoves_size 6 = .ok (.iload_n 1, 1) := by decide +kernel
theorem d_EditMoves_size_7 : decode b_EditMoves_size 7 = .ok (.putfield 100, 3) := by decide +kernel
theorem d_EditMoves_size_10 : decode b_EditMoves_size 10 = .ok (.iload_n 2, 1) := by decide +kernel
theorem d_EditMoves_size_11 : decode b_EditMoves_size 11 = .ok (.ireturn, 1) := by decide +kernel
abbrev b_EditMoves_suppressed : ByteArray := prog_1_method_12_code
abbrev y_EditMoves_suppressed : MethodName := ⟨"EditMoves", "suppressed", "()I"⟩
def ws_EditMoves_suppressed : List Cond := .code y_EditMoves_suppressed b_EditMoves_suppressed 1 (some .int) :: wAll
theorem d_EditMoves_suppressed_0 : decode b_EditMoves_suppressed 0 = .ok (.aload_n 0, 1) := by decide +kernel
theorem d_EditMoves_suppressed_1 : decode b_EditMoves_suppressed 1 = .ok (.getfield 29, 3) := by decide +kernel
theorem d_EditMoves_suppressed_4 : decode b_EditMoves_suppressed 4 = .ok (.getfield 51, 3) := by decide +kernel
theorem d_EditMoves_suppressed_7 : decode b_EditMoves_suppressed 7 = .ok (.getfield 103, 3) := by decide +kernel
theorem d_EditMoves_suppressed_10 : decode b_EditMoves_suppressed 10 = .ok (.ireturn, 1) := by decide +kernel
abbrev b_EditMoves_cut : ByteArray := prog_1_method_13_code
abbrev y_EditMoves_cut : MethodName := ⟨"EditMoves", "cut", "()I"⟩
def ws_EditMoves_cut : List Cond := .code y_EditMoves_cut b_EditMoves_cut 1 (some .int) :: wAll
theorem d_EditMoves_cut_0 : decode b_EditMoves_cut 0 = .ok (.aload_n 0, 1) := by decide +kernel
theorem d_EditMoves_cut_1 : decode b_EditMoves_cut 1 = .ok (.getfield 60, 3) := by decide +kernel
theorem d_EditMoves_cut_4 : decode b_EditMoves_cut 4 = .ok (.ireturn, 1) := by decide +kernel
abbrev b_EditMoves_told : ByteArray := prog_1_method_14_code
abbrev y_EditMoves_told : MethodName := ⟨"EditMoves", "told", "(I)I"⟩
def ws_EditMoves_told : List Cond := .code y_EditMoves_told b_EditMoves_told 2 (some .int) :: wAll
theorem d_EditMoves_told_0 : decode b_EditMoves_told 0 = .ok (.aload_n 0, 1) := by decide +kernel
theorem d_EditMoves_told_1 : decode b_EditMoves_told 1 = .ok (.getfield 22, 3) := by decide +kernel
theorem d_EditMoves_told_4 : decode b_EditMoves_told 4 = .ok (.aload_n 0, 1) := by decide +kernel
theorem d_EditMoves_told_5 : decode b_EditMoves_told 5 = .ok (.getfield 10, 3) := by decide +kernel
theorem d_EditMoves_told_8 : decode b_EditMoves_told 8 = .ok (.aload_n 0, 1) := by decide +kernel
theorem d_EditMoves_told_9 : decode b_EditMoves_told 9 = .ok (.getfield 33, 3) := by decide +kernel
theorem d_EditMoves_told_12 : decode b_EditMoves_told 12 = .ok (.invokevirtual 63, 3) := by decide +kernel
theorem d_EditMoves_told_15 : decode b_EditMoves_told 15 = .ok (.iload_n 1, 1) := by decide +kernel
theorem d_EditMoves_told_16 : decode b_EditMoves_told 16 = .ok (.tableswitch 84 0 4 #[36, 44, 52, 60, 68], 36) := by decide +kernel
theorem d_EditMoves_told_52 : decode b_EditMoves_told 52 = .ok (.aload_n 0, 1) := by decide +kernel
theorem d_EditMoves_told_53 : decode b_EditMoves_told 53 = .ok (.getfield 22, 3) := by decide +kernel
theorem d_EditMoves_told_56 : decode b_EditMoves_told 56 = .ok (.getfield 67, 3) := by decide +kernel
theorem d_EditMoves_told_59 : decode b_EditMoves_told 59 = .ok (.ireturn, 1) := by decide +kernel
theorem d_EditMoves_told_60 : decode b_EditMoves_told 60 = .ok (.aload_n 0, 1) := by decide +kernel
theorem d_EditMoves_told_61 : decode b_EditMoves_told 61 = .ok (.getfield 22, 3) := by decide +kernel
theorem d_EditMoves_told_64 : decode b_EditMoves_told 64 = .ok (.getfield 106, 3) := by decide +kernel
theorem d_EditMoves_told_67 : decode b_EditMoves_told 67 = .ok (.ireturn, 1) := by decide +kernel
theorem d_EditMoves_told_68 : decode b_EditMoves_told 68 = .ok (.aload_n 0, 1) := by decide +kernel
theorem d_EditMoves_told_69 : decode b_EditMoves_told 69 = .ok (.getfield 22, 3) := by decide +kernel
theorem d_EditMoves_told_72 : decode b_EditMoves_told 72 = .ok (.getfield 109, 3) := by decide +kernel
theorem d_EditMoves_told_75 : decode b_EditMoves_told 75 = .ok (.ireturn, 1) := by decide +kernel
theorem d_EditMoves_told_76 : decode b_EditMoves_told 76 = .ok (.aload_n 0, 1) := by decide +kernel
theorem d_EditMoves_told_77 : decode b_EditMoves_told 77 = .ok (.getfield 22, 3) := by decide +kernel
theorem d_EditMoves_told_80 : decode b_EditMoves_told 80 = .ok (.getfield 70, 3) := by decide +kernel
theorem d_EditMoves_told_83 : decode b_EditMoves_told 83 = .ok (.ireturn, 1) := by decide +kernel
theorem d_EditMoves_told_84 : decode b_EditMoves_told 84 = .ok (.aload_n 0, 1) := by decide +kernel
theorem d_EditMoves_told_85 : decode b_EditMoves_told 85 = .ok (.getfield 22, 3) := by decide +kernel
theorem d_EditMoves_told_88 : decode b_EditMoves_told 88 = .ok (.getfield 112, 3) := by decide +kernel
theorem d_EditMoves_told_91 : decode b_EditMoves_told 91 = .ok (.ifCond .eq 7, 3) := by decide +kernel
theorem d_EditMoves_told_94 : decode b_EditMoves_told 94 = .ok (.iconst 1, 1) := by decide +kernel
theorem d_EditMoves_told_95 : decode b_EditMoves_told 95 = .ok (.goto 4, 3) := by decide +kernel
theorem d_EditMoves_told_98 : decode b_EditMoves_told 98 = .ok (.iconst 0, 1) := by decide +kernel
theorem d_EditMoves_told_99 : decode b_EditMoves_told 99 = .ok (.ireturn, 1) := by decide +kernel
theorem d_EditMoves_told_100 : decode b_EditMoves_told 100 = .ok (.iconst (-1), 1) := by decide +kernel
theorem d_EditMoves_told_101 : decode b_EditMoves_told 101 = .ok (.ireturn, 1) := by decide +kernel
abbrev b_EditMovesModel_picture : ByteArray := prog_8_method_2_code
abbrev y_EditMovesModel_picture : MethodName := ⟨"EditMovesModel", "picture", "(I)V"⟩
def ws_EditMovesModel_picture : List Cond := .code y_EditMovesModel_picture b_EditMovesModel_picture 2 none :: wAll
theorem d_EditMovesModel_picture_0 : decode b_EditMovesModel_picture 0 = .ok (.iload_n 1, 1) := by decide +kernel
theorem d_EditMovesModel_picture_1 : decode b_EditMovesModel_picture 1 = .ok (.ifCond .ne 11, 3) := by decide +kernel
theorem d_EditMovesModel_picture_4 : decode b_EditMovesModel_picture 4 = .ok (.aload_n 0, 1) := by decide +kernel
theorem d_EditMovesModel_picture_5 : decode b_EditMovesModel_picture 5 = .ok (.iconst 0, 1) := by decide +kernel
theorem d_EditMovesModel_picture_6 : decode b_EditMovesModel_picture 6 = .ok (.putfield 38, 3) := by decide +kernel
theorem d_EditMovesModel_picture_9 : decode b_EditMovesModel_picture 9 = .ok (.goto 46, 3) := by decide +kernel
theorem d_EditMovesModel_picture_12 : decode b_EditMovesModel_picture 12 = .ok (.aload_n 0, 1) := by decide +kernel
theorem d_EditMovesModel_picture_13 : decode b_EditMovesModel_picture 13 = .ok (.getfield 38, 3) := by decide +kernel
theorem d_EditMovesModel_picture_16 : decode b_EditMovesModel_picture 16 = .ok (.bipush 60, 2) := by decide +kernel
theorem d_EditMovesModel_picture_18 : decode b_EditMovesModel_picture 18 = .ok (.if_icmp .ge 37, 3) := by decide +kernel
theorem d_EditMovesModel_picture_21 : decode b_EditMovesModel_picture 21 = .ok (.aload_n 0, 1) := by decide +kernel
theorem d_EditMovesModel_picture_22 : decode b_EditMovesModel_picture 22 = .ok (.getfield 7, 3) := by decide +kernel
theorem d_EditMovesModel_picture_25 : decode b_EditMovesModel_picture 25 = .ok (.aload_n 0, 1) := by decide +kernel
theorem d_EditMovesModel_picture_26 : decode b_EditMovesModel_picture 26 = .ok (.getfield 38, 3) := by decide +kernel
theorem d_EditMovesModel_picture_29 : decode b_EditMovesModel_picture 29 = .ok (.iload_n 1, 1) := by decide +kernel
theorem d_EditMovesModel_picture_30 : decode b_EditMovesModel_picture 30 = .ok (.ifCond .le 13, 3) := by decide +kernel
theorem d_EditMovesModel_picture_33 : decode b_EditMovesModel_picture 33 = .ok (.iload_n 1, 1) := by decide +kernel
theorem d_EditMovesModel_picture_34 : decode b_EditMovesModel_picture 34 = .ok (.bipush 127, 2) := by decide +kernel
theorem d_EditMovesModel_picture_36 : decode b_EditMovesModel_picture 36 = .ok (.if_icmp .ge 7, 3) := by decide +kernel
theorem d_EditMovesModel_picture_39 : decode b_EditMovesModel_picture 39 = .ok (.iload_n 1, 1) := by decide +kernel
theorem d_EditMovesModel_picture_40 : decode b_EditMovesModel_picture 40 = .ok (.goto 4, 3) := by decide +kernel
theorem d_EditMovesModel_picture_43 : decode b_EditMovesModel_picture 43 = .ok (.iconst (-1), 1) := by decide +kernel
theorem d_EditMovesModel_picture_44 : decode b_EditMovesModel_picture 44 = .ok (.iastore, 1) := by decide +kernel
theorem d_EditMovesModel_picture_45 : decode b_EditMovesModel_picture 45 = .ok (.aload_n 0, 1) := by decide +kernel
theorem d_EditMovesModel_picture_46 : decode b_EditMovesModel_picture 46 = .ok (.dup, 1) := by decide +kernel
theorem d_EditMovesModel_picture_47 : decode b_EditMovesModel_picture 47 = .ok (.getfield 38, 3) := by decide +kernel
theorem d_EditMovesModel_picture_50 : decode b_EditMovesModel_picture 50 = .ok (.iconst 1, 1) := by decide +kernel
theorem d_EditMovesModel_picture_51 : decode b_EditMovesModel_picture 51 = .ok (.iadd, 1) := by decide +kernel
theorem d_EditMovesModel_picture_52 : decode b_EditMovesModel_picture 52 = .ok (.putfield 38, 3) := by decide +kernel
theorem d_EditMovesModel_picture_55 : decode b_EditMovesModel_picture 55 = .ok (.return_, 1) := by decide +kernel
abbrev b_EditMovesModel_value : ByteArray := prog_8_method_3_code
abbrev y_EditMovesModel_value : MethodName := ⟨"EditMovesModel", "value", "(JI)I"⟩
def ws_EditMovesModel_value : List Cond := .code y_EditMovesModel_value b_EditMovesModel_value 4 (some .int) :: wAll
theorem d_EditMovesModel_value_0 : decode b_EditMovesModel_value 0 = .ok (.iload_n 3, 1) := by decide +kernel
theorem d_EditMovesModel_value_1 : decode b_EditMovesModel_value 1 = .ok (.ifCond .lt 9, 3) := by decide +kernel
theorem d_EditMovesModel_value_4 : decode b_EditMovesModel_value 4 = .ok (.iload_n 3, 1) := by decide +kernel
theorem d_EditMovesModel_value_5 : decode b_EditMovesModel_value 5 = .ok (.bipush 18, 2) := by decide +kernel
theorem d_EditMovesModel_value_7 : decode b_EditMovesModel_value 7 = .ok (.if_icmp .le 5, 3) := by decide +kernel
theorem d_EditMovesModel_value_10 : decode b_EditMovesModel_value 10 = .ok (.iconst 0, 1) := by decide +kernel
theorem d_EditMovesModel_value_11 : decode b_EditMovesModel_value 11 = .ok (.ireturn, 1) := by decide +kernel
theorem d_EditMovesModel_value_12 : decode b_EditMovesModel_value 12 = .ok (.aload_n 0, 1) := by decide +kernel
theorem d_EditMovesModel_value_13 : decode b_EditMovesModel_value 13 = .ok (.lload_n 1, 1) := by decide +kernel
theorem d_EditMovesModel_value_14 : decode b_EditMovesModel_value 14 = .ok (.putfield 41, 3) := by decide +kernel
theorem d_EditMovesModel_value_17 : decode b_EditMovesModel_value 17 = .ok (.aload_n 0, 1) := by decide +kernel
theorem d_EditMovesModel_value_18 : decode b_EditMovesModel_value 18 = .ok (.iload_n 3, 1) := by decide +kernel
theorem d_EditMovesModel_value_19 : decode b_EditMovesModel_value 19 = .ok (.putfield 45, 3) := by decide +kernel
theorem d_EditMovesModel_value_22 : decode b_EditMovesModel_value 22 = .ok (.iconst 1, 1) := by decide +kernel
theorem d_EditMovesModel_value_23 : decode b_EditMovesModel_value 23 = .ok (.ireturn, 1) := by decide +kernel
abbrev b_EditMovesModel_text : ByteArray := prog_8_method_4_code
abbrev y_EditMovesModel_text : MethodName := ⟨"EditMovesModel", "text", "(I)V"⟩
def ws_EditMovesModel_text : List Cond := .code y_EditMovesModel_text b_EditMovesModel_text 2 none :: wAll
theorem d_EditMovesModel_text_0 : decode b_EditMovesModel_text 0 = .ok (.iload_n 1, 1) := by decide +kernel
theorem d_EditMovesModel_text_1 : decode b_EditMovesModel_text 1 = .ok (.bipush 32, 2) := by decide +kernel
theorem d_EditMovesModel_text_3 : decode b_EditMovesModel_text 3 = .ok (.if_icmp .lt 9, 3) := by decide +kernel
theorem d_EditMovesModel_text_6 : decode b_EditMovesModel_text 6 = .ok (.iload_n 1, 1) := by decide +kernel
theorem d_EditMovesModel_text_7 : decode b_EditMovesModel_text 7 = .ok (.bipush 126, 2) := by decide +kernel
theorem d_EditMovesModel_text_9 : decode b_EditMovesModel_text 9 = .ok (.if_icmp .le 11, 3) := by decide +kernel
theorem d_EditMovesModel_text_12 : decode b_EditMovesModel_text 12 = .ok (.aload_n 0, 1) := by decide +kernel
theorem d_EditMovesModel_text_13 : decode b_EditMovesModel_text 13 = .ok (.iconst 0, 1) := by decide +kernel
theorem d_EditMovesModel_text_14 : decode b_EditMovesModel_text 14 = .ok (.putfield 48, 3) := by decide +kernel
theorem d_EditMovesModel_text_17 : decode b_EditMovesModel_text 17 = .ok (.goto 32, 3) := by decide +kernel
theorem d_EditMovesModel_text_20 : decode b_EditMovesModel_text 20 = .ok (.aload_n 0, 1) := by decide +kernel
theorem d_EditMovesModel_text_21 : decode b_EditMovesModel_text 21 = .ok (.getfield 48, 3) := by decide +kernel
theorem d_EditMovesModel_text_24 : decode b_EditMovesModel_text 24 = .ok (.bipush 60, 2) := by decide +kernel
theorem d_EditMovesModel_text_26 : decode b_EditMovesModel_text 26 = .ok (.if_icmp .ge 23, 3) := by decide +kernel
theorem d_EditMovesModel_text_29 : decode b_EditMovesModel_text 29 = .ok (.aload_n 0, 1) := by decide +kernel
theorem d_EditMovesModel_text_30 : decode b_EditMovesModel_text 30 = .ok (.getfield 13, 3) := by decide +kernel
theorem d_EditMovesModel_text_33 : decode b_EditMovesModel_text 33 = .ok (.aload_n 0, 1) := by decide +kernel
theorem d_EditMovesModel_text_34 : decode b_EditMovesModel_text 34 = .ok (.getfield 48, 3) := by decide +kernel
theorem d_EditMovesModel_text_37 : decode b_EditMovesModel_text 37 = .ok (.iload_n 1, 1) := by decide +kernel
theorem d_EditMovesModel_text_38 : decode b_EditMovesModel_text 38 = .ok (.iastore, 1) := by decide +kernel
theorem d_EditMovesModel_text_39 : decode b_EditMovesModel_text 39 = .ok (.aload_n 0, 1) := by decide +kernel
theorem d_EditMovesModel_text_40 : decode b_EditMovesModel_text 40 = .ok (.dup, 1) := by decide +kernel
theorem d_EditMovesModel_text_41 : decode b_EditMovesModel_text 41 = .ok (.getfield 48, 3) := by decide +kernel
theorem d_EditMovesModel_text_44 : decode b_EditMovesModel_text 44 = .ok (.iconst 1, 1) := by decide +kernel
theorem d_EditMovesModel_text_45 : decode b_EditMovesModel_text 45 = .ok (.iadd, 1) := by decide +kernel
theorem d_EditMovesModel_text_46 : decode b_EditMovesModel_text 46 = .ok (.putfield 48, 3) := by decide +kernel
theorem d_EditMovesModel_text_49 : decode b_EditMovesModel_text 49 = .ok (.return_, 1) := by decide +kernel
abbrev b_EditMovesModel_currency : ByteArray := prog_8_method_5_code
abbrev y_EditMovesModel_currency : MethodName := ⟨"EditMovesModel", "currency", "(IZ)I"⟩
def ws_EditMovesModel_currency : List Cond := .code y_EditMovesModel_currency b_EditMovesModel_currency 6 (some .int) :: wAll
theorem d_EditMovesModel_currency_0 : decode b_EditMovesModel_currency 0 = .ok (.iload_n 1, 1) := by decide +kernel
theorem d_EditMovesModel_currency_1 : decode b_EditMovesModel_currency 1 = .ok (.bipush 97, 2) := by decide +kernel
theorem d_EditMovesModel_currency_3 : decode b_EditMovesModel_currency 3 = .ok (.if_icmp .lt 9, 3) := by decide +kernel
theorem d_EditMovesModel_currency_6 : decode b_EditMovesModel_currency 6 = .ok (.iload_n 1, 1) := by decide +kernel
theorem d_EditMovesModel_currency_7 : decode b_EditMovesModel_currency 7 = .ok (.bipush 122, 2) := by decide +kernel
theorem d_EditMovesModel_currency_9 : decode b_EditMovesModel_currency 9 = .ok (.if_icmp .le 27, 3) := by decide +kernel
theorem d_EditMovesModel_currency_12 : decode b_EditMovesModel_currency 12 = .ok (.iload_n 1, 1) := by decide +kernel
theorem d_EditMovesModel_currency_13 : decode b_EditMovesModel_currency 13 = .ok (.bipush 65, 2) := by decide +kernel
theorem d_EditMovesModel_currency_15 : decode b_EditMovesModel_currency 15 = .ok (.if_icmp .lt 9, 3) := by decide +kernel
theorem d_EditMovesModel_currency_18 : decode b_EditMovesModel_currency 18 = .ok (.iload_n 1, 1) := by decide +kernel
theorem d_EditMovesModel_currency_19 : decode b_EditMovesModel_currency 19 = .ok (.bipush 90, 2) := by decide +kernel
theorem d_EditMovesModel_currency_21 : decode b_EditMovesModel_currency 21 = .ok (.if_icmp .le 15, 3) := by decide +kernel
theorem d_EditMovesModel_currency_24 : decode b_EditMovesModel_currency 24 = .ok (.iload_n 1, 1) := by decide +kernel
theorem d_EditMovesModel_currency_25 : decode b_EditMovesModel_currency 25 = .ok (.bipush 48, 2) := by decide +kernel
theorem d_EditMovesModel_currency_27 : decode b_EditMovesModel_currency 27 = .ok (.if_icmp .lt 13, 3) := by decide +kernel
theorem d_EditMovesModel_currency_30 : decode b_EditMovesModel_currency 30 = .ok (.iload_n 1, 1) := by decide +kernel
theorem d_EditMovesModel_currency_31 : decode b_EditMovesModel_currency 31 = .ok (.bipush 57, 2) := by decide +kernel
theorem d_EditMovesModel_currency_33 : decode b_EditMovesModel_currency 33 = .ok (.if_icmp .gt 7, 3) := by decide +kernel
theorem d_EditMovesModel_currency_36 : decode b_EditMovesModel_currency 36 = .ok (.iconst 1, 1) := by decide +kernel
theorem d_EditMovesModel_currency_37 : decode b_EditMovesModel_currency 37 = .ok (.goto 4, 3) := by decide +kernel
theorem d_EditMovesModel_currency_40 : decode b_EditMovesModel_currency 40 = .ok (.iconst 0, 1) := by decide +kernel
theorem d_EditMovesModel_currency_41 : decode b_EditMovesModel_currency 41 = .ok (.istore_n 3, 1) := by decide +kernel
theorem d_EditMovesModel_currency_42 : decode b_EditMovesModel_currency 42 = .ok (.iload_n 1, 1) := by decide +kernel
theorem d_EditMovesModel_currency_43 : decode b_EditMovesModel_currency 43 = .ok (.bipush 42, 2) := by decide +kernel
theorem d_EditMovesModel_currency_45 : decode b_EditMovesModel_currency 45 = .ok (.if_icmp .eq 45, 3) := by decide +kernel
theorem d_EditMovesModel_currency_48 : decode b_EditMovesModel_currency 48 = .ok (.iload_n 1, 1) := by decide +kernel
theorem d_EditMovesModel_currency_49 : decode b_EditMovesModel_currency 49 = .ok (.bipush 43, 2) := by decide +kernel
theorem d_EditMovesModel_currency_51 : decode b_EditMovesModel_currency 51 = .ok (.if_icmp .eq 39, 3) := by decide +kernel
theorem d_EditMovesModel_currency_54 : decode b_EditMovesModel_currency 54 = .ok (.iload_n 1, 1) := by decide +kernel
theorem d_EditMovesModel_currency_55 : decode b_EditMovesModel_currency 55 = .ok (.bipush 45, 2) := by decide +kernel
theorem d_EditMovesModel_currency_57 : decode b_EditMovesModel_currency 57 = .ok (.if_icmp .eq 33, 3) := by decide +kernel
theorem d_EditMovesModel_currency_60 : decode b_EditMovesModel_currency 60 = .ok (.iload_n 1, 1) := by decide +kernel
theorem d_EditMovesModel_currency_61 : decode b_EditMovesModel_currency 61 = .ok (.bipush 44, 2) := by decide +kernel
theorem d_EditMovesModel_currency_63 : decode b_EditMovesModel_currency 63 = .ok (.if_icmp .eq 27, 3) := by decide +kernel
theorem d_EditMovesModel_currency_66 : decode b_EditMovesModel_currency 66 = .ok (.iload_n 1, 1) := by decide +kernel
theorem d_EditMovesModel_currency_67 : decode b_EditMovesModel_currency 67 = .ok (.bipush 46, 2) := by decide +kernel
theorem d_EditMovesModel_currency_69 : decode b_EditMovesModel_currency 69 = .ok (.if_icmp .eq 21, 3) := by decide +kernel
theorem d_EditMovesModel_currency_72 : decode b_EditMovesModel_currency 72 = .ok (.iload_n 1, 1) := by decide +kernel
theorem d_EditMovesModel_currency_73 : decode b_EditMovesModel_currency 73 = .ok (.bipush 47, 2) := by decide +kernel
theorem d_EditMovesModel_currency_75 : decode b_EditMovesModel_currency 75 = .ok (.if_icmp .eq 15, 3) := by decide +kernel
theorem d_EditMovesModel_currency_78 : decode b_EditMovesModel_currency 78 = .ok (.iload_n 1, 1) := by decide +kernel
theorem d_EditMovesModel_currency_79 : decode b_EditMovesModel_currency 79 = .ok (.bipush 40, 2) := by decide +kernel
theorem d_EditMovesModel_currency_81 : decode b_EditMovesModel_currency 81 = .ok (.if_icmp .eq 9, 3) := by decide +kernel
theorem d_EditMovesModel_currency_84 : decode b_EditMovesModel_currency 84 = .ok (.iload_n 1, 1) := by decide +kernel
theorem d_EditMovesModel_currency_85 : decode b_EditMovesModel_currency 85 = .ok (.bipush 41, 2) := by decide +kernel
theorem d_EditMovesModel_currency_87 : decode b_EditMovesModel_currency 87 = .ok (.if_icmp .ne 7, 3) := by decide +kernel
theorem d_EditMovesModel_currency_90 : decode b_EditMovesModel_currency 90 = .ok (.iconst 1, 1) := by decide +kernel
theorem d_EditMovesModel_currency_91 : decode b_EditMovesModel_currency 91 = .ok (.goto 4, 3) := by decide +kernel
theorem d_EditMovesModel_currency_94 : decode b_EditMovesModel_currency 94 = .ok (.iconst 0, 1) := by decide +kernel
theorem d_EditMovesModel_currency_95 : decode b_EditMovesModel_currency 95 = .ok (.istore 4, 2) := by decide +kernel
theorem d_EditMovesModel_currency_97 : decode b_EditMovesModel_currency 97 = .ok (.iload_n 1, 1) := by decide +kernel
theorem d_EditMovesModel_currency_98 : decode b_EditMovesModel_currency 98 = .ok (.bipush 33, 2) := by decide +kernel
theorem d_EditMovesModel_currency_100 : decode b_EditMovesModel_currency 100 = .ok (.if_icmp .lt 18, 3) := by decide +kernel
theorem d_EditMovesModel_currency_103 : decode b_EditMovesModel_currency 103 = .ok (.iload_n 1, 1) := by decide +kernel
theorem d_EditMovesModel_currency_104 : decode b_EditMovesModel_currency 104 = .ok (.bipush 126, 2) := by decide +kernel
theorem d_EditMovesModel_currency_106 : decode b_EditMovesModel_currency 106 = .ok (.if_icmp .gt 12, 3) := by decide +kernel
theorem d_EditMovesModel_currency_109 : decode b_EditMovesModel_currency 109 = .ok (.iload_n 3, 1) := by decide +kernel
theorem d_EditMovesModel_currency_110 : decode b_EditMovesModel_currency 110 = .ok (.ifCond .ne 8, 3) := by decide +kernel
theorem d_EditMovesModel_currency_113 : decode b_EditMovesModel_currency 113 = .ok (.iload 4, 2) := by decide +kernel
theorem d_EditMovesModel_currency_115 : decode b_EditMovesModel_currency 115 = .ok (.ifCond .eq 5, 3) := by decide +kernel
theorem d_EditMovesModel_currency_118 : decode b_EditMovesModel_currency 118 = .ok (.iconst (-1), 1) := by decide +kernel
theorem d_EditMovesModel_currency_119 : decode b_EditMovesModel_currency 119 = .ok (.ireturn, 1) := by decide +kernel
theorem d_EditMovesModel_currency_120 : decode b_EditMovesModel_currency 120 = .ok (.aload_n 0, 1) := by decide +kernel
theorem d_EditMovesModel_currency_121 : decode b_EditMovesModel_currency 121 = .ok (.getfield 16, 3) := by decide +kernel
theorem d_EditMovesModel_currency_124 : decode b_EditMovesModel_currency 124 = .ok (.istore 5, 2) := by decide +kernel
theorem d_EditMovesModel_currency_126 : decode b_EditMovesModel_currency 126 = .ok (.aload_n 0, 1) := by decide +kernel
theorem d_EditMovesModel_currency_127 : decode b_EditMovesModel_currency 127 = .ok (.iload_n 1, 1) := by decide +kernel
theorem d_EditMovesModel_currency_128 : decode b_EditMovesModel_currency 128 = .ok (.putfield 16, 3) := by decide +kernel
theorem d_EditMovesModel_currency_131 : decode b_EditMovesModel_currency 131 = .ok (.iload 5, 2) := by decide +kernel
theorem d_EditMovesModel_currency_133 : decode b_EditMovesModel_currency 133 = .ok (.ireturn, 1) := by decide +kernel
abbrev b_EditMovesModel_zero : ByteArray := prog_8_method_6_code
abbrev y_EditMovesModel_zero : MethodName := ⟨"EditMovesModel", "zero", "(Z)Z"⟩
def ws_EditMovesModel_zero : List Cond := .code y_EditMovesModel_zero b_EditMovesModel_zero 3 (some .boolean) :: wAll
theorem d_EditMovesModel_zero_0 : decode b_EditMovesModel_zero 0 = .ok (.aload_n 0, 1) := by decide +kernel
theorem d_EditMovesModel_zero_1 : decode b_EditMovesModel_zero 1 = .ok (.getfield 51, 3) := by decide +kernel
theorem d_EditMovesModel_zero_4 : decode b_EditMovesModel_zero 4 = .ok (.istore_n 2, 1) := by decide +kernel
theorem d_EditMovesModel_zero_5 : decode b_EditMovesModel_zero 5 = .ok (.aload_n 0, 1) := by decide +kernel
theorem d_EditMovesModel_zero_6 : decode b_EditMovesModel_zero 6 = .ok (.iload_n 1, 1) := by decide +kernel
theorem d_EditMovesModel_zero_7 : decode b_EditMovesModel_zero 7 = .ok (.putfield 51, 3) := by decide +kernel
theorem d_EditMovesModel_zero_10 : decode b_EditMovesModel_zero 10 = .ok (.iload_n 2, 1) := by decide +kernel
theorem d_EditMovesModel_zero_11 : decode b_EditMovesModel_zero 11 = .ok (.ireturn, 1) := by decide +kernel
abbrev b_EditMovesModel_size : ByteArray := prog_8_method_7_code
abbrev y_EditMovesModel_size : MethodName := ⟨"EditMovesModel", "size", "(Z)Z"⟩
def ws_EditMovesModel_size : List Cond := .code y_EditMovesModel_size b_EditMovesModel_size 3 (some .boolean) :: wAll
theorem d_EditMovesModel_size_0 : decode b_EditMovesModel_size 0 = .ok (.aload_n 0, 1) := by decide +kernel
theorem d_EditMovesModel_size_1 : decode b_EditMovesModel_size 1 = .ok (.getfield 55, 3) := by decide +kernel
theorem d_EditMovesModel_size_4 : decode b_EditMovesModel_size 4 = .ok (.istore_n 2, 1) := by decide +kernel
theorem d_EditMovesModel_size_5 : decode b_EditMovesModel_size 5 = .ok (.aload_n 0, 1) := by decide +kernel
theorem d_EditMovesModel_size_6 : decode b_EditMovesModel_size 6 = .ok (.iload_n 1, 1) := by decide +kernel
theorem d_EditMovesModel_size_7 : decode b_EditMovesModel_size 7 = .ok (.putfield 55, 3) := by decide +kernel
theorem d_EditMovesModel_size_10 : decode b_EditMovesModel_size 10 = .ok (.iload_n 2, 1) := by decide +kernel
theorem d_EditMovesModel_size_11 : decode b_EditMovesModel_size 11 = .ok (.ireturn, 1) := by decide +kernel
abbrev b_EditMovesModel_at0 : ByteArray := prog_8_method_8_code
abbrev y_EditMovesModel_at0 : MethodName := ⟨"EditMovesModel", "at0", "(I)I"⟩
def ws_EditMovesModel_at0 : List Cond := .code y_EditMovesModel_at0 b_EditMovesModel_at0 2 (some .int) :: wAll
theorem d_EditMovesModel_at0_0 : decode b_EditMovesModel_at0 0 = .ok (.iload_n 1, 1) := by decide +kernel
theorem d_EditMovesModel_at0_1 : decode b_EditMovesModel_at0 1 = .ok (.aload_n 0, 1) := by decide +kernel
theorem d_EditMovesModel_at0_2 : decode b_EditMovesModel_at0 2 = .ok (.getfield 38, 3) := by decide +kernel
theorem d_EditMovesModel_at0_5 : decode b_EditMovesModel_at0 5 = .ok (.if_icmp .ge 12, 3) := by decide +kernel
theorem d_EditMovesModel_at0_8 : decode b_EditMovesModel_at0 8 = .ok (.aload_n 0, 1) := by decide +kernel
theorem d_EditMovesModel_at0_9 : decode b_EditMovesModel_at0 9 = .ok (.getfield 7, 3) := by decide +kernel
theorem d_EditMovesModel_at0_12 : decode b_EditMovesModel_at0 12 = .ok (.iload_n 1, 1) := by decide +kernel
theorem d_EditMovesModel_at0_13 : decode b_EditMovesModel_at0 13 = .ok (.iaload, 1) := by decide +kernel
theorem d_EditMovesModel_at0_14 : decode b_EditMovesModel_at0 14 = .ok (.goto 4, 3) := by decide +kernel
theorem d_EditMovesModel_at0_17 : decode b_EditMovesModel_at0 17 = .ok (.iconst (-1), 1) := by decide +kernel
theorem d_EditMovesModel_at0_18 : decode b_EditMovesModel_at0 18 = .ok (.ireturn, 1) := by decide +kernel
abbrev b_EditMovesModel_great : ByteArray := prog_8_method_9_code
abbrev y_EditMovesModel_great : MethodName := ⟨"EditMovesModel", "great", "(I)I"⟩
def ws_EditMovesModel_great : List Cond := .code y_EditMovesModel_great b_EditMovesModel_great 1 (some .int) :: wAll
theorem d_EditMovesModel_great_0 : decode b_EditMovesModel_great 0 = .ok (.iload_n 0, 1) := by decide +kernel
theorem d_EditMovesModel_great_1 : decode b_EditMovesModel_great 1 = .ok (.bipush 97, 2) := by decide +kernel
theorem d_EditMovesModel_great_3 : decode b_EditMovesModel_great 3 = .ok (.if_icmp .lt 16, 3) := by decide +kernel
theorem d_EditMovesModel_great_6 : decode b_EditMovesModel_great 6 = .ok (.iload_n 0, 1) := by decide +kernel
theorem d_EditMovesModel_great_7 : decode b_EditMovesModel_great 7 = .ok (.bipush 122, 2) := by decide +kernel
theorem d_EditMovesModel_great_9 : decode b_EditMovesModel_great 9 = .ok (.if_icmp .gt 10, 3) := by decide +kernel
theorem d_EditMovesModel_great_12 : decode b_EditMovesModel_great 12 = .ok (.iload_n 0, 1) := by decide +kernel
theorem d_EditMovesModel_great_13 : decode b_EditMovesModel_great 13 = .ok (.bipush 32, 2) := by decide +kernel
theorem d_EditMovesModel_great_15 : decode b_EditMovesModel_great 15 = .ok (.isub, 1) := by decide +kernel
theorem d_EditMovesModel_great_16 : decode b_EditMovesModel_great 16 = .ok (.goto 4, 3) := by decide +kernel
theorem d_EditMovesModel_great_19 : decode b_EditMovesModel_great 19 = .ok (.iload_n 0, 1) := by decide +kernel
theorem d_EditMovesModel_great_20 : decode b_EditMovesModel_great 20 = .ok (.ireturn, 1) := by decide +kernel
abbrev b_EditMovesModel_signAt : ByteArray := prog_8_method_10_code
abbrev y_EditMovesModel_signAt : MethodName := ⟨"EditMovesModel", "signAt", "(I)I"⟩
def ws_EditMovesModel_signAt : List Cond := .code y_EditMovesModel_signAt b_EditMovesModel_signAt 5 (some .int) :: wAll
theorem d_EditMovesModel_signAt_0 : decode b_EditMovesModel_signAt 0 = .ok (.aload_n 0, 1) := by decide +kernel
theorem d_EditMovesModel_signAt_1 : decode b_EditMovesModel_signAt 1 = .ok (.iload_n 1, 1) := by decide +kernel
theorem d_EditMovesModel_signAt_2 : decode b_EditMovesModel_signAt 2 = .ok (.invokevirtual 58, 3) := by decide +kernel
theorem d_EditMovesModel_signAt_5 : decode b_EditMovesModel_signAt 5 = .ok (.istore_n 2, 1) := by decide +kernel
theorem d_EditMovesModel_signAt_6 : decode b_EditMovesModel_signAt 6 = .ok (.iload_n 2, 1) := by decide +kernel
theorem d_EditMovesModel_signAt_7 : decode b_EditMovesModel_signAt 7 = .ok (.aload_n 0, 1) := by decide +kernel
theorem d_EditMovesModel_signAt_8 : decode b_EditMovesModel_signAt 8 = .ok (.getfield 16, 3) := by decide +kernel
theorem d_EditMovesModel_signAt_11 : decode b_EditMovesModel_signAt 11 = .ok (.if_icmp .ne 7, 3) := by decide +kernel
theorem d_EditMovesModel_signAt_14 : decode b_EditMovesModel_signAt 14 = .ok (.sipush 202, 3) := by decide +kernel
theorem d_EditMovesModel_signAt_17 : decode b_EditMovesModel_signAt 17 = .ok (.ireturn, 1) := by decide +kernel
theorem d_EditMovesModel_signAt_18 : decode b_EditMovesModel_signAt 18 = .ok (.iload_n 2, 1) := by decide +kernel
theorem d_EditMovesModel_signAt_19 : decode b_EditMovesModel_signAt 19 = .ok (.invokestatic 62, 3) := by decide +kernel
theorem d_EditMovesModel_signAt_22 : decode b_EditMovesModel_signAt 22 = .ok (.istore_n 3, 1) := by decide +kernel
theorem d_EditMovesModel_signAt_23 : decode b_EditMovesModel_signAt 23 = .ok (.iload_n 3, 1) := by decide +kernel
theorem d_EditMovesModel_signAt_24 : decode b_EditMovesModel_signAt 24 = .ok (.bipush 67, 2) := by decide +kernel
theorem d_EditMovesModel_signAt_26 : decode b_EditMovesModel_signAt 26 = .ok (.if_icmp .ne 26, 3) := by decide +kernel
theorem d_EditMovesModel_signAt_29 : decode b_EditMovesModel_signAt 29 = .ok (.aload_n 0, 1) := by decide +kernel
theorem d_EditMovesModel_signAt_30 : decode b_EditMovesModel_signAt 30 = .ok (.iload_n 1, 1) := by decide +kernel
theorem d_EditMovesModel_signAt_31 : decode b_EditMovesModel_signAt 31 = .ok (.iconst 1, 1) := by decide +kernel
theorem d_EditMovesModel_signAt_32 : decode b_EditMovesModel_signAt 32 = .ok (.iadd, 1) := by decide +kernel
theorem d_EditMovesModel_signAt_33 : decode b_EditMovesModel_signAt 33 = .ok (.invokevirtual 58, 3) := by decide +kernel
theorem d_EditMovesModel_signAt_36 : decode b_EditMovesModel_signAt 36 = .ok (.invokestatic 62, 3) := by decide +kernel
theorem d_EditMovesModel_signAt_39 : decode b_EditMovesModel_signAt 39 = .ok (.bipush 82, 2) := by decide +kernel
theorem d_EditMovesModel_signAt_41 : decode b_EditMovesModel_signAt 41 = .ok (.if_icmp .ne 9, 3) := by decide +kernel
theorem d_EditMovesModel_signAt_44 : decode b_EditMovesModel_signAt 44 = .ok (.sipush 200, 3) := by decide +kernel
theorem d_EditMovesModel_signAt_47 : decode b_EditMovesModel_signAt 47 = .ok (.goto 4, 3) := by decide +kernel
theorem d_EditMovesModel_signAt_50 : decode b_EditMovesModel_signAt 50 = .ok (.iconst (-1), 1) := by decide +kernel
theorem d_EditMovesModel_signAt_51 : decode b_EditMovesModel_signAt 51 = .ok (.ireturn, 1) := by decide +kernel
theorem d_EditMovesModel_signAt_52 : decode b_EditMovesModel_signAt 52 = .ok (.iload_n 3, 1) := by decide +kernel
theorem d_EditMovesModel_signAt_53 : decode b_EditMovesModel_signAt 53 = .ok (.bipush 68, 2) := by decide +kernel
theorem d_EditMovesModel_signAt_55 : decode b_EditMovesModel_signAt 55 = .ok (.if_icmp .ne 26, 3) := by decide +kernel
theorem d_EditMovesModel_signAt_58 : decode b_EditMovesModel_signAt 58 = .ok (.aload_n 0, 1) := by decide +kernel
theorem d_EditMovesModel_signAt_59 : decode b_EditMovesModel_signAt 59 = .ok (.iload_n 1, 1) := by decide +kernel
theorem d_EditMovesModel_signAt_60 : decode b_EditMovesModel_signAt 60 = .ok (.iconst 1, 1) := by decide +kernel
theorem d_EditMovesModel_signAt_61 : decode b_EditMovesModel_signAt 61 = .ok (.iadd, 1) := by decide +kernel
theorem d_EditMovesModel_signAt_62 : decode b_EditMovesModel_signAt 62 = .ok (.invokevirtual 58, 3) := by decide +kernel
theorem d_EditMovesModel_signAt_65 : decode b_EditMovesModel_signAt 65 = .ok (.invokestatic 62, 3) := by decide +kernel
theorem d_EditMovesModel_signAt_68 : decode b_EditMovesModel_signAt 68 = .ok (.bipush 66, 2) := by decide +kernel
theorem d_EditMovesModel_signAt_70 : decode b_EditMovesModel_signAt 70 = .ok (.if_icmp .ne 9, 3) := by decide +kernel
theorem d_EditMovesModel_signAt_73 : decode b_EditMovesModel_signAt 73 = .ok (.sipush 201, 3) := by decide +kernel
theorem d_EditMovesModel_signAt_76 : decode b_EditMovesModel_signAt 76 = .ok (.goto 4, 3) := by decide +kernel
theorem d_EditMovesModel_signAt_79 : decode b_EditMovesModel_signAt 79 = .ok (.iconst (-1), 1) := by decide +kernel
theorem d_EditMovesModel_signAt_80 : decode b_EditMovesModel_signAt 80 = .ok (.ireturn, 1) := by decide +kernel
theorem d_EditMovesModel_signAt_81 : decode b_EditMovesModel_signAt 81 = .ok (.iload_n 3, 1) := by decide +kernel
theorem d_EditMovesModel_signAt_82 : decode b_EditMovesModel_signAt 82 = .ok (.bipush 57, 2) := by decide +kernel
theorem d_EditMovesModel_signAt_84 : decode b_EditMovesModel_signAt 84 = .ok (.if_icmp .eq 69, 3) := by decide +kernel
theorem d_EditMovesModel_signAt_87 : decode b_EditMovesModel_signAt 87 = .ok (.iload_n 3, 1) := by decide +kernel
theorem d_EditMovesModel_signAt_88 : decode b_EditMovesModel_signAt 88 = .ok (.bipush 90, 2) := by decide +kernel
theorem d_EditMovesModel_signAt_90 : decode b_EditMovesModel_signAt 90 = .ok (.if_icmp .eq 63, 3) := by decide +kernel
theorem d_EditMovesModel_signAt_93 : decode b_EditMovesModel_signAt 93 = .ok (.iload_n 3, 1) := by decide +kernel
theorem d_EditMovesModel_signAt_94 : decode b_EditMovesModel_signAt 94 = .ok (.bipush 42, 2) := by decide +kernel
theorem d_EditMovesModel_signAt_96 : decode b_EditMovesModel_signAt 96 = .ok (.if_icmp .eq 57, 3) := by decide +kernel
theorem d_EditMovesModel_signAt_99 : decode b_EditMovesModel_signAt 99 = .ok (.iload_n 3, 1) := by decide +kernel
theorem d_EditMovesModel_signAt_100 : decode b_EditMovesModel_signAt 100 = .ok (.bipush 43, 2) := by decide +kernel
theorem d_EditMovesModel_signAt_102 : decode b_EditMovesModel_signAt 102 = .ok (.if_icmp .eq 51, 3) := by decide +kernel
theorem d_EditMovesModel_signAt_105 : decode b_EditMovesModel_signAt 105 = .ok (.iload_n 3, 1) := by decide +kernel
theorem d_EditMovesModel_signAt_106 : decode b_EditMovesModel_signAt 106 = .ok (.bipush 45, 2) := by decide +kernel
theorem d_EditMovesModel_signAt_108 : decode b_EditMovesModel_signAt 108 = .ok (.if_icmp .eq 45, 3) := by decide +kernel
theorem d_EditMovesModel_signAt_111 : decode b_EditMovesModel_signAt 111 = .ok (.iload_n 3, 1) := by decide +kernel
theorem d_EditMovesModel_signAt_112 : decode b_EditMovesModel_signAt 112 = .ok (.bipush 66, 2) := by decide +kernel
theorem d_EditMovesModel_signAt_114 : decode b_EditMovesModel_signAt 114 = .ok (.if_icmp .eq 39, 3) := by decide +kernel
theorem d_EditMovesModel_signAt_117 : decode b_EditMovesModel_signAt 117 = .ok (.iload_n 3, 1) := by decide +kernel
theorem d_EditMovesModel_signAt_118 : decode b_EditMovesModel_signAt 118 = .ok (.bipush 48, 2) := by decide +kernel
theorem d_EditMovesModel_signAt_120 : decode b_EditMovesModel_signAt 120 = .ok (.if_icmp .eq 33, 3) := by decide +kernel
theorem d_EditMovesModel_signAt_123 : decode b_EditMovesModel_signAt 123 = .ok (.iload_n 3, 1) := by decide +kernel
theorem d_EditMovesModel_signAt_124 : decode b_EditMovesModel_signAt 124 = .ok (.bipush 47, 2) := by decide +kernel
theorem d_EditMovesModel_signAt_126 : decode b_EditMovesModel_signAt 126 = .ok (.if_icmp .eq 27, 3) := by decide +kernel
theorem d_EditMovesModel_signAt_129 : decode b_EditMovesModel_signAt 129 = .ok (.iload_n 3, 1) := by decide +kernel
theorem d_EditMovesModel_signAt_130 : decode b_EditMovesModel_signAt 130 = .ok (.bipush 44, 2) := by decide +kernel
theorem d_EditMovesModel_signAt_132 : decode b_EditMovesModel_signAt 132 = .ok (.if_icmp .eq 21, 3) := by decide +kernel
theorem d_EditMovesModel_signAt_135 : decode b_EditMovesModel_signAt 135 = .ok (.iload_n 3, 1) := by decide +kernel
theorem d_EditMovesModel_signAt_136 : decode b_EditMovesModel_signAt 136 = .ok (.bipush 46, 2) := by decide +kernel
theorem d_EditMovesModel_signAt_138 : decode b_EditMovesModel_signAt 138 = .ok (.if_icmp .eq 15, 3) := by decide +kernel
theorem d_EditMovesModel_signAt_141 : decode b_EditMovesModel_signAt 141 = .ok (.iload_n 3, 1) := by decide +kernel
theorem d_EditMovesModel_signAt_142 : decode b_EditMovesModel_signAt 142 = .ok (.bipush 86, 2) := by decide +kernel
theorem d_EditMovesModel_signAt_144 : decode b_EditMovesModel_signAt 144 = .ok (.if_icmp .eq 9, 3) := by decide +kernel
theorem d_EditMovesModel_signAt_147 : decode b_EditMovesModel_signAt 147 = .ok (.iload_n 3, 1) := by decide +kernel
theorem d_EditMovesModel_signAt_148 : decode b_EditMovesModel_signAt 148 = .ok (.bipush 88, 2) := by decide +kernel
theorem d_EditMovesModel_signAt_150 : decode b_EditMovesModel_signAt 150 = .ok (.if_icmp .ne 7, 3) := by decide +kernel
theorem d_EditMovesModel_signAt_153 : decode b_EditMovesModel_signAt 153 = .ok (.iconst 1, 1) := by decide +kernel
theorem d_EditMovesModel_signAt_154 : decode b_EditMovesModel_signAt 154 = .ok (.goto 4, 3) := by decide +kernel
theorem d_EditMovesModel_signAt_157 : decode b_EditMovesModel_signAt 157 = .ok (.iconst 0, 1) := by decide +kernel
theorem d_EditMovesModel_signAt_158 : decode b_EditMovesModel_signAt 158 = .ok (.istore 4, 2) := by decide +kernel
theorem d_EditMovesModel_signAt_160 : decode b_EditMovesModel_signAt 160 = .ok (.iload 4, 2) := by decide +kernel
theorem d_EditMovesModel_signAt_162 : decode b_EditMovesModel_signAt 162 = .ok (.ifCond .eq 7, 3) := by decide +kernel
theorem d_EditMovesModel_signAt_165 : decode b_EditMovesModel_signAt 165 = .ok (.iload_n 3, 1) := by decide +kernel
theorem d_EditMovesModel_signAt_166 : decode b_EditMovesModel_signAt 166 = .ok (.goto 4, 3) := by decide +kernel
theorem d_EditMovesModel_signAt_169 : decode b_EditMovesModel_signAt 169 = .ok (.iconst (-1), 1) := by decide +kernel
theorem d_EditMovesModel_signAt_170 : decode b_EditMovesModel_signAt 170 = .ok (.ireturn, 1) := by decide +kernel
abbrev b_EditMovesModel_isDigit : ByteArray := prog_8_method_11_code
abbrev y_EditMovesModel_isDigit : MethodName := ⟨"EditMovesModel", "isDigit", "(I)Z"⟩
def ws_EditMovesModel_isDigit : List Cond := .code y_EditMovesModel_isDigit b_EditMovesModel_isDigit 1 (some .boolean) :: wAll
theorem d_EditMovesModel_isDigit_0 : decode b_EditMovesModel_isDigit 0 = .ok (.iload_n 0, 1) := by decide +kernel
theorem d_EditMovesModel_isDigit_1 : decode b_EditMovesModel_isDigit 1 = .ok (.bipush 48, 2) := by decide +kernel
theorem d_EditMovesModel_isDigit_3 : decode b_EditMovesModel_isDigit 3 = .ok (.if_icmp .lt 13, 3) := by decide +kernel
theorem d_EditMovesModel_isDigit_6 : decode b_EditMovesModel_isDigit 6 = .ok (.iload_n 0, 1) := by decide +kernel
theorem d_EditMovesModel_isDigit_7 : decode b_EditMovesModel_isDigit 7 = .ok (.bipush 57, 2) := by decide +kernel
theorem d_EditMovesModel_isDigit_9 : decode b_EditMovesModel_isDigit 9 = .ok (.if_icmp .gt 7, 3) := by decide +kernel
theorem d_EditMovesModel_isDigit_12 : decode b_EditMovesModel_isDigit 12 = .ok (.iconst 1, 1) := by decide +kernel
theorem d_EditMovesModel_isDigit_13 : decode b_EditMovesModel_isDigit 13 = .ok (.goto 4, 3) := by decide +kernel
theorem d_EditMovesModel_isDigit_16 : decode b_EditMovesModel_isDigit 16 = .ok (.iconst 0, 1) := by decide +kernel
theorem d_EditMovesModel_isDigit_17 : decode b_EditMovesModel_isDigit 17 = .ok (.ireturn, 1) := by decide +kernel
abbrev b_EditMovesModel_scan : ByteArray := prog_8_method_12_code
abbrev y_EditMovesModel_scan : MethodName := ⟨"EditMovesModel", "scan", "()Z"⟩
def ws_EditMovesModel_scan : List Cond := .code y_EditMovesModel_scan b_EditMovesModel_scan 5 (some .boolean) :: wAll
theorem d_EditMovesModel_scan_0 : decode b_EditMovesModel_scan 0 = .ok (.aload_n 0, 1) := by decide +kernel
theorem d_EditMovesModel_scan_1 : decode b_EditMovesModel_scan 1 = .ok (.iconst 0, 1) := by decide +kernel
theorem d_EditMovesModel_scan_2 : decode b_EditMovesModel_scan 2 = .ok (.putfield 65, 3) := by decide +kernel
theorem d_EditMovesModel_scan_5 : decode b_EditMovesModel_scan 5 = .ok (.iconst 0, 1) := by decide +kernel
theorem d_EditMovesModel_scan_6 : decode b_EditMovesModel_scan 6 = .ok (.istore_n 1, 1) := by decide +kernel
theorem d_EditMovesModel_scan_7 : decode b_EditMovesModel_scan 7 = .ok (.iload_n 1, 1) := by decide +kernel
theorem d_EditMovesModel_scan_8 : decode b_EditMovesModel_scan 8 = .ok (.aload_n 0, 1) := by decide +kernel
theorem d_EditMovesModel_scan_9 : decode b_EditMovesModel_scan 9 = .ok (.getfield 38, 3) := by decide +kernel
theorem d_EditMovesModel_scan_12 : decode b_EditMovesModel_scan 12 = .ok (.if_icmp .ge 206, 3) := by decide +kernel
theorem d_EditMovesModel_scan_15 : decode b_EditMovesModel_scan 15 = .ok (.aload_n 0, 1) := by decide +kernel
theorem d_EditMovesModel_scan_16 : decode b_EditMovesModel_scan 16 = .ok (.iload_n 1, 1) := by decide +kernel
theorem d_EditMovesModel_scan_17 : decode b_EditMovesModel_scan 17 = .ok (.invokevirtual 68, 3) := by decide +kernel
theorem d_EditMovesModel_scan_20 : decode b_EditMovesModel_scan 20 = .ok (.istore_n 2, 1) := by decide +kernel
theorem d_EditMovesModel_scan_21 : decode b_EditMovesModel_scan 21 = .ok (.iload_n 2, 1) := by decide +kernel
theorem d_EditMovesModel_scan_22 : decode b_EditMovesModel_scan 22 = .ok (.iconst (-1), 1) := by decide +kernel
theorem d_EditMovesModel_scan_23 : decode b_EditMovesModel_scan 23 = .ok (.if_icmp .ne 5, 3) := by decide +kernel
theorem d_EditMovesModel_scan_26 : decode b_EditMovesModel_scan 26 = .ok (.iconst 0, 1) := by decide +kernel
theorem d_EditMovesModel_scan_27 : decode b_EditMovesModel_scan 27 = .ok (.ireturn, 1) := by decide +kernel
theorem d_EditMovesModel_scan_28 : decode b_EditMovesModel_scan 28 = .ok (.iload_n 1, 1) := by decide +kernel
theorem d_EditMovesModel_scan_29 : decode b_EditMovesModel_scan 29 = .ok (.iload_n 2, 1) := by decide +kernel
theorem d_EditMovesModel_scan_30 : decode b_EditMovesModel_scan 30 = .ok (.sipush 200, 3) := by decide +kernel
theorem d_EditMovesModel_scan_33 : decode b_EditMovesModel_scan 33 = .ok (.if_icmp .eq 10, 3) := by decide +kernel
theorem d_EditMovesModel_scan_36 : decode b_EditMovesModel_scan 36 = .ok (.iload_n 2, 1) := by decide +kernel
theorem d_EditMovesModel_scan_37 : decode b_EditMovesModel_scan 37 = .ok (.sipush 201, 3) := by decide +kernel
theorem d_EditMovesModel_scan_40 : decode b_EditMovesModel_scan 40 = .ok (.if_icmp .ne 7, 3) := by decide +kernel
theorem d_EditMovesModel_scan_43 : decode b_EditMovesModel_scan 43 = .ok (.iconst 2, 1) := by decide +kernel
theorem d_EditMovesModel_scan_44 : decode b_EditMovesModel_scan 44 = .ok (.goto 4, 3) := by decide +kernel
theorem d_EditMovesModel_scan_47 : decode b_EditMovesModel_scan 47 = .ok (.iconst 1, 1) := by decide +kernel
theorem d_EditMovesModel_scan_48 : decode b_EditMovesModel_scan 48 = .ok (.iadd, 1) := by decide +kernel
theorem d_EditMovesModel_scan_49 : decode b_EditMovesModel_scan 49 = .ok (.istore_n 1, 1) := by decide +kernel
theorem d_EditMovesModel_scan_50 : decode b_EditMovesModel_scan 50 = .ok (.iconst 1, 1) := by decide +kernel
theorem d_EditMovesModel_scan_51 : decode b_EditMovesModel_scan 51 = .ok (.istore_n 3, 1) := by decide +kernel
theorem d_EditMovesModel_scan_52 : decode b_EditMovesModel_scan 52 = .ok (.aload_n 0, 1) := by decide +kernel
theorem d_EditMovesModel_scan_53 : decode b_EditMovesModel_scan 53 = .ok (.iload_n 1, 1) := by decide +kernel
theorem d_EditMovesModel_scan_54 : decode b_EditMovesModel_scan 54 = .ok (.invokevirtual 58, 3) := by decide +kernel
theorem d_EditMovesModel_scan_57 : decode b_EditMovesModel_scan 57 = .ok (.bipush 40, 2) := by decide +kernel
theorem d_EditMovesModel_scan_59 : decode b_EditMovesModel_scan 59 = .ok (.if_icmp .ne 121, 3) := by decide +kernel
theorem d_EditMovesModel_scan_62 : decode b_EditMovesModel_scan 62 = .ok (.aload_n 0, 1) := by decide +kernel
theorem d_EditMovesModel_scan_63 : decode b_EditMovesModel_scan 63 = .ok (.iload_n 1, 1) := by decide +kernel
theorem d_EditMovesModel_scan_64 : decode b_EditMovesModel_scan 64 = .ok (.iconst 1, 1) := by decide +kernel
theorem d_EditMovesModel_scan_65 : decode b_EditMovesModel_scan 65 = .ok (.iadd, 1) := by decide +kernel
theorem d_EditMovesModel_scan_66 : decode b_EditMovesModel_scan 66 = .ok (.invokevirtual 58, 3) := by decide +kernel
theorem d_EditMovesModel_scan_69 : decode b_EditMovesModel_scan 69 = .ok (.invokestatic 71, 3) := by decide +kernel
theorem d_EditMovesModel_scan_72 : decode b_EditMovesModel_scan 72 = .ok (.ifCond .ne 7, 3) := by decide +kernel
theorem d_EditMovesModel_scan_75 : decode b_EditMovesModel_scan 75 = .ok (.iconst 0, 1) := by decide +kernel
theorem d_EditMovesModel_scan_76 : decode b_EditMovesModel_scan 76 = .ok (.goto 21, 3) := by decide +kernel
theorem d_EditMovesModel_scan_79 : decode b_EditMovesModel_scan 79 = .ok (.aload_n 0, 1) := by decide +kernel
theorem d_EditMovesModel_scan_80 : decode b_EditMovesModel_scan 80 = .ok (.iload_n 1, 1) := by decide +kernel
theorem d_EditMovesModel_scan_81 : decode b_EditMovesModel_scan 81 = .ok (.iconst 2, 1) := by decide +kernel
theorem d_EditMovesModel_scan_82 : decode b_EditMovesModel_scan 82 = .ok (.iadd, 1) := by decide +kernel
theorem d_EditMovesModel_scan_83 : decode b_EditMovesModel_scan 83 = .ok (.invokevirtual 58, 3) := by decide +kernel
theorem d_EditMovesModel_scan_86 : decode b_EditMovesModel_scan 86 = .ok (.invokestatic 71, 3) := by decide +kernel
theorem d_EditMovesModel_scan_89 : decode b_EditMovesModel_scan 89 = .ok (.ifCond .ne 7, 3) := by decide +kernel
theorem d_EditMovesModel_scan_92 : decode b_EditMovesModel_scan 92 = .ok (.iconst 1, 1) := by decide +kernel
theorem d_EditMovesModel_scan_93 : decode b_EditMovesModel_scan 93 = .ok (.goto 4, 3) := by decide +kernel
theorem d_EditMovesModel_scan_96 : decode b_EditMovesModel_scan 96 = .ok (.iconst 2, 1) := by decide +kernel
theorem d_EditMovesModel_scan_97 : decode b_EditMovesModel_scan 97 = .ok (.istore 4, 2) := by decide +kernel
theorem d_EditMovesModel_scan_99 : decode b_EditMovesModel_scan 99 = .ok (.iload 4, 2) := by decide +kernel
theorem d_EditMovesModel_scan_101 : decode b_EditMovesModel_scan 101 = .ok (.ifCond .ne 7, 3) := by decide +kernel
theorem d_EditMovesModel_scan_104 : decode b_EditMovesModel_scan 104 = .ok (.iconst 0, 1) := by decide +kernel
theorem d_EditMovesModel_scan_105 : decode b_EditMovesModel_scan 105 = .ok (.goto 46, 3) := by decide +kernel
theorem d_EditMovesModel_scan_108 : decode b_EditMovesModel_scan 108 = .ok (.iload 4, 2) := by decide +kernel
theorem d_EditMovesModel_scan_110 : decode b_EditMovesModel_scan 110 = .ok (.iconst 1, 1) := by decide +kernel
theorem d_EditMovesModel_scan_111 : decode b_EditMovesModel_scan 111 = .ok (.if_icmp .ne 16, 3) := by decide +kernel
theorem d_EditMovesModel_scan_114 : decode b_EditMovesModel_scan 114 = .ok (.aload_n 0, 1) := by decide +kernel
theorem d_EditMovesModel_scan_115 : decode b_EditMovesModel_scan 115 = .ok (.iload_n 1, 1) := by decide +kernel
theorem d_EditMovesModel_scan_116 : decode b_EditMovesModel_scan 116 = .ok (.iconst 1, 1) := by decide +kernel
theorem d_EditMovesModel_scan_117 : decode b_EditMovesModel_scan 117 = .ok (.iadd, 1) := by decide +kernel
theorem d_EditMovesModel_scan_118 : decode b_EditMovesModel_scan 118 = .ok (.invokevirtual 58, 3) := by decide +kernel
theorem d_EditMovesModel_scan_121 : decode b_EditMovesModel_scan 121 = .ok (.bipush 48, 2) := by decide +kernel
theorem d_EditMovesModel_scan_123 : decode b_EditMovesModel_scan 123 = .ok (.isub, 1) := by decide +kernel
theorem d_EditMovesModel_scan_124 : decode b_EditMovesModel_scan 124 = .ok (.goto 27, 3) := by decide +kernel
theorem d_EditMovesModel_scan_127 : decode b_EditMovesModel_scan 127 = .ok (.bipush 10, 2) := by decide +kernel
theorem d_EditMovesModel_scan_129 : decode b_EditMovesModel_scan 129 = .ok (.aload_n 0, 1) := by decide +kernel
theorem d_EditMovesModel_scan_130 : decode b_EditMovesModel_scan 130 = .ok (.iload_n 1, 1) := by decide +kernel
theorem d_EditMovesModel_scan_131 : decode b_EditMovesModel_scan 131 = .ok (.iconst 1, 1) := by decide +kernel
theorem d_EditMovesModel_scan_132 : decode b_EditMovesModel_scan 132 = .ok (.iadd, 1) := by decide +kernel
theorem d_EditMovesModel_scan_133 : decode b_EditMovesModel_scan 133 = .ok (.invokevirtual 58, 3) := by decide +kernel
theorem d_EditMovesModel_scan_136 : decode b_EditMovesModel_scan 136 = .ok (.bipush 48, 2) := by decide +kernel
theorem d_EditMovesModel_scan_138 : decode b_EditMovesModel_scan 138 = .ok (.isub, 1) := by decide +kernel
theorem d_EditMovesModel_scan_139 : decode b_EditMovesModel_scan 139 = .ok (.imul, 1) := by decide +kernel
theorem d_EditMovesModel_scan_140 : decode b_EditMovesModel_scan 140 = .ok (.aload_n 0, 1) := by decide +kernel
theorem d_EditMovesModel_scan_141 : decode b_EditMovesModel_scan 141 = .ok (.iload_n 1, 1) := by decide +kernel
theorem d_EditMovesModel_scan_142 : decode b_EditMovesModel_scan 142 = .ok (.iconst 2, 1) := by decide +kernel
theorem d_EditMovesModel_scan_143 : decode b_EditMovesModel_scan 143 = .ok (.iadd, 1) := by decide +kernel
theorem d_EditMovesModel_scan_144 : decode b_EditMovesModel_scan 144 = .ok (.invokevirtual 58, 3) := by decide +kernel
theorem d_EditMovesModel_scan_147 : decode b_EditMovesModel_scan 147 = .ok (.iadd, 1) := by decide +kernel
theorem d_EditMovesModel_scan_148 : decode b_EditMovesModel_scan 148 = .ok (.bipush 48, 2) := by decide +kernel
theorem d_EditMovesModel_scan_150 : decode b_EditMovesModel_scan 150 = .ok (.isub, 1) := by decide +kernel
theorem d_EditMovesModel_scan_151 : decode b_EditMovesModel_scan 151 = .ok (.istore_n 3, 1) := by decide +kernel
theorem d_EditMovesModel_scan_152 : decode b_EditMovesModel_scan 152 = .ok (.iload_n 3, 1) := by decide +kernel
theorem d_EditMovesModel_scan_153 : decode b_EditMovesModel_scan 153 = .ok (.ifCond .eq 18, 3) := by decide +kernel
theorem d_EditMovesModel_scan_156 : decode b_EditMovesModel_scan 156 = .ok (.aload_n 0, 1) := by decide +kernel
theorem d_EditMovesModel_scan_157 : decode b_EditMovesModel_scan 157 = .ok (.iload_n 1, 1) := by decide +kernel
theorem d_EditMovesModel_scan_158 : decode b_EditMovesModel_scan 158 = .ok (.iconst 1, 1) := by decide +kernel
theorem d_EditMovesModel_scan_159 : decode b_EditMovesModel_scan 159 = .ok (.iadd, 1) := by decide +kernel
theorem d_EditMovesModel_scan_160 : decode b_EditMovesModel_scan 160 = .ok (.iload 4, 2) := by decide +kernel
theorem d_EditMovesModel_scan_162 : decode b_EditMovesModel_scan 162 = .ok (.iadd, 1) := by decide +kernel
theorem d_EditMovesModel_scan_163 : decode b_EditMovesModel_scan 163 = .ok (.invokevirtual 58, 3) := by decide +kernel
theorem d_EditMovesModel_scan_166 : decode b_EditMovesModel_scan 166 = .ok (.bipush 41, 2) := by decide +kernel
theorem d_EditMovesModel_scan_168 : decode b_EditMovesModel_scan 168 = .ok (.if_icmp .eq 5, 3) := by decide +kernel
theorem d_EditMovesModel_scan_171 : decode b_EditMovesModel_scan 171 = .ok (.iconst 0, 1) := by decide +kernel
theorem d_EditMovesModel_scan_172 : decode b_EditMovesModel_scan 172 = .ok (.ireturn, 1) := by decide +kernel
theorem d_EditMovesModel_scan_173 : decode b_EditMovesModel_scan 173 = .ok (.iload_n 1, 1) := by decide +kernel
theorem d_EditMovesModel_scan_174 : decode b_EditMovesModel_scan 174 = .ok (.iload 4, 2) := by decide +kernel
theorem d_EditMovesModel_scan_176 : decode b_EditMovesModel_scan 176 = .ok (.iconst 2, 1) := by decide +kernel
theorem d_EditMovesModel_scan_177 : decode b_EditMovesModel_scan 177 = .ok (.iadd, 1) := by decide +kernel
theorem d_EditMovesModel_scan_178 : decode b_EditMovesModel_scan 178 = .ok (.iadd, 1) := by decide +kernel
theorem d_EditMovesModel_scan_179 : decode b_EditMovesModel_scan 179 = .ok (.istore_n 1, 1) := by decide +kernel
theorem d_EditMovesModel_scan_180 : decode b_EditMovesModel_scan 180 = .ok (.iconst 0, 1) := by decide +kernel
theorem d_EditMovesModel_scan_181 : decode b_EditMovesModel_scan 181 = .ok (.istore 4, 2) := by decide +kernel
theorem d_EditMovesModel_scan_183 : decode b_EditMovesModel_scan 183 = .ok (.iload 4, 2) := by decide +kernel
theorem d_EditMovesModel_scan_185 : decode b_EditMovesModel_scan 185 = .ok (.iload_n 3, 1) := by decide +kernel
theorem d_EditMovesModel_scan_186 : decode b_EditMovesModel_scan 186 = .ok (.if_icmp .ge 29, 3) := by decide +kernel
theorem d_EditMovesModel_scan_189 : decode b_EditMovesModel_scan 189 = .ok (.aload_n 0, 1) := by decide +kernel
theorem d_EditMovesModel_scan_190 : decode b_EditMovesModel_scan 190 = .ok (.getfield 20, 3) := by decide +kernel
theorem d_EditMovesModel_scan_193 : decode b_EditMovesModel_scan 193 = .ok (.aload_n 0, 1) := by decide +kernel
theorem d_EditMovesModel_scan_194 : decode b_EditMovesModel_scan 194 = .ok (.getfield 65, 3) := by decide +kernel
theorem d_EditMovesModel_scan_197 : decode b_EditMovesModel_scan 197 = .ok (.iload_n 2, 1) := by decide +kernel
theorem d_EditMovesModel_scan_198 : decode b_EditMovesModel_scan 198 = .ok (.iastore, 1) := by decide +kernel
theorem d_EditMovesModel_scan_199 : decode b_EditMovesModel_scan 199 = .ok (.aload_n 0, 1) := by decide +kernel
theorem d_EditMovesModel_scan_200 : decode b_EditMovesModel_scan 200 = .ok (.dup, 1) := by decide +kernel
theorem d_EditMovesModel_scan_201 : decode b_EditMovesModel_scan 201 = .ok (.getfield 65, 3) := by decide +kernel
theorem d_EditMovesModel_scan_204 : decode b_EditMovesModel_scan 204 = .ok (.iconst 1, 1) := by decide +kernel
theorem d_EditMovesModel_scan_205 : decode b_EditMovesModel_scan 205 = .ok (.iadd, 1) := by decide +kernel
theorem d_EditMovesModel_scan_206 : decode b_EditMovesModel_scan 206 = .ok (.putfield 65, 3) := by decide +kernel
theorem d_EditMovesModel_scan_209 : decode b_EditMovesModel_scan 209 = .ok (.iinc 4 1, 3) := by decide +kernel
theorem d_EditMovesModel_scan_212 : decode b_EditMovesModel_scan 212 = .ok (.goto (-29), 3) := by decide +kernel
theorem d_EditMovesModel_scan_215 : decode b_EditMovesModel_scan 215 = .ok (.goto (-208), 3) := by decide +kernel
theorem d_EditMovesModel_scan_218 : decode b_EditMovesModel_scan 218 = .ok (.iconst 1, 1) := by decide +kernel
theorem d_EditMovesModel_scan_219 : decode b_EditMovesModel_scan 219 = .ok (.ireturn, 1) := by decide +kernel
abbrev b_EditMovesModel_isInsertion : ByteArray := prog_8_method_13_code
abbrev y_EditMovesModel_isInsertion : MethodName := ⟨"EditMovesModel", "isInsertion", "(I)Z"⟩
def ws_EditMovesModel_isInsertion : List Cond := .code y_EditMovesModel_isInsertion b_EditMovesModel_isInsertion 1 (some .boolean) :: wAll
theorem d_EditMovesModel_isInsertion_0 : decode b_EditMovesModel_isInsertion 0 = .ok (.iload_n 0, 1) := by decide +kernel
theorem d_EditMovesModel_isInsertion_1 : decode b_EditMovesModel_isInsertion 1 = .ok (.bipush 66, 2) := by decide +kernel
theorem d_EditMovesModel_isInsertion_3 : decode b_EditMovesModel_isInsertion 3 = .ok (.if_icmp .eq 21, 3) := by decide +kernel
theorem d_EditMovesModel_isInsertion_6 : decode b_EditMovesModel_isInsertion 6 = .ok (.iload_n 0, 1) := by decide +kernel
theorem d_EditMovesModel_isInsertion_7 : decode b_EditMovesModel_isInsertion 7 = .ok (.bipush 48, 2) := by decide +kernel
theorem d_EditMovesModel_isInsertion_9 : decode b_EditMovesModel_isInsertion 9 = .ok (.if_icmp .eq 15, 3) := by decide +kernel
theorem d_EditMovesModel_isInsertion_12 : decode b_EditMovesModel_isInsertion 12 = .ok (.iload_n 0, 1) := by decide +kernel
theorem d_EditMovesModel_isInsertion_13 : decode b_EditMovesModel_isInsertion 13 = .ok (.bipush 47, 2) := by decide +kernel
theorem d_EditMovesModel_isInsertion_15 : decode b_EditMovesModel_isInsertion 15 = .ok (.if_icmp .eq 9, 3) := by decide +kernel
theorem d_EditMovesModel_isInsertion_18 : decode b_EditMovesModel_isInsertion 18 = .ok (.iload_n 0, 1) := by decide +kernel
theorem d_EditMovesModel_isInsertion_19 : decode b_EditMovesModel_isInsertion 19 = .ok (.bipush 44, 2) := by decide +kernel
theorem d_EditMovesModel_isInsertion_21 : decode b_EditMovesModel_isInsertion 21 = .ok (.if_icmp .ne 7, 3) := by decide +kernel
theorem d_EditMovesModel_isInsertion_24 : decode b_EditMovesModel_isInsertion 24 = .ok (.iconst 1, 1) := by decide +kernel
theorem d_EditMovesModel_isInsertion_25 : decode b_EditMovesModel_isInsertion 25 = .ok (.goto 4, 3) := by decide +kernel
theorem d_EditMovesModel_isInsertion_28 : decode b_EditMovesModel_isInsertion 28 = .ok (.iconst 0, 1) := by decide +kernel
theorem d_EditMovesModel_isInsertion_29 : decode b_EditMovesModel_isInsertion 29 = .ok (.ireturn, 1) := by decide +kernel
abbrev b_EditMovesModel_isSign : ByteArray := prog_8_method_14_code
abbrev y_EditMovesModel_isSign : MethodName := ⟨"EditMovesModel", "isSign", "(I)Z"⟩
def ws_EditMovesModel_isSign : List Cond := .code y_EditMovesModel_isSign b_EditMovesModel_isSign 1 (some .boolean) :: wAll
theorem d_EditMovesModel_isSign_0 : decode b_EditMovesModel_isSign 0 = .ok (.iload_n 0, 1) := by decide +kernel
theorem d_EditMovesModel_isSign_1 : decode b_EditMovesModel_isSign 1 = .ok (.bipush 43, 2) := by decide +kernel
theorem d_EditMovesModel_isSign_3 : decode b_EditMovesModel_isSign 3 = .ok (.if_icmp .eq 9, 3) := by decide +kernel
theorem d_EditMovesModel_isSign_6 : decode b_EditMovesModel_isSign 6 = .ok (.iload_n 0, 1) := by decide +kernel
theorem d_EditMovesModel_isSign_7 : decode b_EditMovesModel_isSign 7 = .ok (.bipush 45, 2) := by decide +kernel
theorem d_EditMovesModel_isSign_9 : decode b_EditMovesModel_isSign 9 = .ok (.if_icmp .ne 7, 3) := by decide +kernel
theorem d_EditMovesModel_isSign_12 : decode b_EditMovesModel_isSign 12 = .ok (.iconst 1, 1) := by decide +kernel
theorem d_EditMovesModel_isSign_13 : decode b_EditMovesModel_isSign 13 = .ok (.goto 4, 3) := by decide +kernel
theorem d_EditMovesModel_isSign_16 : decode b_EditMovesModel_isSign 16 = .ok (.iconst 0, 1) := by decide +kernel
theorem d_EditMovesModel_isSign_17 : decode b_EditMovesModel_isSign 17 = .ok (.ireturn, 1) := by decide +kernel
abbrev b_EditMovesModel_main : ByteArray := prog_8_method_15_code
abbrev y_EditMovesModel_main : MethodName := ⟨"EditMovesModel", "main", "(I)I"⟩
def ws_EditMovesModel_main : List Cond := .code y_EditMovesModel_main b_EditMovesModel_main 3 (some .int) :: wAll
theorem d_EditMovesModel_main_0 : decode b_EditMovesModel_main 0 = .ok (.iload_n 1, 1) := by decide +kernel
theorem d_EditMovesModel_main_1 : decode b_EditMovesModel_main 1 = .ok (.istore_n 2, 1) := by decide +kernel
theorem d_EditMovesModel_main_2 : decode b_EditMovesModel_main 2 = .ok (.iload_n 2, 1) := by decide +kernel
theorem d_EditMovesModel_main_3 : decode b_EditMovesModel_main 3 = .ok (.aload_n 0, 1) := by decide +kernel
theorem d_EditMovesModel_main_4 : decode b_EditMovesModel_main 4 = .ok (.getfield 65, 3) := by decide +kernel
theorem d_EditMovesModel_main_7 : decode b_EditMovesModel_main 7 = .ok (.if_icmp .ge 21, 3) := by decide +kernel
theorem d_EditMovesModel_main_10 : decode b_EditMovesModel_main 10 = .ok (.aload_n 0, 1) := by decide +kernel
theorem d_EditMovesModel_main_11 : decode b_EditMovesModel_main 11 = .ok (.getfield 20, 3) := by decide +kernel
theorem d_EditMovesModel_main_14 : decode b_EditMovesModel_main 14 = .ok (.iload_n 2, 1) := by decide +kernel
theorem d_EditMovesModel_main_15 : decode b_EditMovesModel_main 15 = .ok (.iaload, 1) := by decide +kernel
theorem d_EditMovesModel_main_16 : decode b_EditMovesModel_main 16 = .ok (.invokestatic 75, 3) := by decide +kernel
theorem d_EditMovesModel_main_19 : decode b_EditMovesModel_main 19 = .ok (.ifCond .eq 9, 3) := by decide +kernel
theorem d_EditMovesModel_main_22 : decode b_EditMovesModel_main 22 = .ok (.iinc 2 1, 3) := by decide +kernel
theorem d_EditMovesModel_main_25 : decode b_EditMovesModel_main 25 = .ok (.goto (-23), 3) := by decide +kernel
theorem d_EditMovesModel_main_28 : decode b_EditMovesModel_main 28 = .ok (.iload_n 2, 1) := by decide +kernel
theorem d_EditMovesModel_main_29 : decode b_EditMovesModel_main 29 = .ok (.ireturn, 1) := by decide +kernel
abbrev b_EditMovesModel_signOf : ByteArray := prog_8_method_16_code
abbrev y_EditMovesModel_signOf : MethodName := ⟨"EditMovesModel", "signOf", "(I)I"⟩
def ws_EditMovesModel_signOf : List Cond := .code y_EditMovesModel_signOf b_EditMovesModel_signOf 2 (some .int) :: wAll
theorem d_EditMovesModel_signOf_0 : decode b_EditMovesModel_signOf 0 = .ok (.iload_n 1, 1) := by decide +kernel
theorem d_EditMovesModel_signOf_1 : decode b_EditMovesModel_signOf 1 = .ok (.aload_n 0, 1) := by decide +kernel
theorem d_EditMovesModel_signOf_2 : decode b_EditMovesModel_signOf 2 = .ok (.getfield 65, 3) := by decide +kernel
theorem d_EditMovesModel_signOf_5 : decode b_EditMovesModel_signOf 5 = .ok (.if_icmp .ge 12, 3) := by decide +kernel
theorem d_EditMovesModel_signOf_8 : decode b_EditMovesModel_signOf 8 = .ok (.aload_n 0, 1) := by decide +kernel
theorem d_EditMovesModel_signOf_9 : decode b_EditMovesModel_signOf 9 = .ok (.getfield 20, 3) := by decide +kernel
theorem d_EditMovesModel_signOf_12 : decode b_EditMovesModel_signOf 12 = .ok (.iload_n 1, 1) := by decide +kernel
theorem d_EditMovesModel_signOf_13 : decode b_EditMovesModel_signOf 13 = .ok (.iaload, 1) := by decide +kernel
theorem d_EditMovesModel_signOf_14 : decode b_EditMovesModel_signOf 14 = .ok (.goto 4, 3) := by decide +kernel
theorem d_EditMovesModel_signOf_17 : decode b_EditMovesModel_signOf 17 = .ok (.iconst (-1), 1) := by decide +kernel
theorem d_EditMovesModel_signOf_18 : decode b_EditMovesModel_signOf 18 = .ok (.ireturn, 1) := by decide +kernel
abbrev b_EditMovesModel_run : ByteArray := prog_8_method_17_code
abbrev y_EditMovesModel_run : MethodName := ⟨"EditMovesModel", "run", "(II)I"⟩
def ws_EditMovesModel_run : List Cond := .code y_EditMovesModel_run b_EditMovesModel_run 5 (some .int) :: wAll
theorem d_EditMovesModel_run_0 : decode b_EditMovesModel_run 0 = .ok (.iconst 0, 1) := by decide +kernel
theorem d_EditMovesModel_run_1 : decode b_EditMovesModel_run 1 = .ok (.istore_n 3, 1) := by decide +kernel
theorem d_EditMovesModel_run_2 : decode b_EditMovesModel_run 2 = .ok (.iload_n 1, 1) := by decide +kernel
theorem d_EditMovesModel_run_3 : decode b_EditMovesModel_run 3 = .ok (.istore 4, 2) := by decide +kernel
theorem d_EditMovesModel_run_5 : decode b_EditMovesModel_run 5 = .ok (.aload_n 0, 1) := by decide +kernel
theorem d_EditMovesModel_run_6 : decode b_EditMovesModel_run 6 = .ok (.iload 4, 2) := by decide +kernel
theorem d_EditMovesModel_run_8 : decode b_EditMovesModel_run 8 = .ok (.invokevirtual 78, 3) := by decide +kernel
theorem d_EditMovesModel_run_11 : decode b_EditMovesModel_run 11 = .ok (.iload_n 2, 1) := by decide +kernel
theorem d_EditMovesModel_run_12 : decode b_EditMovesModel_run 12 = .ok (.if_icmp .ne 19, 3) := by decide +kernel
theorem d_EditMovesModel_run_15 : decode b_EditMovesModel_run 15 = .ok (.iinc 3 1, 3) := by decide +kernel
theorem d_EditMovesModel_run_18 : decode b_EditMovesModel_run 18 = .ok (.aload_n 0, 1) := by decide +kernel
theorem d_EditMovesModel_run_19 : decode b_EditMovesModel_run 19 = .ok (.iload 4, 2) := by decide +kernel
theorem d_EditMovesModel_run_21 : decode b_EditMovesModel_run 21 = .ok (.iconst 1, 1) := by decide +kernel
theorem d_EditMovesModel_run_22 : decode b_EditMovesModel_run 22 = .ok (.iadd, 1) := by decide +kernel
theorem d_EditMovesModel_run_23 : decode b_EditMovesModel_run 23 = .ok (.invokevirtual 81, 3) := by decide +kernel
theorem d_EditMovesModel_run_26 : decode b_EditMovesModel_run 26 = .ok (.istore 4, 2) := by decide +kernel
theorem d_EditMovesModel_run_28 : decode b_EditMovesModel_run 28 = .ok (.goto (-23), 3) := by decide +kernel
theorem d_EditMovesModel_run_31 : decode b_EditMovesModel_run 31 = .ok (.iload_n 3, 1) := by decide +kernel
theorem d_EditMovesModel_run_32 : decode b_EditMovesModel_run 32 = .ok (.ireturn, 1) := by decide +kernel
abbrev b_EditMovesModel_pass : ByteArray := prog_8_method_18_code
abbrev y_EditMovesModel_pass : MethodName := ⟨"EditMovesModel", "pass", "(II)I"⟩
def ws_EditMovesModel_pass : List Cond := .code y_EditMovesModel_pass b_EditMovesModel_pass 5 (some .int) :: wAll
theorem d_EditMovesModel_pass_0 : decode b_EditMovesModel_pass 0 = .ok (.iload_n 1, 1) := by decide +kernel
theorem d_EditMovesModel_pass_1 : decode b_EditMovesModel_pass 1 = .ok (.istore_n 3, 1) := by decide +kernel
theorem d_EditMovesModel_pass_2 : decode b_EditMovesModel_pass 2 = .ok (.iconst 0, 1) := by decide +kernel
theorem d_EditMovesModel_pass_3 : decode b_EditMovesModel_pass 3 = .ok (.istore 4, 2) := by decide +kernel
theorem d_EditMovesModel_pass_5 : decode b_EditMovesModel_pass 5 = .ok (.iload 4, 2) := by decide +kernel
theorem d_EditMovesModel_pass_7 : decode b_EditMovesModel_pass 7 = .ok (.iload_n 2, 1) := by decide +kernel
theorem d_EditMovesModel_pass_8 : decode b_EditMovesModel_pass 8 = .ok (.if_icmp .ge 17, 3) := by decide +kernel
theorem d_EditMovesModel_pass_11 : decode b_EditMovesModel_pass 11 = .ok (.aload_n 0, 1) := by decide +kernel
theorem d_EditMovesModel_pass_12 : decode b_EditMovesModel_pass 12 = .ok (.iload_n 3, 1) := by decide +kernel
theorem d_EditMovesModel_pass_13 : decode b_EditMovesModel_pass 13 = .ok (.iconst 1, 1) := by decide +kernel
theorem d_EditMovesModel_pass_14 : decode b_EditMovesModel_pass 14 = .ok (.iadd, 1) := by decide +kernel
theorem d_EditMovesModel_pass_15 : decode b_EditMovesModel_pass 15 = .ok (.invokevirtual 81, 3) := by decide +kernel
theorem d_EditMovesModel_pass_18 : decode b_EditMovesModel_pass 18 = .ok (.istore_n 3, 1) := by decide +kernel
theorem d_EditMovesModel_pass_19 : decode b_EditMovesModel_pass 19 = .ok (.iinc 4 1, 3) := by decide +kernel
theorem d_EditMovesModel_pass_22 : decode b_EditMovesModel_pass 22 = .ok (.goto (-17), 3) := by decide +kernel
theorem d_EditMovesModel_pass_25 : decode b_EditMovesModel_pass 25 = .ok (.iload_n 3, 1) := by decide +kernel
theorem d_EditMovesModel_pass_26 : decode b_EditMovesModel_pass 26 = .ok (.ireturn, 1) := by decide +kernel
abbrev b_EditMovesModel_isText : ByteArray := prog_8_method_19_code
abbrev y_EditMovesModel_isText : MethodName := ⟨"EditMovesModel", "isText", "()Z"⟩
def ws_EditMovesModel_isText : List Cond := .code y_EditMovesModel_isText b_EditMovesModel_isText 4 (some .boolean) :: wAll
theorem d_EditMovesModel_isText_0 : decode b_EditMovesModel_isText 0 = .ok (.iconst 0, 1) := by decide +kernel
theorem d_EditMovesModel_isText_1 : decode b_EditMovesModel_isText 1 = .ok (.istore_n 1, 1) := by decide +kernel
theorem d_EditMovesModel_isText_2 : decode b_EditMovesModel_isText 2 = .ok (.iconst 1, 1) := by decide +kernel
theorem d_EditMovesModel_isText_3 : decode b_EditMovesModel_isText 3 = .ok (.istore_n 2, 1) := by decide +kernel
theorem d_EditMovesModel_isText_4 : decode b_EditMovesModel_isText 4 = .ok (.iconst 0, 1) := by decide +kernel
theorem d_EditMovesModel_isText_5 : decode b_EditMovesModel_isText 5 = .ok (.istore_n 3, 1) := by decide +kernel
theorem d_EditMovesModel_isText_6 : decode b_EditMovesModel_isText 6 = .ok (.iload_n 3, 1) := by decide +kernel
theorem d_EditMovesModel_isText_7 : decode b_EditMovesModel_isText 7 = .ok (.aload_n 0, 1) := by decide +kernel
theorem d_EditMovesModel_isText_8 : decode b_EditMovesModel_isText 8 = .ok (.getfield 65, 3) := by decide +kernel
theorem d_EditMovesModel_isText_11 : decode b_EditMovesModel_isText 11 = .ok (.if_icmp .ge 84, 3) := by decide +kernel
theorem d_EditMovesModel_isText_14 : decode b_EditMovesModel_isText 14 = .ok (.iload_n 1, 1) := by decide +kernel
theorem d_EditMovesModel_isText_15 : decode b_EditMovesModel_isText 15 = .ok (.ifCond .ne 14, 3) := by decide +kernel
theorem d_EditMovesModel_isText_18 : decode b_EditMovesModel_isText 18 = .ok (.aload_n 0, 1) := by decide +kernel
theorem d_EditMovesModel_isText_19 : decode b_EditMovesModel_isText 19 = .ok (.getfield 20, 3) := by decide +kernel
theorem d_EditMovesModel_isText_22 : decode b_EditMovesModel_isText 22 = .ok (.iload_n 3, 1) := by decide +kernel
theorem d_EditMovesModel_isText_23 : decode b_EditMovesModel_isText 23 = .ok (.iaload, 1) := by decide +kernel
theorem d_EditMovesModel_isText_24 : decode b_EditMovesModel_isText 24 = .ok (.bipush 88, 2) := by decide +kernel
theorem d_EditMovesModel_isText_26 : decode b_EditMovesModel_isText 26 = .ok (.if_icmp .ne 7, 3) := by decide +kernel
theorem d_EditMovesModel_isText_29 : decode b_EditMovesModel_isText 29 = .ok (.iconst 1, 1) := by decide +kernel
theorem d_EditMovesModel_isText_30 : decode b_EditMovesModel_isText 30 = .ok (.goto 4, 3) := by decide +kernel
theorem d_EditMovesModel_isText_33 : decode b_EditMovesModel_isText 33 = .ok (.iconst 0, 1) := by decide +kernel
theorem d_EditMovesModel_isText_34 : decode b_EditMovesModel_isText 34 = .ok (.istore_n 1, 1) := by decide +kernel
theorem d_EditMovesModel_isText_35 : decode b_EditMovesModel_isText 35 = .ok (.iload_n 2, 1) := by decide +kernel
theorem d_EditMovesModel_isText_36 : decode b_EditMovesModel_isText 36 = .ok (.ifCond .eq 51, 3) := by decide +kernel
theorem d_EditMovesModel_isText_39 : decode b_EditMovesModel_isText 39 = .ok (.aload_n 0, 1) := by decide +kernel
theorem d_EditMovesModel_isText_40 : decode b_EditMovesModel_isText 40 = .ok (.getfield 20, 3) := by decide +kernel
theorem d_EditMovesModel_isText_43 : decode b_EditMovesModel_isText 43 = .ok (.iload_n 3, 1) := by decide +kernel
theorem d_EditMovesModel_isText_44 : decode b_EditMovesModel_isText 44 = .ok (.iaload, 1) := by decide +kernel
theorem d_EditMovesModel_isText_45 : decode b_EditMovesModel_isText 45 = .ok (.bipush 88, 2) := by decide +kernel
theorem d_EditMovesModel_isText_47 : decode b_EditMovesModel_isText 47 = .ok (.if_icmp .eq 36, 3) := by decide +kernel
theorem d_EditMovesModel_isText_50 : decode b_EditMovesModel_isText 50 = .ok (.aload_n 0, 1) := by decide +kernel
theorem d_EditMovesModel_isText_51 : decode b_EditMovesModel_isText 51 = .ok (.getfield 20, 3) := by decide +kernel
theorem d_EditMovesModel_isText_54 : decode b_EditMovesModel_isText 54 = .ok (.iload_n 3, 1) := by decide +kernel
theorem d_EditMovesModel_isText_55 : decode b_EditMovesModel_isText 55 = .ok (.iaload, 1) := by decide +kernel
theorem d_EditMovesModel_isText_56 : decode b_EditMovesModel_isText 56 = .ok (.bipush 66, 2) := by decide +kernel
theorem d_EditMovesModel_isText_58 : decode b_EditMovesModel_isText 58 = .ok (.if_icmp .eq 25, 3) := by decide +kernel
theorem d_EditMovesModel_isText_61 : decode b_EditMovesModel_isText 61 = .ok (.aload_n 0, 1) := by decide +kernel
theorem d_EditMovesModel_isText_62 : decode b_EditMovesModel_isText 62 = .ok (.getfield 20, 3) := by decide +kernel
theorem d_EditMovesModel_isText_65 : decode b_EditMovesModel_isText 65 = .ok (.iload_n 3, 1) := by decide +kernel
theorem d_EditMovesModel_isText_66 : decode b_EditMovesModel_isText 66 = .ok (.iaload, 1) := by decide +kernel
theorem d_EditMovesModel_isText_67 : decode b_EditMovesModel_isText 67 = .ok (.bipush 48, 2) := by decide +kernel
theorem d_EditMovesModel_isText_69 : decode b_EditMovesModel_isText 69 = .ok (.if_icmp .eq 14, 3) := by decide +kernel
theorem d_EditMovesModel_isText_72 : decode b_EditMovesModel_isText 72 = .ok (.aload_n 0, 1) := by decide +kernel
theorem d_EditMovesModel_isText_73 : decode b_EditMovesModel_isText 73 = .ok (.getfield 20, 3) := by decide +kernel
theorem d_EditMovesModel_isText_76 : decode b_EditMovesModel_isText 76 = .ok (.iload_n 3, 1) := by decide +kernel
theorem d_EditMovesModel_isText_77 : decode b_EditMovesModel_isText 77 = .ok (.iaload, 1) := by decide +kernel
theorem d_EditMovesModel_isText_78 : decode b_EditMovesModel_isText 78 = .ok (.bipush 47, 2) := by decide +kernel
theorem d_EditMovesModel_isText_80 : decode b_EditMovesModel_isText 80 = .ok (.if_icmp .ne 7, 3) := by decide +kernel
theorem d_EditMovesModel_isText_83 : decode b_EditMovesModel_isText 83 = .ok (.iconst 1, 1) := by decide +kernel
theorem d_EditMovesModel_isText_84 : decode b_EditMovesModel_isText 84 = .ok (.goto 4, 3) := by decide +kernel
theorem d_EditMovesModel_isText_87 : decode b_EditMovesModel_isText 87 = .ok (.iconst 0, 1) := by decide +kernel
theorem d_EditMovesModel_isText_88 : decode b_EditMovesModel_isText 88 = .ok (.istore_n 2, 1) := by decide +kernel
theorem d_EditMovesModel_isText_89 : decode b_EditMovesModel_isText 89 = .ok (.iinc 3 1, 3) := by decide +kernel
theorem d_EditMovesModel_isText_92 : decode b_EditMovesModel_isText 92 = .ok (.goto (-86), 3) := by decide +kernel
theorem d_EditMovesModel_isText_95 : decode b_EditMovesModel_isText 95 = .ok (.iload_n 1, 1) := by decide +kernel
theorem d_EditMovesModel_isText_96 : decode b_EditMovesModel_isText 96 = .ok (.ifCond .eq 11, 3) := by decide +kernel
theorem d_EditMovesModel_isText_99 : decode b_EditMovesModel_isText 99 = .ok (.iload_n 2, 1) := by decide +kernel
theorem d_EditMovesModel_isText_100 : decode b_EditMovesModel_isText 100 = .ok (.ifCond .eq 7, 3) := by decide +kernel
theorem d_EditMovesModel_isText_103 : decode b_EditMovesModel_isText 103 = .ok (.iconst 1, 1) := by decide +kernel
theorem d_EditMovesModel_isText_104 : decode b_EditMovesModel_isText 104 = .ok (.goto 4, 3) := by decide +kernel
theorem d_EditMovesModel_isText_107 : decode b_EditMovesModel_isText 107 = .ok (.iconst 0, 1) := by decide +kernel
theorem d_EditMovesModel_isText_108 : decode b_EditMovesModel_isText 108 = .ok (.ireturn, 1) := by decide +kernel
abbrev b_EditMovesModel_isNumber : ByteArray := prog_8_method_20_code
abbrev y_EditMovesModel_isNumber : MethodName := ⟨"EditMovesModel", "isNumber", "()Z"⟩
def ws_EditMovesModel_isNumber : List Cond := .code y_EditMovesModel_isNumber b_EditMovesModel_isNumber 11 (some .boolean) :: wAll
theorem d_EditMovesModel_isNumber_0 : decode b_EditMovesModel_isNumber 0 = .ok (.iconst 1, 1) := by decide +kernel
theorem d_EditMovesModel_isNumber_1 : decode b_EditMovesModel_isNumber 1 = .ok (.istore_n 1, 1) := by decide +kernel
theorem d_EditMovesModel_isNumber_2 : decode b_EditMovesModel_isNumber 2 = .ok (.iload_n 1, 1) := by decide +kernel
theorem d_EditMovesModel_isNumber_3 : decode b_EditMovesModel_isNumber 3 = .ok (.aload_n 0, 1) := by decide +kernel
theorem d_EditMovesModel_isNumber_4 : decode b_EditMovesModel_isNumber 4 = .ok (.getfield 65, 3) := by decide +kernel
theorem d_EditMovesModel_isNumber_7 : decode b_EditMovesModel_isNumber 7 = .ok (.if_icmp .ge 51, 3) := by decide +kernel
theorem d_EditMovesModel_isNumber_10 : decode b_EditMovesModel_isNumber 10 = .ok (.aload_n 0, 1) := by decide +kernel
theorem d_EditMovesModel_isNumber_11 : decode b_EditMovesModel_isNumber 11 = .ok (.getfield 20, 3) := by decide +kernel
theorem d_EditMovesModel_isNumber_14 : decode b_EditMovesModel_isNumber 14 = .ok (.iload_n 1, 1) := by decide +kernel
theorem d_EditMovesModel_isNumber_15 : decode b_EditMovesModel_isNumber 15 = .ok (.iaload, 1) := by decide +kernel
theorem d_EditMovesModel_isNumber_16 : decode b_EditMovesModel_isNumber 16 = .ok (.invokestatic 75, 3) := by decide +kernel
theorem d_EditMovesModel_isNumber_19 : decode b_EditMovesModel_isNumber 19 = .ok (.ifCond .eq 33, 3) := by decide +kernel
theorem d_EditMovesModel_isNumber_22 : decode b_EditMovesModel_isNumber 22 = .ok (.aload_n 0, 1) := by decide +kernel
theorem d_EditMovesModel_isNumber_23 : decode b_EditMovesModel_isNumber 23 = .ok (.getfield 20, 3) := by decide +kernel
theorem d_EditMovesModel_isNumber_26 : decode b_EditMovesModel_isNumber 26 = .ok (.iload_n 1, 1) := by decide +kernel
theorem d_EditMovesModel_isNumber_27 : decode b_EditMovesModel_isNumber 27 = .ok (.iconst 1, 1) := by decide +kernel
theorem d_EditMovesModel_isNumber_28 : decode b_EditMovesModel_isNumber 28 = .ok (.isub, 1) := by decide +kernel
theorem d_EditMovesModel_isNumber_29 : decode b_EditMovesModel_isNumber 29 = .ok (.iaload, 1) := by decide +kernel
theorem d_EditMovesModel_isNumber_30 : decode b_EditMovesModel_isNumber 30 = .ok (.sipush 200, 3) := by decide +kernel
theorem d_EditMovesModel_isNumber_33 : decode b_EditMovesModel_isNumber 33 = .ok (.if_icmp .eq 17, 3) := by decide +kernel
theorem d_EditMovesModel_isNumber_36 : decode b_EditMovesModel_isNumber 36 = .ok (.aload_n 0, 1) := by decide +kernel
theorem d_EditMovesModel_isNumber_37 : decode b_EditMovesModel_isNumber 37 = .ok (.getfield 20, 3) := by decide +kernel
theorem d_EditMovesModel_isNumber_40 : decode b_EditMovesModel_isNumber 40 = .ok (.iload_n 1, 1) := by decide +kernel
theorem d_EditMovesModel_isNumber_41 : decode b_EditMovesModel_isNumber 41 = .ok (.iconst 1, 1) := by decide +kernel
theorem d_EditMovesModel_isNumber_42 : decode b_EditMovesModel_isNumber 42 = .ok (.isub, 1) := by decide +kernel
theorem d_EditMovesModel_isNumber_43 : decode b_EditMovesModel_isNumber 43 = .ok (.iaload, 1) := by decide +kernel
theorem d_EditMovesModel_isNumber_44 : decode b_EditMovesModel_isNumber 44 = .ok (.sipush 201, 3) := by decide +kernel
theorem d_EditMovesModel_isNumber_47 : decode b_EditMovesModel_isNumber 47 = .ok (.if_icmp .ne 5, 3) := by decide +kernel
theorem d_EditMovesModel_isNumber_50 : decode b_EditMovesModel_isNumber 50 = .ok (.iconst 0, 1) := by decide +kernel
theorem d_EditMovesModel_isNumber_51 : decode b_EditMovesModel_isNumber 51 = .ok (.ireturn, 1) := by decide +kernel
theorem d_EditMovesModel_isNumber_52 : decode b_EditMovesModel_isNumber 52 = .ok (.iinc 1 1, 3) := by decide +kernel
theorem d_EditMovesModel_isNumber_55 : decode b_EditMovesModel_isNumber 55 = .ok (.goto (-53), 3) := by decide +kernel
theorem d_EditMovesModel_isNumber_58 : decode b_EditMovesModel_isNumber 58 = .ok (.aload_n 0, 1) := by decide +kernel
theorem d_EditMovesModel_isNumber_59 : decode b_EditMovesModel_isNumber 59 = .ok (.iconst 0, 1) := by decide +kernel
theorem d_EditMovesModel_isNumber_60 : decode b_EditMovesModel_isNumber 60 = .ok (.putfield 84, 3) := by decide +kernel
theorem d_EditMovesModel_isNumber_63 : decode b_EditMovesModel_isNumber 63 = .ok (.aload_n 0, 1) := by decide +kernel
theorem d_EditMovesModel_isNumber_64 : decode b_EditMovesModel_isNumber 64 = .ok (.iconst 0, 1) := by decide +kernel
theorem d_EditMovesModel_isNumber_65 : decode b_EditMovesModel_isNumber 65 = .ok (.putfield 87, 3) := by decide +kernel
theorem d_EditMovesModel_isNumber_68 : decode b_EditMovesModel_isNumber 68 = .ok (.aload_n 0, 1) := by decide +kernel
theorem d_EditMovesModel_isNumber_69 : decode b_EditMovesModel_isNumber 69 = .ok (.iconst 0, 1) := by decide +kernel
theorem d_EditMovesModel_isNumber_70 : decode b_EditMovesModel_isNumber 70 = .ok (.invokevirtual 81, 3) := by decide +kernel
theorem d_EditMovesModel_isNumber_73 : decode b_EditMovesModel_isNumber 73 = .ok (.istore_n 1, 1) := by decide +kernel
theorem d_EditMovesModel_isNumber_74 : decode b_EditMovesModel_isNumber 74 = .ok (.aload_n 0, 1) := by decide +kernel
theorem d_EditMovesModel_isNumber_75 : decode b_EditMovesModel_isNumber 75 = .ok (.iload_n 1, 1) := by decide +kernel
theorem d_EditMovesModel_isNumber_76 : decode b_EditMovesModel_isNumber 76 = .ok (.invokevirtual 78, 3) := by decide +kernel
theorem d_EditMovesModel_isNumber_79 : decode b_EditMovesModel_isNumber 79 = .ok (.invokestatic 90, 3) := by decide +kernel
theorem d_EditMovesModel_isNumber_82 : decode b_EditMovesModel_isNumber 82 = .ok (.ifCond .eq 21, 3) := by decide +kernel
theorem d_EditMovesModel_isNumber_85 : decode b_EditMovesModel_isNumber 85 = .ok (.aload_n 0, 1) := by decide +kernel
theorem d_EditMovesModel_isNumber_86 : decode b_EditMovesModel_isNumber 86 = .ok (.iload_n 1, 1) := by decide +kernel
theorem d_EditMovesModel_isNumber_87 : decode b_EditMovesModel_isNumber 87 = .ok (.aload_n 0, 1) := by decide +kernel
theorem d_EditMovesModel_isNumber_88 : decode b_EditMovesModel_isNumber 88 = .ok (.iload_n 1, 1) := by decide +kernel
theorem d_EditMovesModel_isNumber_89 : decode b_EditMovesModel_isNumber 89 = .ok (.invokevirtual 78, 3) := by decide +kernel
theorem d_EditMovesModel_isNumber_92 : decode b_EditMovesModel_isNumber 92 = .ok (.invokevirtual 93, 3) := by decide +kernel
theorem d_EditMovesModel_isNumber_95 : decode b_EditMovesModel_isNumber 95 = .ok (.iconst 1, 1) := by decide +kernel
theorem d_EditMovesModel_isNumber_96 : decode b_EditMovesModel_isNumber 96 = .ok (.if_icmp .ne 7, 3) := by decide +kernel
theorem d_EditMovesModel_isNumber_99 : decode b_EditMovesModel_isNumber 99 = .ok (.iconst 1, 1) := by decide +kernel
theorem d_EditMovesModel_isNumber_100 : decode b_EditMovesModel_isNumber 100 = .ok (.goto 4, 3) := by decide +kernel
theorem d_EditMovesModel_isNumber_103 : decode b_EditMovesModel_isNumber 103 = .ok (.iconst 0, 1) := by decide +kernel
theorem d_EditMovesModel_isNumber_104 : decode b_EditMovesModel_isNumber 104 = .ok (.istore_n 2, 1) := by decide +kernel
theorem d_EditMovesModel_isNumber_105 : decode b_EditMovesModel_isNumber 105 = .ok (.iload_n 2, 1) := by decide +kernel
theorem d_EditMovesModel_isNumber_106 : decode b_EditMovesModel_isNumber 106 = .ok (.ifCond .eq 12, 3) := by decide +kernel
theorem d_EditMovesModel_isNumber_109 : decode b_EditMovesModel_isNumber 109 = .ok (.aload_n 0, 1) := by decide +kernel
theorem d_EditMovesModel_isNumber_110 : decode b_EditMovesModel_isNumber 110 = .ok (.iload_n 1, 1) := by decide +kernel
theorem d_EditMovesModel_isNumber_111 : decode b_EditMovesModel_isNumber 111 = .ok (.iconst 1, 1) := by decide +kernel
theorem d_EditMovesModel_isNumber_112 : decode b_EditMovesModel_isNumber 112 = .ok (.invokevirtual 97, 3) := by decide +kernel
theorem d_EditMovesModel_isNumber_115 : decode b_EditMovesModel_isNumber 115 = .ok (.goto 4, 3) := by decide +kernel
theorem d_EditMovesModel_isNumber_118 : decode b_EditMovesModel_isNumber 118 = .ok (.iload_n 1, 1) := by decide +kernel
theorem d_EditMovesModel_isNumber_119 : decode b_EditMovesModel_isNumber 119 = .ok (.istore_n 1, 1) := by decide +kernel
theorem d_EditMovesModel_isNumber_120 : decode b_EditMovesModel_isNumber 120 = .ok (.aload_n 0, 1) := by decide +kernel
theorem d_EditMovesModel_isNumber_121 : decode b_EditMovesModel_isNumber 121 = .ok (.iload_n 1, 1) := by decide +kernel
theorem d_EditMovesModel_isNumber_122 : decode b_EditMovesModel_isNumber 122 = .ok (.invokevirtual 78, 3) := by decide +kernel
theorem d_EditMovesModel_isNumber_125 : decode b_EditMovesModel_isNumber 125 = .ok (.sipush 202, 3) := by decide +kernel
theorem d_EditMovesModel_isNumber_128 : decode b_EditMovesModel_isNumber 128 = .ok (.if_icmp .ne 19, 3) := by decide +kernel
theorem d_EditMovesModel_isNumber_131 : decode b_EditMovesModel_isNumber 131 = .ok (.aload_n 0, 1) := by decide +kernel
theorem d_EditMovesModel_isNumber_132 : decode b_EditMovesModel_isNumber 132 = .ok (.iload_n 1, 1) := by decide +kernel
theorem d_EditMovesModel_isNumber_133 : decode b_EditMovesModel_isNumber 133 = .ok (.sipush 202, 3) := by decide +kernel
theorem d_EditMovesModel_isNumber_136 : decode b_EditMovesModel_isNumber 136 = .ok (.invokevirtual 93, 3) := by decide +kernel
theorem d_EditMovesModel_isNumber_139 : decode b_EditMovesModel_isNumber 139 = .ok (.iconst 1, 1) := by decide +kernel
theorem d_EditMovesModel_isNumber_140 : decode b_EditMovesModel_isNumber 140 = .ok (.if_icmp .ne 7, 3) := by decide +kernel
theorem d_EditMovesModel_isNumber_143 : decode b_EditMovesModel_isNumber 143 = .ok (.iconst 1, 1) := by decide +kernel
theorem d_EditMovesModel_isNumber_144 : decode b_EditMovesModel_isNumber 144 = .ok (.goto 4, 3) := by decide +kernel
theorem d_EditMovesModel_isNumber_147 : decode b_EditMovesModel_isNumber 147 = .ok (.iconst 0, 1) := by decide +kernel
theorem d_EditMovesModel_isNumber_148 : decode b_EditMovesModel_isNumber 148 = .ok (.istore_n 3, 1) := by decide +kernel
theorem d_EditMovesModel_isNumber_149 : decode b_EditMovesModel_isNumber 149 = .ok (.iload_n 3, 1) := by decide +kernel
theorem d_EditMovesModel_isNumber_150 : decode b_EditMovesModel_isNumber 150 = .ok (.ifCond .eq 12, 3) := by decide +kernel
theorem d_EditMovesModel_isNumber_153 : decode b_EditMovesModel_isNumber 153 = .ok (.aload_n 0, 1) := by decide +kernel
theorem d_EditMovesModel_isNumber_154 : decode b_EditMovesModel_isNumber 154 = .ok (.iload_n 1, 1) := by decide +kernel
theorem d_EditMovesModel_isNumber_155 : decode b_EditMovesModel_isNumber 155 = .ok (.iconst 1, 1) := by decide +kernel
theorem d_EditMovesModel_isNumber_156 : decode b_EditMovesModel_isNumber 156 = .ok (.invokevirtual 97, 3) := by decide +kernel
theorem d_EditMovesModel_isNumber_159 : decode b_EditMovesModel_isNumber 159 = .ok (.goto 4, 3) := by decide +kernel
theorem d_EditMovesModel_isNumber_162 : decode b_EditMovesModel_isNumber 162 = .ok (.iload_n 1, 1) := by decide +kernel
theorem d_EditMovesModel_isNumber_163 : decode b_EditMovesModel_isNumber 163 = .ok (.istore_n 1, 1) := by decide +kernel
theorem d_EditMovesModel_isNumber_164 : decode b_EditMovesModel_isNumber 164 = .ok (.aload_n 0, 1) := by decide +kernel
theorem d_EditMovesModel_isNumber_165 : decode b_EditMovesModel_isNumber 165 = .ok (.iload_n 1, 1) := by decide +kernel
theorem d_EditMovesModel_isNumber_166 : decode b_EditMovesModel_isNumber 166 = .ok (.invokevirtual 78, 3) := by decide +kernel
theorem d_EditMovesModel_isNumber_169 : decode b_EditMovesModel_isNumber 169 = .ok (.istore 4, 2) := by decide +kernel
theorem d_EditMovesModel_isNumber_171 : decode b_EditMovesModel_isNumber 171 = .ok (.iload 4, 2) := by decide +kernel
theorem d_EditMovesModel_isNumber_173 : decode b_EditMovesModel_isNumber 173 = .ok (.invokestatic 90, 3) := by decide +kernel
theorem d_EditMovesModel_isNumber_176 : decode b_EditMovesModel_isNumber 176 = .ok (.ifCond .eq 18, 3) := by decide +kernel
theorem d_EditMovesModel_isNumber_179 : decode b_EditMovesModel_isNumber 179 = .ok (.iload_n 2, 1) := by decide +kernel
theorem d_EditMovesModel_isNumber_180 : decode b_EditMovesModel_isNumber 180 = .ok (.ifCond .ne 14, 3) := by decide +kernel
theorem d_EditMovesModel_isNumber_183 : decode b_EditMovesModel_isNumber 183 = .ok (.aload_n 0, 1) := by decide +kernel
theorem d_EditMovesModel_isNumber_184 : decode b_EditMovesModel_isNumber 184 = .ok (.iload_n 1, 1) := by decide +kernel
theorem d_EditMovesModel_isNumber_185 : decode b_EditMovesModel_isNumber 185 = .ok (.iload 4, 2) := by decide +kernel
theorem d_EditMovesModel_isNumber_187 : decode b_EditMovesModel_isNumber 187 = .ok (.invokevirtual 93, 3) := by decide +kernel
theorem d_EditMovesModel_isNumber_190 : decode b_EditMovesModel_isNumber 190 = .ok (.iconst 1, 1) := by decide +kernel
theorem d_EditMovesModel_isNumber_191 : decode b_EditMovesModel_isNumber 191 = .ok (.if_icmp .gt 26, 3) := by decide +kernel
theorem d_EditMovesModel_isNumber_194 : decode b_EditMovesModel_isNumber 194 = .ok (.iload 4, 2) := by decide +kernel
theorem d_EditMovesModel_isNumber_196 : decode b_EditMovesModel_isNumber 196 = .ok (.sipush 202, 3) := by decide +kernel
theorem d_EditMovesModel_isNumber_199 : decode b_EditMovesModel_isNumber 199 = .ok (.if_icmp .ne 22, 3) := by decide +kernel
theorem d_EditMovesModel_isNumber_202 : decode b_EditMovesModel_isNumber 202 = .ok (.iload_n 3, 1) := by decide +kernel
theorem d_EditMovesModel_isNumber_203 : decode b_EditMovesModel_isNumber 203 = .ok (.ifCond .ne 18, 3) := by decide +kernel
theorem d_EditMovesModel_isNumber_206 : decode b_EditMovesModel_isNumber 206 = .ok (.aload_n 0, 1) := by decide +kernel
theorem d_EditMovesModel_isNumber_207 : decode b_EditMovesModel_isNumber 207 = .ok (.iload_n 1, 1) := by decide +kernel
theorem d_EditMovesModel_isNumber_208 : decode b_EditMovesModel_isNumber 208 = .ok (.iload 4, 2) := by decide +kernel
theorem d_EditMovesModel_isNumber_210 : decode b_EditMovesModel_isNumber 210 = .ok (.invokevirtual 93, 3) := by decide +kernel
theorem d_EditMovesModel_isNumber_213 : decode b_EditMovesModel_isNumber 213 = .ok (.iconst 1, 1) := by decide +kernel
theorem d_EditMovesModel_isNumber_214 : decode b_EditMovesModel_isNumber 214 = .ok (.if_icmp .le 7, 3) := by decide +kernel
theorem d_EditMovesModel_isNumber_217 : decode b_EditMovesModel_isNumber 217 = .ok (.iconst 1, 1) := by decide +kernel
theorem d_EditMovesModel_isNumber_218 : decode b_EditMovesModel_isNumber 218 = .ok (.goto 4, 3) := by decide +kernel
theorem d_EditMovesModel_isNumber_221 : decode b_EditMovesModel_isNumber 221 = .ok (.iconst 0, 1) := by decide +kernel
theorem d_EditMovesModel_isNumber_222 : decode b_EditMovesModel_isNumber 222 = .ok (.istore 5, 2) := by decide +kernel
theorem d_EditMovesModel_isNumber_224 : decode b_EditMovesModel_isNumber 224 = .ok (.iload 4, 2) := by decide +kernel
theorem d_EditMovesModel_isNumber_226 : decode b_EditMovesModel_isNumber 226 = .ok (.bipush 90, 2) := by decide +kernel
theorem d_EditMovesModel_isNumber_228 : decode b_EditMovesModel_isNumber 228 = .ok (.if_icmp .eq 15, 3) := by decide +kernel
theorem d_EditMovesModel_isNumber_231 : decode b_EditMovesModel_isNumber 231 = .ok (.iload 4, 2) := by decide +kernel
theorem d_EditMovesModel_isNumber_233 : decode b_EditMovesModel_isNumber 233 = .ok (.bipush 42, 2) := by decide +kernel
theorem d_EditMovesModel_isNumber_235 : decode b_EditMovesModel_isNumber 235 = .ok (.if_icmp .eq 8, 3) := by decide +kernel
theorem d_EditMovesModel_isNumber_238 : decode b_EditMovesModel_isNumber 238 = .ok (.iload 5, 2) := by decide +kernel
theorem d_EditMovesModel_isNumber_240 : decode b_EditMovesModel_isNumber 240 = .ok (.ifCond .eq 35, 3) := by decide +kernel
theorem d_EditMovesModel_isNumber_243 : decode b_EditMovesModel_isNumber 243 = .ok (.aload_n 0, 1) := by decide +kernel
theorem d_EditMovesModel_isNumber_244 : decode b_EditMovesModel_isNumber 244 = .ok (.iload 4, 2) := by decide +kernel
theorem d_EditMovesModel_isNumber_246 : decode b_EditMovesModel_isNumber 246 = .ok (.putfield 84, 3) := by decide +kernel
theorem d_EditMovesModel_isNumber_249 : decode b_EditMovesModel_isNumber 249 = .ok (.aload_n 0, 1) := by decide +kernel
theorem d_EditMovesModel_isNumber_250 : decode b_EditMovesModel_isNumber 250 = .ok (.iload_n 1, 1) := by decide +kernel
theorem d_EditMovesModel_isNumber_251 : decode b_EditMovesModel_isNumber 251 = .ok (.putfield 100, 3) := by decide +kernel
theorem d_EditMovesModel_isNumber_254 : decode b_EditMovesModel_isNumber 254 = .ok (.aload_n 0, 1) := by decide +kernel
theorem d_EditMovesModel_isNumber_255 : decode b_EditMovesModel_isNumber 255 = .ok (.aload_n 0, 1) := by decide +kernel
theorem d_EditMovesModel_isNumber_256 : decode b_EditMovesModel_isNumber 256 = .ok (.iload_n 1, 1) := by decide +kernel
theorem d_EditMovesModel_isNumber_257 : decode b_EditMovesModel_isNumber 257 = .ok (.iload 4, 2) := by decide +kernel
theorem d_EditMovesModel_isNumber_259 : decode b_EditMovesModel_isNumber 259 = .ok (.invokevirtual 93, 3) := by decide +kernel
theorem d_EditMovesModel_isNumber_262 : decode b_EditMovesModel_isNumber 262 = .ok (.putfield 87, 3) := by decide +kernel
theorem d_EditMovesModel_isNumber_265 : decode b_EditMovesModel_isNumber 265 = .ok (.aload_n 0, 1) := by decide +kernel
theorem d_EditMovesModel_isNumber_266 : decode b_EditMovesModel_isNumber 266 = .ok (.iload_n 1, 1) := by decide +kernel
theorem d_EditMovesModel_isNumber_267 : decode b_EditMovesModel_isNumber 267 = .ok (.aload_n 0, 1) := by decide +kernel
theorem d_EditMovesModel_isNumber_268 : decode b_EditMovesModel_isNumber 268 = .ok (.getfield 87, 3) := by decide +kernel
theorem d_EditMovesModel_isNumber_271 : decode b_EditMovesModel_isNumber 271 = .ok (.invokevirtual 97, 3) := by decide +kernel
theorem d_EditMovesModel_isNumber_274 : decode b_EditMovesModel_isNumber 274 = .ok (.istore_n 1, 1) := by decide +kernel
theorem d_EditMovesModel_isNumber_275 : decode b_EditMovesModel_isNumber 275 = .ok (.aload_n 0, 1) := by decide +kernel
theorem d_EditMovesModel_isNumber_276 : decode b_EditMovesModel_isNumber 276 = .ok (.iload_n 1, 1) := by decide +kernel
theorem d_EditMovesModel_isNumber_277 : decode b_EditMovesModel_isNumber 277 = .ok (.bipush 57, 2) := by decide +kernel
theorem d_EditMovesModel_isNumber_279 : decode b_EditMovesModel_isNumber 279 = .ok (.invokevirtual 93, 3) := by decide +kernel
theorem d_EditMovesModel_isNumber_282 : decode b_EditMovesModel_isNumber 282 = .ok (.istore 6, 2) := by decide +kernel
theorem d_EditMovesModel_isNumber_284 : decode b_EditMovesModel_isNumber 284 = .ok (.aload_n 0, 1) := by decide +kernel
theorem d_EditMovesModel_isNumber_285 : decode b_EditMovesModel_isNumber 285 = .ok (.iload_n 1, 1) := by decide +kernel
theorem d_EditMovesModel_isNumber_286 : decode b_EditMovesModel_isNumber 286 = .ok (.iload 6, 2) := by decide +kernel
theorem d_EditMovesModel_isNumber_288 : decode b_EditMovesModel_isNumber 288 = .ok (.invokevirtual 97, 3) := by decide +kernel
theorem d_EditMovesModel_isNumber_291 : decode b_EditMovesModel_isNumber 291 = .ok (.istore_n 1, 1) := by decide +kernel
theorem d_EditMovesModel_isNumber_292 : decode b_EditMovesModel_isNumber 292 = .ok (.iconst 0, 1) := by decide +kernel
theorem d_EditMovesModel_isNumber_293 : decode b_EditMovesModel_isNumber 293 = .ok (.istore 7, 2) := by decide +kernel
theorem d_EditMovesModel_isNumber_295 : decode b_EditMovesModel_isNumber 295 = .ok (.iconst 0, 1) := by decide +kernel
theorem d_EditMovesModel_isNumber_296 : decode b_EditMovesModel_isNumber 296 = .ok (.istore 8, 2) := by decide +kernel
theorem d_EditMovesModel_isNumber_298 : decode b_EditMovesModel_isNumber 298 = .ok (.aload_n 0, 1) := by decide +kernel
theorem d_EditMovesModel_isNumber_299 : decode b_EditMovesModel_isNumber 299 = .ok (.iload_n 1, 1) := by decide +kernel
theorem d_EditMovesModel_isNumber_300 : decode b_EditMovesModel_isNumber 300 = .ok (.invokevirtual 78, 3) := by decide +kernel
theorem d_EditMovesModel_isNumber_303 : decode b_EditMovesModel_isNumber 303 = .ok (.bipush 46, 2) := by decide +kernel
theorem d_EditMovesModel_isNumber_305 : decode b_EditMovesModel_isNumber 305 = .ok (.if_icmp .eq 13, 3) := by decide +kernel
theorem d_EditMovesModel_isNumber_308 : decode b_EditMovesModel_isNumber 308 = .ok (.aload_n 0, 1) := by decide +kernel
theorem d_EditMovesModel_isNumber_309 : decode b_EditMovesModel_isNumber 309 = .ok (.iload_n 1, 1) := by decide +kernel
theorem d_EditMovesModel_isNumber_310 : decode b_EditMovesModel_isNumber 310 = .ok (.invokevirtual 78, 3) := by decide +kernel
theorem d_EditMovesModel_isNumber_313 : decode b_EditMovesModel_isNumber 313 = .ok (.bipush 86, 2) := by decide +kernel
theorem d_EditMovesModel_isNumber_315 : decode b_EditMovesModel_isNumber 315 = .ok (.if_icmp .ne 62, 3) := by decide +kernel
theorem d_EditMovesModel_isNumber_318 : decode b_EditMovesModel_isNumber 318 = .ok (.aload_n 0, 1) := by decide +kernel
theorem d_EditMovesModel_isNumber_319 : decode b_EditMovesModel_isNumber 319 = .ok (.iload_n 1, 1) := by decide +kernel
theorem d_EditMovesModel_isNumber_320 : decode b_EditMovesModel_isNumber 320 = .ok (.iconst 1, 1) := by decide +kernel
theorem d_EditMovesModel_isNumber_321 : decode b_EditMovesModel_isNumber 321 = .ok (.invokevirtual 97, 3) := by decide +kernel
theorem d_EditMovesModel_isNumber_324 : decode b_EditMovesModel_isNumber 324 = .ok (.istore_n 1, 1) := by decide +kernel
theorem d_EditMovesModel_isNumber_325 : decode b_EditMovesModel_isNumber 325 = .ok (.aload_n 0, 1) := by decide +kernel
theorem d_EditMovesModel_isNumber_326 : decode b_EditMovesModel_isNumber 326 = .ok (.getfield 84, 3) := by decide +kernel
theorem d_EditMovesModel_isNumber_329 : decode b_EditMovesModel_isNumber 329 = .ok (.ifCond .eq 20, 3) := by decide +kernel
theorem d_EditMovesModel_isNumber_332 : decode b_EditMovesModel_isNumber 332 = .ok (.iload 6, 2) := by decide +kernel
theorem d_EditMovesModel_isNumber_334 : decode b_EditMovesModel_isNumber 334 = .ok (.ifCond .ne 15, 3) := by decide +kernel
theorem d_EditMovesModel_isNumber_337 : decode b_EditMovesModel_isNumber 337 = .ok (.aload_n 0, 1) := by decide +kernel
theorem d_EditMovesModel_isNumber_338 : decode b_EditMovesModel_isNumber 338 = .ok (.iload_n 1, 1) := by decide +kernel
theorem d_EditMovesModel_isNumber_339 : decode b_EditMovesModel_isNumber 339 = .ok (.aload_n 0, 1) := by decide +kernel
theorem d_EditMovesModel_isNumber_340 : decode b_EditMovesModel_isNumber 340 = .ok (.getfield 84, 3) := by decide +kernel
theorem d_EditMovesModel_isNumber_343 : decode b_EditMovesModel_isNumber 343 = .ok (.invokevirtual 93, 3) := by decide +kernel
theorem d_EditMovesModel_isNumber_346 : decode b_EditMovesModel_isNumber 346 = .ok (.goto 4, 3) := by decide +kernel
theorem d_EditMovesModel_isNumber_349 : decode b_EditMovesModel_isNumber 349 = .ok (.iconst 0, 1) := by decide +kernel
theorem d_EditMovesModel_isNumber_350 : decode b_EditMovesModel_isNumber 350 = .ok (.istore 8, 2) := by decide +kernel
theorem d_EditMovesModel_isNumber_352 : decode b_EditMovesModel_isNumber 352 = .ok (.aload_n 0, 1) := by decide +kernel
theorem d_EditMovesModel_isNumber_353 : decode b_EditMovesModel_isNumber 353 = .ok (.iload_n 1, 1) := by decide +kernel
theorem d_EditMovesModel_isNumber_354 : decode b_EditMovesModel_isNumber 354 = .ok (.iload 8, 2) := by decide +kernel
theorem d_EditMovesModel_isNumber_356 : decode b_EditMovesModel_isNumber 356 = .ok (.invokevirtual 97, 3) := by decide +kernel
theorem d_EditMovesModel_isNumber_359 : decode b_EditMovesModel_isNumber 359 = .ok (.istore_n 1, 1) := by decide +kernel
theorem d_EditMovesModel_isNumber_360 : decode b_EditMovesModel_isNumber 360 = .ok (.aload_n 0, 1) := by decide +kernel
theorem d_EditMovesModel_isNumber_361 : decode b_EditMovesModel_isNumber 361 = .ok (.iload_n 1, 1) := by decide +kernel
theorem d_EditMovesModel_isNumber_362 : decode b_EditMovesModel_isNumber 362 = .ok (.bipush 57, 2) := by decide +kernel
theorem d_EditMovesModel_isNumber_364 : decode b_EditMovesModel_isNumber 364 = .ok (.invokevirtual 93, 3) := by decide +kernel
theorem d_EditMovesModel_isNumber_367 : decode b_EditMovesModel_isNumber 367 = .ok (.istore 7, 2) := by decide +kernel
theorem d_EditMovesModel_isNumber_369 : decode b_EditMovesModel_isNumber 369 = .ok (.aload_n 0, 1) := by decide +kernel
theorem d_EditMovesModel_isNumber_370 : decode b_EditMovesModel_isNumber 370 = .ok (.iload_n 1, 1) := by decide +kernel
theorem d_EditMovesModel_isNumber_371 : decode b_EditMovesModel_isNumber 371 = .ok (.iload 7, 2) := by decide +kernel
theorem d_EditMovesModel_isNumber_373 : decode b_EditMovesModel_isNumber 373 = .ok (.invokevirtual 97, 3) := by decide +kernel
theorem d_EditMovesModel_isNumber_376 : decode b_EditMovesModel_isNumber 376 = .ok (.istore_n 1, 1) := by decide +kernel
theorem d_EditMovesModel_isNumber_377 : decode b_EditMovesModel_isNumber 377 = .ok (.iload_n 2, 1) := by decide +kernel
theorem d_EditMovesModel_isNumber_378 : decode b_EditMovesModel_isNumber 378 = .ok (.ifCond .ne 18, 3) := by decide +kernel
theorem d_EditMovesModel_isNumber_381 : decode b_EditMovesModel_isNumber 381 = .ok (.iload 5, 2) := by decide +kernel
theorem d_EditMovesModel_isNumber_383 : decode b_EditMovesModel_isNumber 383 = .ok (.ifCond .eq 17, 3) := by decide +kernel
theorem d_EditMovesModel_isNumber_386 : decode b_EditMovesModel_isNumber 386 = .ok (.aload_n 0, 1) := by decide +kernel
theorem d_EditMovesModel_isNumber_387 : decode b_EditMovesModel_isNumber 387 = .ok (.getfield 84, 3) := by decide +kernel
theorem d_EditMovesModel_isNumber_390 : decode b_EditMovesModel_isNumber 390 = .ok (.invokestatic 90, 3) := by decide +kernel
theorem d_EditMovesModel_isNumber_393 : decode b_EditMovesModel_isNumber 393 = .ok (.ifCond .eq 7, 3) := by decide +kernel
theorem d_EditMovesModel_isNumber_396 : decode b_EditMovesModel_isNumber 396 = .ok (.iconst 1, 1) := by decide +kernel
theorem d_EditMovesModel_isNumber_397 : decode b_EditMovesModel_isNumber 397 = .ok (.goto 4, 3) := by decide +kernel
theorem d_EditMovesModel_isNumber_400 : decode b_EditMovesModel_isNumber 400 = .ok (.iconst 0, 1) := by decide +kernel
theorem d_EditMovesModel_isNumber_401 : decode b_EditMovesModel_isNumber 401 = .ok (.istore 9, 2) := by decide +kernel
theorem d_EditMovesModel_isNumber_403 : decode b_EditMovesModel_isNumber 403 = .ok (.aload_n 0, 1) := by decide +kernel
theorem d_EditMovesModel_isNumber_404 : decode b_EditMovesModel_isNumber 404 = .ok (.iload_n 1, 1) := by decide +kernel
theorem d_EditMovesModel_isNumber_405 : decode b_EditMovesModel_isNumber 405 = .ok (.invokevirtual 78, 3) := by decide +kernel
theorem d_EditMovesModel_isNumber_408 : decode b_EditMovesModel_isNumber 408 = .ok (.invokestatic 90, 3) := by decide +kernel
theorem d_EditMovesModel_isNumber_411 : decode b_EditMovesModel_isNumber 411 = .ok (.ifCond .ne 25, 3) := by decide +kernel
theorem d_EditMovesModel_isNumber_414 : decode b_EditMovesModel_isNumber 414 = .ok (.aload_n 0, 1) := by decide +kernel
theorem d_EditMovesModel_isNumber_415 : decode b_EditMovesModel_isNumber 415 = .ok (.iload_n 1, 1) := by decide +kernel
theorem d_EditMovesModel_isNumber_416 : decode b_EditMovesModel_isNumber 416 = .ok (.invokevirtual 78, 3) := by decide +kernel
theorem d_EditMovesModel_isNumber_419 : decode b_EditMovesModel_isNumber 419 = .ok (.sipush 200, 3) := by decide +kernel
theorem d_EditMovesModel_isNumber_422 : decode b_EditMovesModel_isNumber 422 = .ok (.if_icmp .eq 14, 3) := by decide +kernel
theorem d_EditMovesModel_isNumber_425 : decode b_EditMovesModel_isNumber 425 = .ok (.aload_n 0, 1) := by decide +kernel
theorem d_EditMovesModel_isNumber_426 : decode b_EditMovesModel_isNumber 426 = .ok (.iload_n 1, 1) := by decide +kernel
theorem d_EditMovesModel_isNumber_427 : decode b_EditMovesModel_isNumber 427 = .ok (.invokevirtual 78, 3) := by decide +kernel
theorem d_EditMovesModel_isNumber_430 : decode b_EditMovesModel_isNumber 430 = .ok (.sipush 201, 3) := by decide +kernel
theorem d_EditMovesModel_isNumber_433 : decode b_EditMovesModel_isNumber 433 = .ok (.if_icmp .ne 7, 3) := by decide +kernel
theorem d_EditMovesModel_isNumber_436 : decode b_EditMovesModel_isNumber 436 = .ok (.iconst 1, 1) := by decide +kernel
theorem d_EditMovesModel_isNumber_437 : decode b_EditMovesModel_isNumber 437 = .ok (.goto 4, 3) := by decide +kernel
theorem d_EditMovesModel_isNumber_440 : decode b_EditMovesModel_isNumber 440 = .ok (.iconst 0, 1) := by decide +kernel
theorem d_EditMovesModel_isNumber_441 : decode b_EditMovesModel_isNumber 441 = .ok (.istore 10, 2) := by decide +kernel
theorem d_EditMovesModel_isNumber_443 : decode b_EditMovesModel_isNumber 443 = .ok (.iload 10, 2) := by decide +kernel
theorem d_EditMovesModel_isNumber_445 : decode b_EditMovesModel_isNumber 445 = .ok (.ifCond .eq 17, 3) := by decide +kernel
theorem d_EditMovesModel_isNumber_448 : decode b_EditMovesModel_isNumber 448 = .ok (.iload 9, 2) := by decide +kernel
theorem d_EditMovesModel_isNumber_450 : decode b_EditMovesModel_isNumber 450 = .ok (.ifCond .ne 12, 3) := by decide +kernel
theorem d_EditMovesModel_isNumber_453 : decode b_EditMovesModel_isNumber 453 = .ok (.aload_n 0, 1) := by decide +kernel
theorem d_EditMovesModel_isNumber_454 : decode b_EditMovesModel_isNumber 454 = .ok (.iload_n 1, 1) := by decide +kernel
theorem d_EditMovesModel_isNumber_455 : decode b_EditMovesModel_isNumber 455 = .ok (.iconst 1, 1) := by decide +kernel
theorem d_EditMovesModel_isNumber_456 : decode b_EditMovesModel_isNumber 456 = .ok (.invokevirtual 97, 3) := by decide +kernel
theorem d_EditMovesModel_isNumber_459 : decode b_EditMovesModel_isNumber 459 = .ok (.goto 4, 3) := by decide +kernel
theorem d_EditMovesModel_isNumber_462 : decode b_EditMovesModel_isNumber 462 = .ok (.iload_n 1, 1) := by decide +kernel
theorem d_EditMovesModel_isNumber_463 : decode b_EditMovesModel_isNumber 463 = .ok (.istore_n 1, 1) := by decide +kernel
theorem d_EditMovesModel_isNumber_464 : decode b_EditMovesModel_isNumber 464 = .ok (.aload_n 0, 1) := by decide +kernel
theorem d_EditMovesModel_isNumber_465 : decode b_EditMovesModel_isNumber 465 = .ok (.aload_n 0, 1) := by decide +kernel
theorem d_EditMovesModel_isNumber_466 : decode b_EditMovesModel_isNumber 466 = .ok (.getfield 87, 3) := by decide +kernel
theorem d_EditMovesModel_isNumber_469 : decode b_EditMovesModel_isNumber 469 = .ok (.iload 5, 2) := by decide +kernel
theorem d_EditMovesModel_isNumber_471 : decode b_EditMovesModel_isNumber 471 = .ok (.ifCond .eq 7, 3) := by decide +kernel
theorem d_EditMovesModel_isNumber_474 : decode b_EditMovesModel_isNumber 474 = .ok (.iconst 1, 1) := by decide +kernel
theorem d_EditMovesModel_isNumber_475 : decode b_EditMovesModel_isNumber 475 = .ok (.goto 4, 3) := by decide +kernel
theorem d_EditMovesModel_isNumber_478 : decode b_EditMovesModel_isNumber 478 = .ok (.iconst 0, 1) := by decide +kernel
theorem d_EditMovesModel_isNumber_479 : decode b_EditMovesModel_isNumber 479 = .ok (.isub, 1) := by decide +kernel
theorem d_EditMovesModel_isNumber_480 : decode b_EditMovesModel_isNumber 480 = .ok (.iload 6, 2) := by decide +kernel
theorem d_EditMovesModel_isNumber_482 : decode b_EditMovesModel_isNumber 482 = .ok (.iadd, 1) := by decide +kernel
theorem d_EditMovesModel_isNumber_483 : decode b_EditMovesModel_isNumber 483 = .ok (.putfield 103, 3) := by decide +kernel
theorem d_EditMovesModel_isNumber_486 : decode b_EditMovesModel_isNumber 486 = .ok (.aload_n 0, 1) := by decide +kernel
theorem d_EditMovesModel_isNumber_487 : decode b_EditMovesModel_isNumber 487 = .ok (.iload 8, 2) := by decide +kernel
theorem d_EditMovesModel_isNumber_489 : decode b_EditMovesModel_isNumber 489 = .ok (.iload 7, 2) := by decide +kernel
theorem d_EditMovesModel_isNumber_491 : decode b_EditMovesModel_isNumber 491 = .ok (.iadd, 1) := by decide +kernel
theorem d_EditMovesModel_isNumber_492 : decode b_EditMovesModel_isNumber 492 = .ok (.putfield 106, 3) := by decide +kernel
theorem d_EditMovesModel_isNumber_495 : decode b_EditMovesModel_isNumber 495 = .ok (.aload_n 0, 1) := by decide +kernel
theorem d_EditMovesModel_isNumber_496 : decode b_EditMovesModel_isNumber 496 = .ok (.iload 6, 2) := by decide +kernel
theorem d_EditMovesModel_isNumber_498 : decode b_EditMovesModel_isNumber 498 = .ok (.iload 7, 2) := by decide +kernel
theorem d_EditMovesModel_isNumber_500 : decode b_EditMovesModel_isNumber 500 = .ok (.iadd, 1) := by decide +kernel
theorem d_EditMovesModel_isNumber_501 : decode b_EditMovesModel_isNumber 501 = .ok (.putfield 109, 3) := by decide +kernel
theorem d_EditMovesModel_isNumber_504 : decode b_EditMovesModel_isNumber 504 = .ok (.iload_n 1, 1) := by decide +kernel
theorem d_EditMovesModel_isNumber_505 : decode b_EditMovesModel_isNumber 505 = .ok (.aload_n 0, 1) := by decide +kernel
theorem d_EditMovesModel_isNumber_506 : decode b_EditMovesModel_isNumber 506 = .ok (.getfield 65, 3) := by decide +kernel
theorem d_EditMovesModel_isNumber_509 : decode b_EditMovesModel_isNumber 509 = .ok (.if_icmp .ne 33, 3) := by decide +kernel
theorem d_EditMovesModel_isNumber_512 : decode b_EditMovesModel_isNumber 512 = .ok (.aload_n 0, 1) := by decide +kernel
theorem d_EditMovesModel_isNumber_513 : decode b_EditMovesModel_isNumber 513 = .ok (.getfield 103, 3) := by decide +kernel
theorem d_EditMovesModel_isNumber_516 : decode b_EditMovesModel_isNumber 516 = .ok (.aload_n 0, 1) := by decide +kernel
theorem d_EditMovesModel_isNumber_517 : decode b_EditMovesModel_isNumber 517 = .ok (.getfield 106, 3) := by decide +kernel
theorem d_EditMovesModel_isNumber_520 : decode b_EditMovesModel_isNumber 520 = .ok (.iadd, 1) := by decide +kernel
theorem d_EditMovesModel_isNumber_521 : decode b_EditMovesModel_isNumber 521 = .ok (.ifCond .le 21, 3) := by decide +kernel
theorem d_EditMovesModel_isNumber_524 : decode b_EditMovesModel_isNumber 524 = .ok (.aload_n 0, 1) := by decide +kernel
theorem d_EditMovesModel_isNumber_525 : decode b_EditMovesModel_isNumber 525 = .ok (.getfield 103, 3) := by decide +kernel
theorem d_EditMovesModel_isNumber_528 : decode b_EditMovesModel_isNumber 528 = .ok (.aload_n 0, 1) := by decide +kernel
theorem d_EditMovesModel_isNumber_529 : decode b_EditMovesModel_isNumber 529 = .ok (.getfield 106, 3) := by decide +kernel
theorem d_EditMovesModel_isNumber_532 : decode b_EditMovesModel_isNumber 532 = .ok (.iadd, 1) := by decide +kernel
theorem d_EditMovesModel_isNumber_533 : decode b_EditMovesModel_isNumber 533 = .ok (.bipush 19, 2) := by decide +kernel
theorem d_EditMovesModel_isNumber_535 : decode b_EditMovesModel_isNumber 535 = .ok (.if_icmp .ge 7, 3) := by decide +kernel
theorem d_EditMovesModel_isNumber_538 : decode b_EditMovesModel_isNumber 538 = .ok (.iconst 1, 1) := by decide +kernel
theorem d_EditMovesModel_isNumber_539 : decode b_EditMovesModel_isNumber 539 = .ok (.goto 4, 3) := by decide +kernel
theorem d_EditMovesModel_isNumber_542 : decode b_EditMovesModel_isNumber 542 = .ok (.iconst 0, 1) := by decide +kernel
theorem d_EditMovesModel_isNumber_543 : decode b_EditMovesModel_isNumber 543 = .ok (.ireturn, 1) := by decide +kernel
abbrev b_EditMovesModel_look : ByteArray := prog_8_method_21_code
abbrev y_EditMovesModel_look : MethodName := ⟨"EditMovesModel", "look", "()V"⟩
def ws_EditMovesModel_look : List Cond := .code y_EditMovesModel_look b_EditMovesModel_look 2 none :: wAll
theorem d_EditMovesModel_look_0 : decode b_EditMovesModel_look 0 = .ok (.aload_n 0, 1) := by decide +kernel
theorem d_EditMovesModel_look_1 : decode b_EditMovesModel_look 1 = .ok (.invokevirtual 112, 3) := by decide +kernel
theorem d_EditMovesModel_look_4 : decode b_EditMovesModel_look 4 = .ok (.ifCond .eq 14, 3) := by decide +kernel
theorem d_EditMovesModel_look_7 : decode b_EditMovesModel_look 7 = .ok (.aload_n 0, 1) := by decide +kernel
theorem d_EditMovesModel_look_8 : decode b_EditMovesModel_look 8 = .ok (.getfield 65, 3) := by decide +kernel
theorem d_EditMovesModel_look_11 : decode b_EditMovesModel_look 11 = .ok (.ifCond .le 7, 3) := by decide +kernel
theorem d_EditMovesModel_look_14 : decode b_EditMovesModel_look 14 = .ok (.iconst 1, 1) := by decide +kernel
theorem d_EditMovesModel_look_15 : decode b_EditMovesModel_look 15 = .ok (.goto 4, 3) := by decide +kernel
theorem d_EditMovesModel_look_18 : decode b_EditMovesModel_look 18 = .ok (.iconst 0, 1) := by decide +kernel
theorem d_EditMovesModel_look_19 : decode b_EditMovesModel_look 19 = .ok (.istore_n 1, 1) := by decide +kernel
theorem d_EditMovesModel_look_20 : decode b_EditMovesModel_look 20 = .ok (.aload_n 0, 1) := by decide +kernel
theorem d_EditMovesModel_look_21 : decode b_EditMovesModel_look 21 = .ok (.iload_n 1, 1) := by decide +kernel
theorem d_EditMovesModel_look_22 : decode b_EditMovesModel_look 22 = .ok (.ifCond .ne 7, 3) := by decide +kernel
theorem d_EditMovesModel_look_25 : decode b_EditMovesModel_look 25 = .ok (.iconst 0, 1) := by decide +kernel
theorem d_EditMovesModel_look_26 : decode b_EditMovesModel_look 26 = .ok (.goto 26, 3) := by decide +kernel
theorem d_EditMovesModel_look_29 : decode b_EditMovesModel_look 29 = .ok (.aload_n 0, 1) := by decide +kernel
theorem d_EditMovesModel_look_30 : decode b_EditMovesModel_look 30 = .ok (.invokevirtual 116, 3) := by decide +kernel
theorem d_EditMovesModel_look_33 : decode b_EditMovesModel_look 33 = .ok (.ifCond .eq 7, 3) := by decide +kernel
theorem d_EditMovesModel_look_36 : decode b_EditMovesModel_look 36 = .ok (.iconst 2, 1) := by decide +kernel
theorem d_EditMovesModel_look_37 : decode b_EditMovesModel_look 37 = .ok (.goto 15, 3) := by decide +kernel
theorem d_EditMovesModel_look_40 : decode b_EditMovesModel_look 40 = .ok (.aload_n 0, 1) := by decide +kernel
theorem d_EditMovesModel_look_41 : decode b_EditMovesModel_look 41 = .ok (.invokevirtual 119, 3) := by decide +kernel
theorem d_EditMovesModel_look_44 : decode b_EditMovesModel_look 44 = .ok (.ifCond .eq 7, 3) := by decide +kernel
theorem d_EditMovesModel_look_47 : decode b_EditMovesModel_look 47 = .ok (.iconst 1, 1) := by decide +kernel
theorem d_EditMovesModel_look_48 : decode b_EditMovesModel_look 48 = .ok (.goto 4, 3) := by decide +kernel
theorem d_EditMovesModel_look_51 : decode b_EditMovesModel_look 51 = .ok (.iconst 0, 1) := by decide +kernel
theorem d_EditMovesModel_look_52 : decode b_EditMovesModel_look 52 = .ok (.putfield 122, 3) := by decide +kernel
theorem d_EditMovesModel_look_55 : decode b_EditMovesModel_look 55 = .ok (.return_, 1) := by decide +kernel
abbrev b_EditMovesModel_wide : ByteArray := prog_8_method_22_code
abbrev y_EditMovesModel_wide : MethodName := ⟨"EditMovesModel", "wide", "(I)I"⟩
def ws_EditMovesModel_wide : List Cond := .code y_EditMovesModel_wide b_EditMovesModel_wide 1 (some .int) :: wAll
theorem d_EditMovesModel_wide_0 : decode b_EditMovesModel_wide 0 = .ok (.iload_n 0, 1) := by decide +kernel
theorem d_EditMovesModel_wide_1 : decode b_EditMovesModel_wide 1 = .ok (.bipush 86, 2) := by decide +kernel
theorem d_EditMovesModel_wide_3 : decode b_EditMovesModel_wide 3 = .ok (.if_icmp .ne 7, 3) := by decide +kernel
theorem d_EditMovesModel_wide_6 : decode b_EditMovesModel_wide 6 = .ok (.iconst 0, 1) := by decide +kernel
theorem d_EditMovesModel_wide_7 : decode b_EditMovesModel_wide 7 = .ok (.goto 22, 3) := by decide +kernel
theorem d_EditMovesModel_wide_10 : decode b_EditMovesModel_wide 10 = .ok (.iload_n 0, 1) := by decide +kernel
theorem d_EditMovesModel_wide_11 : decode b_EditMovesModel_wide 11 = .ok (.sipush 200, 3) := by decide +kernel
theorem d_EditMovesModel_wide_14 : decode b_EditMovesModel_wide 14 = .ok (.if_icmp .eq 10, 3) := by decide +kernel
theorem d_EditMovesModel_wide_17 : decode b_EditMovesModel_wide 17 = .ok (.iload_n 0, 1) := by decide +kernel
theorem d_EditMovesModel_wide_18 : decode b_EditMovesModel_wide 18 = .ok (.sipush 201, 3) := by decide +kernel
theorem d_EditMovesModel_wide_21 : decode b_EditMovesModel_wide 21 = .ok (.if_icmp .ne 7, 3) := by decide +kernel
theorem d_EditMovesModel_wide_24 : decode b_EditMovesModel_wide 24 = .ok (.iconst 2, 1) := by decide +kernel
theorem d_EditMovesModel_wide_25 : decode b_EditMovesModel_wide 25 = .ok (.goto 4, 3) := by decide +kernel
theorem d_EditMovesModel_wide_28 : decode b_EditMovesModel_wide 28 = .ok (.iconst 1, 1) := by decide +kernel
theorem d_EditMovesModel_wide_29 : decode b_EditMovesModel_wide 29 = .ok (.ireturn, 1) := by decide +kernel
abbrev b_EditMovesModel_width : ByteArray := prog_8_method_23_code
abbrev y_EditMovesModel_width : MethodName := ⟨"EditMovesModel", "width", "()I"⟩
def ws_EditMovesModel_width : List Cond := .code y_EditMovesModel_width b_EditMovesModel_width 3 (some .int) :: wAll
theorem d_EditMovesModel_width_0 : decode b_EditMovesModel_width 0 = .ok (.iconst 0, 1) := by decide +kernel
theorem d_EditMovesModel_width_1 : decode b_EditMovesModel_width 1 = .ok (.istore_n 1, 1) := by decide +kernel
theorem d_EditMovesModel_width_2 : decode b_EditMovesModel_width 2 = .ok (.iconst 0, 1) := by decide +kernel
theorem d_EditMovesModel_width_3 : decode b_EditMovesModel_width 3 = .ok (.istore_n 2, 1) := by decide +kernel
theorem d_EditMovesModel_width_4 : decode b_EditMovesModel_width 4 = .ok (.iload_n 2, 1) := by decide +kernel
theorem d_EditMovesModel_width_5 : decode b_EditMovesModel_width 5 = .ok (.aload_n 0, 1) := by decide +kernel
theorem d_EditMovesModel_width_6 : decode b_EditMovesModel_width 6 = .ok (.getfield 65, 3) := by decide +kernel
theorem d_EditMovesModel_width_9 : decode b_EditMovesModel_width 9 = .ok (.if_icmp .ge 21, 3) := by decide +kernel
theorem d_EditMovesModel_width_12 : decode b_EditMovesModel_width 12 = .ok (.iload_n 1, 1) := by decide +kernel
theorem d_EditMovesModel_width_13 : decode b_EditMovesModel_width 13 = .ok (.aload_n 0, 1) := by decide +kernel
theorem d_EditMovesModel_width_14 : decode b_EditMovesModel_width 14 = .ok (.getfield 20, 3) := by decide +kernel
theorem d_EditMovesModel_width_17 : decode b_EditMovesModel_width 17 = .ok (.iload_n 2, 1) := by decide +kernel
theorem d_EditMovesModel_width_18 : decode b_EditMovesModel_width 18 = .ok (.iaload, 1) := by decide +kernel
theorem d_EditMovesModel_width_19 : decode b_EditMovesModel_width 19 = .ok (.invokestatic 125, 3) := by decide +kernel
theorem d_EditMovesModel_width_22 : decode b_EditMovesModel_width 22 = .ok (.iadd, 1) := by decide +kernel
theorem d_EditMovesModel_width_23 : decode b_EditMovesModel_width 23 = .ok (.istore_n 1, 1) := by decide +kernel
theorem d_EditMovesModel_width_24 : decode b_EditMovesModel_width 24 = .ok (.iinc 2 1, 3) := by decide +kernel
theorem d_EditMovesModel_width_27 : decode b_EditMovesModel_width 27 = .ok (.goto (-23), 3) := by decide +kernel
theorem d_EditMovesModel_width_30 : decode b_EditMovesModel_width 30 = .ok (.iload_n 1, 1) := by decide +kernel
theorem d_EditMovesModel_width_31 : decode b_EditMovesModel_width 31 = .ok (.ireturn, 1) := by decide +kernel
abbrev b_EditMovesModel_told : ByteArray := prog_8_method_24_code
abbrev y_EditMovesModel_told : MethodName := ⟨"EditMovesModel", "told", "(I)I"⟩
def ws_EditMovesModel_told : List Cond := .code y_EditMovesModel_told b_EditMovesModel_told 2 (some .int) :: wAll
theorem d_EditMovesModel_told_0 : decode b_EditMovesModel_told 0 = .ok (.aload_n 0, 1) := by decide +kernel
theorem d_EditMovesModel_told_1 : decode b_EditMovesModel_told 1 = .ok (.invokevirtual 128, 3) := by decide +kernel
theorem d_EditMovesModel_told_4 : decode b_EditMovesModel_told 4 = .ok (.iload_n 1, 1) := by decide +kernel
theorem d_EditMovesModel_told_5 : decode b_EditMovesModel_told 5 = .ok (.ifCond .lt 8, 3) := by decide +kernel
theorem d_EditMovesModel_told_8 : decode b_EditMovesModel_told 8 = .ok (.iload_n 1, 1) := by decide +kernel
theorem d_EditMovesModel_told_9 : decode b_EditMovesModel_told 9 = .ok (.iconst 4, 1) := by decide +kernel
theorem d_EditMovesModel_told_10 : decode b_EditMovesModel_told 10 = .ok (.if_icmp .le 5, 3) := by decide +kernel
theorem d_EditMovesModel_told_13 : decode b_EditMovesModel_told 13 = .ok (.iconst (-1), 1) := by decide +kernel
theorem d_EditMovesModel_told_14 : decode b_EditMovesModel_told 14 = .ok (.ireturn, 1) := by decide +kernel
theorem d_EditMovesModel_told_15 : decode b_EditMovesModel_told 15 = .ok (.aload_n 0, 1) := by decide +kernel
theorem d_EditMovesModel_told_16 : decode b_EditMovesModel_told 16 = .ok (.getfield 122, 3) := by decide +kernel
theorem d_EditMovesModel_told_19 : decode b_EditMovesModel_told 19 = .ok (.ifCond .ne 5, 3) := by decide +kernel
theorem d_EditMovesModel_told_22 : decode b_EditMovesModel_told 22 = .ok (.iconst 0, 1) := by decide +kernel
theorem d_EditMovesModel_told_23 : decode b_EditMovesModel_told 23 = .ok (.ireturn, 1) := by decide +kernel
theorem d_EditMovesModel_told_24 : decode b_EditMovesModel_told 24 = .ok (.iload_n 1, 1) := by decide +kernel
theorem d_EditMovesModel_told_25 : decode b_EditMovesModel_told 25 = .ok (.ifCond .ne 8, 3) := by decide +kernel
theorem d_EditMovesModel_told_28 : decode b_EditMovesModel_told 28 = .ok (.aload_n 0, 1) := by decide +kernel
theorem d_EditMovesModel_told_29 : decode b_EditMovesModel_told 29 = .ok (.getfield 122, 3) := by decide +kernel
theorem d_EditMovesModel_told_32 : decode b_EditMovesModel_told 32 = .ok (.ireturn, 1) := by decide +kernel
theorem d_EditMovesModel_told_33 : decode b_EditMovesModel_told 33 = .ok (.iload_n 1, 1) := by decide +kernel
theorem d_EditMovesModel_told_34 : decode b_EditMovesModel_told 34 = .ok (.iconst 3, 1) := by decide +kernel
theorem d_EditMovesModel_told_35 : decode b_EditMovesModel_told 35 = .ok (.if_icmp .ne 8, 3) := by decide +kernel
theorem d_EditMovesModel_told_38 : decode b_EditMovesModel_told 38 = .ok (.aload_n 0, 1) := by decide +kernel
theorem d_EditMovesModel_told_39 : decode b_EditMovesModel_told 39 = .ok (.invokevirtual 131, 3) := by decide +kernel
theorem d_EditMovesModel_told_42 : decode b_EditMovesModel_told 42 = .ok (.ireturn, 1) := by decide +kernel
theorem d_EditMovesModel_told_43 : decode b_EditMovesModel_told 43 = .ok (.aload_n 0, 1) := by decide +kernel
theorem d_EditMovesModel_told_44 : decode b_EditMovesModel_told 44 = .ok (.getfield 122, 3) := by decide +kernel
theorem d_EditMovesModel_told_47 : decode b_EditMovesModel_told 47 = .ok (.iconst 2, 1) := by decide +kernel
theorem d_EditMovesModel_told_48 : decode b_EditMovesModel_told 48 = .ok (.if_icmp .ne 5, 3) := by decide +kernel
theorem d_EditMovesModel_told_51 : decode b_EditMovesModel_told 51 = .ok (.iconst 0, 1) := by decide +kernel
theorem d_EditMovesModel_told_52 : decode b_EditMovesModel_told 52 = .ok (.ireturn, 1) := by decide +kernel
theorem d_EditMovesModel_told_53 : decode b_EditMovesModel_told 53 = .ok (.iload_n 1, 1) := by decide +kernel
theorem d_EditMovesModel_told_54 : decode b_EditMovesModel_told 54 = .ok (.iconst 1, 1) := by decide +kernel
theorem d_EditMovesModel_told_55 : decode b_EditMovesModel_told 55 = .ok (.if_icmp .ne 10, 3) := by decide +kernel
theorem d_EditMovesModel_told_58 : decode b_EditMovesModel_told 58 = .ok (.aload_n 0, 1) := by decide +kernel
theorem d_EditMovesModel_told_59 : decode b_EditMovesModel_told 59 = .ok (.getfield 103, 3) := by decide +kernel
theorem d_EditMovesModel_told_62 : decode b_EditMovesModel_told 62 = .ok (.goto 27, 3) := by decide +kernel
theorem d_EditMovesModel_told_65 : decode b_EditMovesModel_told 65 = .ok (.iload_n 1, 1) := by decide +kernel
theorem d_EditMovesModel_told_66 : decode b_EditMovesModel_told 66 = .ok (.iconst 2, 1) := by decide +kernel
theorem d_EditMovesModel_told_67 : decode b_EditMovesModel_told 67 = .ok (.if_icmp .ne 10, 3) := by decide +kernel
theorem d_EditMovesModel_told_70 : decode b_EditMovesModel_told 70 = .ok (.aload_n 0, 1) := by decide +kernel
theorem d_EditMovesModel_told_71 : decode b_EditMovesModel_told 71 = .ok (.getfield 106, 3) := by decide +kernel
theorem d_EditMovesModel_told_74 : decode b_EditMovesModel_told 74 = .ok (.goto 15, 3) := by decide +kernel
theorem d_EditMovesModel_told_77 : decode b_EditMovesModel_told 77 = .ok (.aload_n 0, 1) := by decide +kernel
theorem d_EditMovesModel_told_78 : decode b_EditMovesModel_told 78 = .ok (.getfield 109, 3) := by decide +kernel
theorem d_EditMovesModel_told_81 : decode b_EditMovesModel_told 81 = .ok (.ifCond .ne 7, 3) := by decide +kernel
theorem d_EditMovesModel_told_84 : decode b_EditMovesModel_told 84 = .ok (.iconst 1, 1) := by decide +kernel
theorem d_EditMovesModel_told_85 : decode b_EditMovesModel_told 85 = .ok (.goto 4, 3) := by decide +kernel
theorem d_EditMovesModel_told_88 : decode b_EditMovesModel_told 88 = .ok (.iconst 0, 1) := by decide +kernel
theorem d_EditMovesModel_told_89 : decode b_EditMovesModel_told 89 = .ok (.ireturn, 1) := by decide +kernel
abbrev b_EditMovesModel_digits : ByteArray := prog_8_method_25_code
abbrev y_EditMovesModel_digits : MethodName := ⟨"EditMovesModel", "digits", "()I"⟩
def ws_EditMovesModel_digits : List Cond := .code y_EditMovesModel_digits b_EditMovesModel_digits 5 (some .int) :: wAll
theorem d_EditMovesModel_digits_0 : decode b_EditMovesModel_digits 0 = .ok (.aload_n 0, 1) := by decide +kernel
theorem d_EditMovesModel_digits_1 : decode b_EditMovesModel_digits 1 = .ok (.getfield 41, 3) := by decide +kernel
theorem d_EditMovesModel_digits_4 : decode b_EditMovesModel_digits 4 = .ok (.lstore_n 1, 1) := by decide +kernel
theorem d_EditMovesModel_digits_5 : decode b_EditMovesModel_digits 5 = .ok (.iconst 0, 1) := by decide +kernel
theorem d_EditMovesModel_digits_6 : decode b_EditMovesModel_digits 6 = .ok (.istore_n 3, 1) := by decide +kernel
theorem d_EditMovesModel_digits_7 : decode b_EditMovesModel_digits 7 = .ok (.iload_n 3, 1) := by decide +kernel
theorem d_EditMovesModel_digits_8 : decode b_EditMovesModel_digits 8 = .ok (.bipush 40, 2) := by decide +kernel
theorem d_EditMovesModel_digits_10 : decode b_EditMovesModel_digits 10 = .ok (.if_icmp .ge 42, 3) := by decide +kernel
theorem d_EditMovesModel_digits_13 : decode b_EditMovesModel_digits 13 = .ok (.lload_n 1, 1) := by decide +kernel
theorem d_EditMovesModel_digits_14 : decode b_EditMovesModel_digits 14 = .ok (.ldc2_w 135, 3) := by decide +kernel
theorem d_EditMovesModel_digits_17 : decode b_EditMovesModel_digits 17 = .ok (.lrem, 1) := by decide +kernel
theorem d_EditMovesModel_digits_18 : decode b_EditMovesModel_digits 18 = .ok (.l2i, 1) := by decide +kernel
theorem d_EditMovesModel_digits_19 : decode b_EditMovesModel_digits 19 = .ok (.istore 4, 2) := by decide +kernel
theorem d_EditMovesModel_digits_21 : decode b_EditMovesModel_digits 21 = .ok (.aload_n 0, 1) := by decide +kernel
theorem d_EditMovesModel_digits_22 : decode b_EditMovesModel_digits 22 = .ok (.getfield 32, 3) := by decide +kernel
theorem d_EditMovesModel_digits_25 : decode b_EditMovesModel_digits 25 = .ok (.iload_n 3, 1) := by decide +kernel
theorem d_EditMovesModel_digits_26 : decode b_EditMovesModel_digits 26 = .ok (.iload 4, 2) := by decide +kernel
theorem d_EditMovesModel_digits_28 : decode b_EditMovesModel_digits 28 = .ok (.ifCond .ge 9, 3) := by decide +kernel
theorem d_EditMovesModel_digits_31 : decode b_EditMovesModel_digits 31 = .ok (.iload 4, 2) := by decide +kernel
theorem d_EditMovesModel_digits_33 : decode b_EditMovesModel_digits 33 = .ok (.ineg, 1) := by decide +kernel
theorem d_EditMovesModel_digits_34 : decode b_EditMovesModel_digits 34 = .ok (.goto 5, 3) := by decide +kernel
theorem d_EditMovesModel_digits_37 : decode b_EditMovesModel_digits 37 = .ok (.iload 4, 2) := by decide +kernel
theorem d_EditMovesModel_digits_39 : decode b_EditMovesModel_digits 39 = .ok (.iastore, 1) := by decide +kernel
theorem d_EditMovesModel_digits_40 : decode b_EditMovesModel_digits 40 = .ok (.lload_n 1, 1) := by decide +kernel
theorem d_EditMovesModel_digits_41 : decode b_EditMovesModel_digits 41 = .ok (.ldc2_w 135, 3) := by decide +kernel
theorem d_EditMovesModel_digits_44 : decode b_EditMovesModel_digits 44 = .ok (.ldiv, 1) := by decide +kernel
theorem d_EditMovesModel_digits_45 : decode b_EditMovesModel_digits 45 = .ok (.lstore_n 1, 1) := by decide +kernel
theorem d_EditMovesModel_digits_46 : decode b_EditMovesModel_digits 46 = .ok (.iinc 3 1, 3) := by decide +kernel
theorem d_EditMovesModel_digits_49 : decode b_EditMovesModel_digits 49 = .ok (.goto (-42), 3) := by decide +kernel
theorem d_EditMovesModel_digits_52 : decode b_EditMovesModel_digits 52 = .ok (.iconst 0, 1) := by decide +kernel
theorem d_EditMovesModel_digits_53 : decode b_EditMovesModel_digits 53 = .ok (.istore_n 3, 1) := by decide +kernel
theorem d_EditMovesModel_digits_54 : decode b_EditMovesModel_digits 54 = .ok (.iload_n 3, 1) := by decide +kernel
theorem d_EditMovesModel_digits_55 : decode b_EditMovesModel_digits 55 = .ok (.aload_n 0, 1) := by decide +kernel
theorem d_EditMovesModel_digits_56 : decode b_EditMovesModel_digits 56 = .ok (.getfield 103, 3) := by decide +kernel
theorem d_EditMovesModel_digits_59 : decode b_EditMovesModel_digits 59 = .ok (.if_icmp .ge 33, 3) := by decide +kernel
theorem d_EditMovesModel_digits_62 : decode b_EditMovesModel_digits 62 = .ok (.aload_n 0, 1) := by decide +kernel
theorem d_EditMovesModel_digits_63 : decode b_EditMovesModel_digits 63 = .ok (.getfield 29, 3) := by decide +kernel
theorem d_EditMovesModel_digits_66 : decode b_EditMovesModel_digits 66 = .ok (.iload_n 3, 1) := by decide +kernel
theorem d_EditMovesModel_digits_67 : decode b_EditMovesModel_digits 67 = .ok (.aload_n 0, 1) := by decide +kernel
theorem d_EditMovesModel_digits_68 : decode b_EditMovesModel_digits 68 = .ok (.getfield 32, 3) := by decide +kernel
theorem d_EditMovesModel_digits_71 : decode b_EditMovesModel_digits 71 = .ok (.aload_n 0, 1) := by decide +kernel
theorem d_EditMovesModel_digits_72 : decode b_EditMovesModel_digits 72 = .ok (.getfield 45, 3) := by decide +kernel
theorem d_EditMovesModel_digits_75 : decode b_EditMovesModel_digits 75 = .ok (.aload_n 0, 1) := by decide +kernel
theorem d_EditMovesModel_digits_76 : decode b_EditMovesModel_digits 76 = .ok (.getfield 103, 3) := by decide +kernel
theorem d_EditMovesModel_digits_79 : decode b_EditMovesModel_digits 79 = .ok (.iadd, 1) := by decide +kernel
theorem d_EditMovesModel_digits_80 : decode b_EditMovesModel_digits 80 = .ok (.iconst 1, 1) := by decide +kernel
theorem d_EditMovesModel_digits_81 : decode b_EditMovesModel_digits 81 = .ok (.isub, 1) := by decide +kernel
theorem d_EditMovesModel_digits_82 : decode b_EditMovesModel_digits 82 = .ok (.iload_n 3, 1) := by decide +kernel
theorem d_EditMovesModel_digits_83 : decode b_EditMovesModel_digits 83 = .ok (.isub, 1) := by decide +kernel
theorem d_EditMovesModel_digits_84 : decode b_EditMovesModel_digits 84 = .ok (.iaload, 1) := by decide +kernel
theorem d_EditMovesModel_digits_85 : decode b_EditMovesModel_digits 85 = .ok (.iastore, 1) := by decide +kernel
theorem d_EditMovesModel_digits_86 : decode b_EditMovesModel_digits 86 = .ok (.iinc 3 1, 3) := by decide +kernel
theorem d_EditMovesModel_digits_89 : decode b_EditMovesModel_digits 89 = .ok (.goto (-35), 3) := by decide +kernel
theorem d_EditMovesModel_digits_92 : decode b_EditMovesModel_digits 92 = .ok (.iconst 0, 1) := by decide +kernel
theorem d_EditMovesModel_digits_93 : decode b_EditMovesModel_digits 93 = .ok (.istore_n 3, 1) := by decide +kernel
theorem d_EditMovesModel_digits_94 : decode b_EditMovesModel_digits 94 = .ok (.iload_n 3, 1) := by decide +kernel
theorem d_EditMovesModel_digits_95 : decode b_EditMovesModel_digits 95 = .ok (.aload_n 0, 1) := by decide +kernel
theorem d_EditMovesModel_digits_96 : decode b_EditMovesModel_digits 96 = .ok (.getfield 106, 3) := by decide +kernel
theorem d_EditMovesModel_digits_99 : decode b_EditMovesModel_digits 99 = .ok (.if_icmp .ge 48, 3) := by decide +kernel
theorem d_EditMovesModel_digits_102 : decode b_EditMovesModel_digits 102 = .ok (.aload_n 0, 1) := by decide +kernel
theorem d_EditMovesModel_digits_103 : decode b_EditMovesModel_digits 103 = .ok (.getfield 29, 3) := by decide +kernel
theorem d_EditMovesModel_digits_106 : decode b_EditMovesModel_digits 106 = .ok (.aload_n 0, 1) := by decide +kernel
theorem d_EditMovesModel_digits_107 : decode b_EditMovesModel_digits 107 = .ok (.getfield 103, 3) := by decide +kernel
theorem d_EditMovesModel_digits_110 : decode b_EditMovesModel_digits 110 = .ok (.iload_n 3, 1) := by decide +kernel
theorem d_EditMovesModel_digits_111 : decode b_EditMovesModel_digits 111 = .ok (.iadd, 1) := by decide +kernel
theorem d_EditMovesModel_digits_112 : decode b_EditMovesModel_digits 112 = .ok (.aload_n 0, 1) := by decide +kernel
theorem d_EditMovesModel_digits_113 : decode b_EditMovesModel_digits 113 = .ok (.getfield 45, 3) := by decide +kernel
theorem d_EditMovesModel_digits_116 : decode b_EditMovesModel_digits 116 = .ok (.iconst 1, 1) := by decide +kernel
theorem d_EditMovesModel_digits_117 : decode b_EditMovesModel_digits 117 = .ok (.isub, 1) := by decide +kernel
theorem d_EditMovesModel_digits_118 : decode b_EditMovesModel_digits 118 = .ok (.iload_n 3, 1) := by decide +kernel
theorem d_EditMovesModel_digits_119 : decode b_EditMovesModel_digits 119 = .ok (.isub, 1) := by decide +kernel
theorem d_EditMovesModel_digits_120 : decode b_EditMovesModel_digits 120 = .ok (.ifCond .ge 7, 3) := by decide +kernel
theorem d_EditMovesModel_digits_123 : decode b_EditMovesModel_digits 123 = .ok (.iconst 0, 1) := by decide +kernel
theorem d_EditMovesModel_digits_124 : decode b_EditMovesModel_digits 124 = .ok (.goto 16, 3) := by decide +kernel
theorem d_EditMovesModel_digits_127 : decode b_EditMovesModel_digits 127 = .ok (.aload_n 0, 1) := by decide +kernel
theorem d_EditMovesModel_digits_128 : decode b_EditMovesModel_digits 128 = .ok (.getfield 32, 3) := by decide +kernel
theorem d_EditMovesModel_digits_131 : decode b_EditMovesModel_digits 131 = .ok (.aload_n 0, 1) := by decide +kernel
theorem d_EditMovesModel_digits_132 : decode b_EditMovesModel_digits 132 = .ok (.getfield 45, 3) := by decide +kernel
theorem d_EditMovesModel_digits_135 : decode b_EditMovesModel_digits 135 = .ok (.iconst 1, 1) := by decide +kernel
theorem d_EditMovesModel_digits_136 : decode b_EditMovesModel_digits 136 = .ok (.isub, 1) := by decide +kernel
theorem d_EditMovesModel_digits_137 : decode b_EditMovesModel_digits 137 = .ok (.iload_n 3, 1) := by decide +kernel
theorem d_EditMovesModel_digits_138 : decode b_EditMovesModel_digits 138 = .ok (.isub, 1) := by decide +kernel
theorem d_EditMovesModel_digits_139 : decode b_EditMovesModel_digits 139 = .ok (.iaload, 1) := by decide +kernel
theorem d_EditMovesModel_digits_140 : decode b_EditMovesModel_digits 140 = .ok (.iastore, 1) := by decide +kernel
theorem d_EditMovesModel_digits_141 : decode b_EditMovesModel_digits 141 = .ok (.iinc 3 1, 3) := by decide +kernel
theorem d_EditMovesModel_digits_144 : decode b_EditMovesModel_digits 144 = .ok (.goto (-50), 3) := by decide +kernel
theorem d_EditMovesModel_digits_147 : decode b_EditMovesModel_digits 147 = .ok (.iconst 0, 1) := by decide +kernel
theorem d_EditMovesModel_digits_148 : decode b_EditMovesModel_digits 148 = .ok (.istore_n 3, 1) := by decide +kernel
theorem d_EditMovesModel_digits_149 : decode b_EditMovesModel_digits 149 = .ok (.aload_n 0, 1) := by decide +kernel
theorem d_EditMovesModel_digits_150 : decode b_EditMovesModel_digits 150 = .ok (.iconst 0, 1) := by decide +kernel
theorem d_EditMovesModel_digits_151 : decode b_EditMovesModel_digits 151 = .ok (.putfield 137, 3) := by decide +kernel
theorem d_EditMovesModel_digits_154 : decode b_EditMovesModel_digits 154 = .ok (.iconst 0, 1) := by decide +kernel
theorem d_EditMovesModel_digits_155 : decode b_EditMovesModel_digits 155 = .ok (.istore 4, 2) := by decide +kernel
theorem d_EditMovesModel_digits_157 : decode b_EditMovesModel_digits 157 = .ok (.iload 4, 2) := by decide +kernel
theorem d_EditMovesModel_digits_159 : decode b_EditMovesModel_digits 159 = .ok (.bipush 40, 2) := by decide +kernel
theorem d_EditMovesModel_digits_161 : decode b_EditMovesModel_digits 161 = .ok (.if_icmp .ge 86, 3) := by decide +kernel
theorem d_EditMovesModel_digits_164 : decode b_EditMovesModel_digits 164 = .ok (.aload_n 0, 1) := by decide +kernel
theorem d_EditMovesModel_digits_165 : decode b_EditMovesModel_digits 165 = .ok (.getfield 32, 3) := by decide +kernel
theorem d_EditMovesModel_digits_168 : decode b_EditMovesModel_digits 168 = .ok (.iload 4, 2) := by decide +kernel
theorem d_EditMovesModel_digits_170 : decode b_EditMovesModel_digits 170 = .ok (.iaload, 1) := by decide +kernel
theorem d_EditMovesModel_digits_171 : decode b_EditMovesModel_digits 171 = .ok (.ifCond .ne 6, 3) := by decide +kernel
theorem d_EditMovesModel_digits_174 : decode b_EditMovesModel_digits 174 = .ok (.goto 67, 3) := by decide +kernel
theorem d_EditMovesModel_digits_177 : decode b_EditMovesModel_digits 177 = .ok (.iload_n 3, 1) := by decide +kernel
theorem d_EditMovesModel_digits_178 : decode b_EditMovesModel_digits 178 = .ok (.iload 4, 2) := by decide +kernel
theorem d_EditMovesModel_digits_180 : decode b_EditMovesModel_digits 180 = .ok (.aload_n 0, 1) := by decide +kernel
theorem d_EditMovesModel_digits_181 : decode b_EditMovesModel_digits 181 = .ok (.getfield 45, 3) := by decide +kernel
theorem d_EditMovesModel_digits_184 : decode b_EditMovesModel_digits 184 = .ok (.aload_n 0, 1) := by decide +kernel
theorem d_EditMovesModel_digits_185 : decode b_EditMovesModel_digits 185 = .ok (.getfield 103, 3) := by decide +kernel
theorem d_EditMovesModel_digits_188 : decode b_EditMovesModel_digits 188 = .ok (.iadd, 1) := by decide +kernel
theorem d_EditMovesModel_digits_189 : decode b_EditMovesModel_digits 189 = .ok (.if_icmp .lt 7, 3) := by decide +kernel
theorem d_EditMovesModel_digits_192 : decode b_EditMovesModel_digits 192 = .ok (.iconst 1, 1) := by decide +kernel
theorem d_EditMovesModel_digits_193 : decode b_EditMovesModel_digits 193 = .ok (.goto 4, 3) := by decide +kernel
theorem d_EditMovesModel_digits_196 : decode b_EditMovesModel_digits 196 = .ok (.iconst 0, 1) := by decide +kernel
theorem d_EditMovesModel_digits_197 : decode b_EditMovesModel_digits 197 = .ok (.iadd, 1) := by decide +kernel
theorem d_EditMovesModel_digits_198 : decode b_EditMovesModel_digits 198 = .ok (.istore_n 3, 1) := by decide +kernel
theorem d_EditMovesModel_digits_199 : decode b_EditMovesModel_digits 199 = .ok (.aload_n 0, 1) := by decide +kernel
theorem d_EditMovesModel_digits_200 : decode b_EditMovesModel_digits 200 = .ok (.dup, 1) := by decide +kernel
theorem d_EditMovesModel_digits_201 : decode b_EditMovesModel_digits 201 = .ok (.getfield 137, 3) := by decide +kernel
theorem d_EditMovesModel_digits_204 : decode b_EditMovesModel_digits 204 = .ok (.iload 4, 2) := by decide +kernel
theorem d_EditMovesModel_digits_206 : decode b_EditMovesModel_digits 206 = .ok (.aload_n 0, 1) := by decide +kernel
theorem d_EditMovesModel_digits_207 : decode b_EditMovesModel_digits 207 = .ok (.getfield 45, 3) := by decide +kernel
theorem d_EditMovesModel_digits_210 : decode b_EditMovesModel_digits 210 = .ok (.aload_n 0, 1) := by decide +kernel
theorem d_EditMovesModel_digits_211 : decode b_EditMovesModel_digits 211 = .ok (.getfield 103, 3) := by decide +kernel
theorem d_EditMovesModel_digits_214 : decode b_EditMovesModel_digits 214 = .ok (.iadd, 1) := by decide +kernel
theorem d_EditMovesModel_digits_215 : decode b_EditMovesModel_digits 215 = .ok (.if_icmp .ge 17, 3) := by decide +kernel
theorem d_EditMovesModel_digits_218 : decode b_EditMovesModel_digits 218 = .ok (.iload 4, 2) := by decide +kernel
theorem d_EditMovesModel_digits_220 : decode b_EditMovesModel_digits 220 = .ok (.aload_n 0, 1) := by decide +kernel
theorem d_EditMovesModel_digits_221 : decode b_EditMovesModel_digits 221 = .ok (.getfield 45, 3) := by decide +kernel
theorem d_EditMovesModel_digits_224 : decode b_EditMovesModel_digits 224 = .ok (.aload_n 0, 1) := by decide +kernel
theorem d_EditMovesModel_digits_225 : decode b_EditMovesModel_digits 225 = .ok (.getfield 106, 3) := by decide +kernel
theorem d_EditMovesModel_digits_228 : decode b_EditMovesModel_digits 228 = .ok (.isub, 1) := by decide +kernel
theorem d_EditMovesModel_digits_229 : decode b_EditMovesModel_digits 229 = .ok (.if_icmp .ge 7, 3) := by decide +kernel
theorem d_EditMovesModel_digits_232 : decode b_EditMovesModel_digits 232 = .ok (.iconst 1, 1) := by decide +kernel
theorem d_EditMovesModel_digits_233 : decode b_EditMovesModel_digits 233 = .ok (.goto 4, 3) := by decide +kernel
theorem d_EditMovesModel_digits_236 : decode b_EditMovesModel_digits 236 = .ok (.iconst 0, 1) := by decide +kernel
theorem d_EditMovesModel_digits_237 : decode b_EditMovesModel_digits 237 = .ok (.iadd, 1) := by decide +kernel
theorem d_EditMovesModel_digits_238 : decode b_EditMovesModel_digits 238 = .ok (.putfield 137, 3) := by decide +kernel
theorem d_EditMovesModel_digits_241 : decode b_EditMovesModel_digits 241 = .ok (.iinc 4 1, 3) := by decide +kernel
theorem d_EditMovesModel_digits_244 : decode b_EditMovesModel_digits 244 = .ok (.goto (-87), 3) := by decide +kernel
theorem d_EditMovesModel_digits_247 : decode b_EditMovesModel_digits 247 = .ok (.iload_n 3, 1) := by decide +kernel
theorem d_EditMovesModel_digits_248 : decode b_EditMovesModel_digits 248 = .ok (.ireturn, 1) := by decide +kernel
abbrev b_EditMovesModel_isZero : ByteArray := prog_8_method_26_code
abbrev y_EditMovesModel_isZero : MethodName := ⟨"EditMovesModel", "isZero", "()Z"⟩
def ws_EditMovesModel_isZero : List Cond := .code y_EditMovesModel_isZero b_EditMovesModel_isZero 3 (some .boolean) :: wAll
theorem d_EditMovesModel_isZero_0 : decode b_EditMovesModel_isZero 0 = .ok (.iconst 1, 1) := by decide +kernel
theorem d_EditMovesModel_isZero_1 : decode b_EditMovesModel_isZero 1 = .ok (.istore_n 1, 1) := by decide +kernel
theorem d_EditMovesModel_isZero_2 : decode b_EditMovesModel_isZero 2 = .ok (.iconst 0, 1) := by decide +kernel
theorem d_EditMovesModel_isZero_3 : decode b_EditMovesModel_isZero 3 = .ok (.istore_n 2, 1) := by decide +kernel
theorem d_EditMovesModel_isZero_4 : decode b_EditMovesModel_isZero 4 = .ok (.iload_n 2, 1) := by decide +kernel
theorem d_EditMovesModel_isZero_5 : decode b_EditMovesModel_isZero 5 = .ok (.aload_n 0, 1) := by decide +kernel
theorem d_EditMovesModel_isZero_6 : decode b_EditMovesModel_isZero 6 = .ok (.getfield 103, 3) := by decide +kernel
theorem d_EditMovesModel_isZero_9 : decode b_EditMovesModel_isZero 9 = .ok (.aload_n 0, 1) := by decide +kernel
theorem d_EditMovesModel_isZero_10 : decode b_EditMovesModel_isZero 10 = .ok (.getfield 106, 3) := by decide +kernel
theorem d_EditMovesModel_isZero_13 : decode b_EditMovesModel_isZero 13 = .ok (.iadd, 1) := by decide +kernel
theorem d_EditMovesModel_isZero_14 : decode b_EditMovesModel_isZero 14 = .ok (.if_icmp .ge 28, 3) := by decide +kernel
theorem d_EditMovesModel_isZero_17 : decode b_EditMovesModel_isZero 17 = .ok (.iload_n 1, 1) := by decide +kernel
theorem d_EditMovesModel_isZero_18 : decode b_EditMovesModel_isZero 18 = .ok (.ifCond .eq 16, 3) := by decide +kernel
theorem d_EditMovesModel_isZero_21 : decode b_EditMovesModel_isZero 21 = .ok (.aload_n 0, 1) := by decide +kernel
theorem d_EditMovesModel_isZero_22 : decode b_EditMovesModel_isZero 22 = .ok (.getfield 29, 3) := by decide +kernel
theorem d_EditMovesModel_isZero_25 : decode b_EditMovesModel_isZero 25 = .ok (.iload_n 2, 1) := by decide +kernel
theorem d_EditMovesModel_isZero_26 : decode b_EditMovesModel_isZero 26 = .ok (.iaload, 1) := by decide +kernel
theorem d_EditMovesModel_isZero_27 : decode b_EditMovesModel_isZero 27 = .ok (.ifCond .ne 7, 3) := by decide +kernel
theorem d_EditMovesModel_isZero_30 : decode b_EditMovesModel_isZero 30 = .ok (.iconst 1, 1) := by decide +kernel
theorem d_EditMovesModel_isZero_31 : decode b_EditMovesModel_isZero 31 = .ok (.goto 4, 3) := by decide +kernel
theorem d_EditMovesModel_isZero_34 : decode b_EditMovesModel_isZero 34 = .ok (.iconst 0, 1) := by decide +kernel
theorem d_EditMovesModel_isZero_35 : decode b_EditMovesModel_isZero 35 = .ok (.istore_n 1, 1) := by decide +kernel
theorem d_EditMovesModel_isZero_36 : decode b_EditMovesModel_isZero 36 = .ok (.iinc 2 1, 3) := by decide +kernel
theorem d_EditMovesModel_isZero_39 : decode b_EditMovesModel_isZero 39 = .ok (.goto (-35), 3) := by decide +kernel
theorem d_EditMovesModel_isZero_42 : decode b_EditMovesModel_isZero 42 = .ok (.iload_n 1, 1) := by decide +kernel
theorem d_EditMovesModel_isZero_43 : decode b_EditMovesModel_isZero 43 = .ok (.ireturn, 1) := by decide +kernel
abbrev b_EditMovesModel_put : ByteArray := prog_8_method_27_code
abbrev y_EditMovesModel_put : MethodName := ⟨"EditMovesModel", "put", "(I)V"⟩
def ws_EditMovesModel_put : List Cond := .code y_EditMovesModel_put b_EditMovesModel_put 2 none :: wAll
theorem d_EditMovesModel_put_0 : decode b_EditMovesModel_put 0 = .ok (.aload_n 0, 1) := by decide +kernel
theorem d_EditMovesModel_put_1 : decode b_EditMovesModel_put 1 = .ok (.getfield 23, 3) := by decide +kernel
theorem d_EditMovesModel_put_4 : decode b_EditMovesModel_put 4 = .ok (.aload_n 0, 1) := by decide +kernel
theorem d_EditMovesModel_put_5 : decode b_EditMovesModel_put 5 = .ok (.getfield 26, 3) := by decide +kernel
theorem d_EditMovesModel_put_8 : decode b_EditMovesModel_put 8 = .ok (.iload_n 1, 1) := by decide +kernel
theorem d_EditMovesModel_put_9 : decode b_EditMovesModel_put 9 = .ok (.iastore, 1) := by decide +kernel
theorem d_EditMovesModel_put_10 : decode b_EditMovesModel_put 10 = .ok (.aload_n 0, 1) := by decide +kernel
theorem d_EditMovesModel_put_11 : decode b_EditMovesModel_put 11 = .ok (.dup, 1) := by decide +kernel
theorem d_EditMovesModel_put_12 : decode b_EditMovesModel_put 12 = .ok (.getfield 26, 3) := by decide +kernel
theorem d_EditMovesModel_put_15 : decode b_EditMovesModel_put 15 = .ok (.iconst 1, 1) := by decide +kernel
theorem d_EditMovesModel_put_16 : decode b_EditMovesModel_put 16 = .ok (.iadd, 1) := by decide +kernel
theorem d_EditMovesModel_put_17 : decode b_EditMovesModel_put 17 = .ok (.putfield 26, 3) := by decide +kernel
theorem d_EditMovesModel_put_20 : decode b_EditMovesModel_put 20 = .ok (.return_, 1) := by decide +kernel
abbrev b_EditMovesModel_fill : ByteArray := prog_8_method_28_code
abbrev y_EditMovesModel_fill : MethodName := ⟨"EditMovesModel", "fill", "(I)V"⟩
def ws_EditMovesModel_fill : List Cond := .code y_EditMovesModel_fill b_EditMovesModel_fill 5 none :: wAll
theorem d_EditMovesModel_fill_0 : decode b_EditMovesModel_fill 0 = .ok (.iconst 0, 1) := by decide +kernel
theorem d_EditMovesModel_fill_1 : decode b_EditMovesModel_fill 1 = .ok (.istore_n 2, 1) := by decide +kernel
theorem d_EditMovesModel_fill_2 : decode b_EditMovesModel_fill 2 = .ok (.iload_n 2, 1) := by decide +kernel
theorem d_EditMovesModel_fill_3 : decode b_EditMovesModel_fill 3 = .ok (.aload_n 0, 1) := by decide +kernel
theorem d_EditMovesModel_fill_4 : decode b_EditMovesModel_fill 4 = .ok (.getfield 65, 3) := by decide +kernel
theorem d_EditMovesModel_fill_7 : decode b_EditMovesModel_fill 7 = .ok (.if_icmp .ge 88, 3) := by decide +kernel
theorem d_EditMovesModel_fill_10 : decode b_EditMovesModel_fill 10 = .ok (.iconst 0, 1) := by decide +kernel
theorem d_EditMovesModel_fill_11 : decode b_EditMovesModel_fill 11 = .ok (.istore_n 3, 1) := by decide +kernel
theorem d_EditMovesModel_fill_12 : decode b_EditMovesModel_fill 12 = .ok (.iload_n 3, 1) := by decide +kernel
theorem d_EditMovesModel_fill_13 : decode b_EditMovesModel_fill 13 = .ok (.aload_n 0, 1) := by decide +kernel
theorem d_EditMovesModel_fill_14 : decode b_EditMovesModel_fill 14 = .ok (.getfield 20, 3) := by decide +kernel
theorem d_EditMovesModel_fill_17 : decode b_EditMovesModel_fill 17 = .ok (.iload_n 2, 1) := by decide +kernel
theorem d_EditMovesModel_fill_18 : decode b_EditMovesModel_fill 18 = .ok (.iaload, 1) := by decide +kernel
theorem d_EditMovesModel_fill_19 : decode b_EditMovesModel_fill 19 = .ok (.invokestatic 125, 3) := by decide +kernel
theorem d_EditMovesModel_fill_22 : decode b_EditMovesModel_fill 22 = .ok (.if_icmp .ge 67, 3) := by decide +kernel
theorem d_EditMovesModel_fill_25 : decode b_EditMovesModel_fill 25 = .ok (.iload_n 1, 1) := by decide +kernel
theorem d_EditMovesModel_fill_26 : decode b_EditMovesModel_fill 26 = .ok (.bipush 42, 2) := by decide +kernel
theorem d_EditMovesModel_fill_28 : decode b_EditMovesModel_fill 28 = .ok (.if_icmp .ne 18, 3) := by decide +kernel
theorem d_EditMovesModel_fill_31 : decode b_EditMovesModel_fill 31 = .ok (.aload_n 0, 1) := by decide +kernel
theorem d_EditMovesModel_fill_32 : decode b_EditMovesModel_fill 32 = .ok (.getfield 20, 3) := by decide +kernel
theorem d_EditMovesModel_fill_35 : decode b_EditMovesModel_fill 35 = .ok (.iload_n 2, 1) := by decide +kernel
theorem d_EditMovesModel_fill_36 : decode b_EditMovesModel_fill 36 = .ok (.iaload, 1) := by decide +kernel
theorem d_EditMovesModel_fill_37 : decode b_EditMovesModel_fill 37 = .ok (.bipush 46, 2) := by decide +kernel
theorem d_EditMovesModel_fill_39 : decode b_EditMovesModel_fill 39 = .ok (.if_icmp .ne 7, 3) := by decide +kernel
theorem d_EditMovesModel_fill_42 : decode b_EditMovesModel_fill 42 = .ok (.iconst 1, 1) := by decide +kernel
theorem d_EditMovesModel_fill_43 : decode b_EditMovesModel_fill 43 = .ok (.goto 4, 3) := by decide +kernel
theorem d_EditMovesModel_fill_46 : decode b_EditMovesModel_fill 46 = .ok (.iconst 0, 1) := by decide +kernel
theorem d_EditMovesModel_fill_47 : decode b_EditMovesModel_fill 47 = .ok (.istore 4, 2) := by decide +kernel
theorem d_EditMovesModel_fill_49 : decode b_EditMovesModel_fill 49 = .ok (.aload_n 0, 1) := by decide +kernel
theorem d_EditMovesModel_fill_50 : decode b_EditMovesModel_fill 50 = .ok (.dup, 1) := by decide +kernel
theorem d_EditMovesModel_fill_51 : decode b_EditMovesModel_fill 51 = .ok (.getfield 140, 3) := by decide +kernel
theorem d_EditMovesModel_fill_54 : decode b_EditMovesModel_fill 54 = .ok (.iload 4, 2) := by decide +kernel
theorem d_EditMovesModel_fill_56 : decode b_EditMovesModel_fill 56 = .ok (.ifCond .eq 7, 3) := by decide +kernel
theorem d_EditMovesModel_fill_59 : decode b_EditMovesModel_fill 59 = .ok (.iconst 0, 1) := by decide +kernel
theorem d_EditMovesModel_fill_60 : decode b_EditMovesModel_fill 60 = .ok (.goto 4, 3) := by decide +kernel
theorem d_EditMovesModel_fill_63 : decode b_EditMovesModel_fill 63 = .ok (.iconst 1, 1) := by decide +kernel
theorem d_EditMovesModel_fill_64 : decode b_EditMovesModel_fill 64 = .ok (.iadd, 1) := by decide +kernel
theorem d_EditMovesModel_fill_65 : decode b_EditMovesModel_fill 65 = .ok (.putfield 140, 3) := by decide +kernel
theorem d_EditMovesModel_fill_68 : decode b_EditMovesModel_fill 68 = .ok (.aload_n 0, 1) := by decide +kernel
theorem d_EditMovesModel_fill_69 : decode b_EditMovesModel_fill 69 = .ok (.iload 4, 2) := by decide +kernel
theorem d_EditMovesModel_fill_71 : decode b_EditMovesModel_fill 71 = .ok (.ifCond .eq 8, 3) := by decide +kernel
theorem d_EditMovesModel_fill_74 : decode b_EditMovesModel_fill 74 = .ok (.bipush 46, 2) := by decide +kernel
theorem d_EditMovesModel_fill_76 : decode b_EditMovesModel_fill 76 = .ok (.goto 4, 3) := by decide +kernel
theorem d_EditMovesModel_fill_79 : decode b_EditMovesModel_fill 79 = .ok (.iload_n 1, 1) := by decide +kernel
theorem d_EditMovesModel_fill_80 : decode b_EditMovesModel_fill 80 = .ok (.invokevirtual 143, 3) := by decide +kernel
theorem d_EditMovesModel_fill_83 : decode b_EditMovesModel_fill 83 = .ok (.iinc 3 1, 3) := by decide +kernel
theorem d_EditMovesModel_fill_86 : decode b_EditMovesModel_fill 86 = .ok (.goto (-74), 3) := by decide +kernel
theorem d_EditMovesModel_fill_89 : decode b_EditMovesModel_fill 89 = .ok (.iinc 2 1, 3) := by decide +kernel
theorem d_EditMovesModel_fill_92 : decode b_EditMovesModel_fill 92 = .ok (.goto (-90), 3) := by decide +kernel
theorem d_EditMovesModel_fill_95 : decode b_EditMovesModel_fill 95 = .ok (.return_, 1) := by decide +kernel
abbrev b_EditMovesModel_shown : ByteArray := prog_8_method_29_code
abbrev y_EditMovesModel_shown : MethodName := ⟨"EditMovesModel", "shown", "()I"⟩
def ws_EditMovesModel_shown : List Cond := .code y_EditMovesModel_shown b_EditMovesModel_shown 4 (some .int) :: wAll
theorem d_EditMovesModel_shown_0 : decode b_EditMovesModel_shown 0 = .ok (.aload_n 0, 1) := by decide +kernel
theorem d_EditMovesModel_shown_1 : decode b_EditMovesModel_shown 1 = .ok (.getfield 84, 3) := by decide +kernel
theorem d_EditMovesModel_shown_4 : decode b_EditMovesModel_shown 4 = .ok (.bipush 90, 2) := by decide +kernel
theorem d_EditMovesModel_shown_6 : decode b_EditMovesModel_shown 6 = .ok (.if_icmp .eq 12, 3) := by decide +kernel
theorem d_EditMovesModel_shown_9 : decode b_EditMovesModel_shown 9 = .ok (.aload_n 0, 1) := by decide +kernel
theorem d_EditMovesModel_shown_10 : decode b_EditMovesModel_shown 10 = .ok (.getfield 84, 3) := by decide +kernel
theorem d_EditMovesModel_shown_13 : decode b_EditMovesModel_shown 13 = .ok (.bipush 42, 2) := by decide +kernel
theorem d_EditMovesModel_shown_15 : decode b_EditMovesModel_shown 15 = .ok (.if_icmp .ne 7, 3) := by decide +kernel
theorem d_EditMovesModel_shown_18 : decode b_EditMovesModel_shown 18 = .ok (.iconst 0, 1) := by decide +kernel
theorem d_EditMovesModel_shown_19 : decode b_EditMovesModel_shown 19 = .ok (.goto 4, 3) := by decide +kernel
theorem d_EditMovesModel_shown_22 : decode b_EditMovesModel_shown 22 = .ok (.iconst (-1), 1) := by decide +kernel
theorem d_EditMovesModel_shown_23 : decode b_EditMovesModel_shown 23 = .ok (.istore_n 1, 1) := by decide +kernel
theorem d_EditMovesModel_shown_24 : decode b_EditMovesModel_shown 24 = .ok (.aload_n 0, 1) := by decide +kernel
theorem d_EditMovesModel_shown_25 : decode b_EditMovesModel_shown 25 = .ok (.getfield 100, 3) := by decide +kernel
theorem d_EditMovesModel_shown_28 : decode b_EditMovesModel_shown 28 = .ok (.istore_n 2, 1) := by decide +kernel
theorem d_EditMovesModel_shown_29 : decode b_EditMovesModel_shown 29 = .ok (.iconst 0, 1) := by decide +kernel
theorem d_EditMovesModel_shown_30 : decode b_EditMovesModel_shown 30 = .ok (.istore_n 3, 1) := by decide +kernel
theorem d_EditMovesModel_shown_31 : decode b_EditMovesModel_shown 31 = .ok (.iload_n 3, 1) := by decide +kernel
theorem d_EditMovesModel_shown_32 : decode b_EditMovesModel_shown 32 = .ok (.aload_n 0, 1) := by decide +kernel
theorem d_EditMovesModel_shown_33 : decode b_EditMovesModel_shown 33 = .ok (.getfield 87, 3) := by decide +kernel
theorem d_EditMovesModel_shown_36 : decode b_EditMovesModel_shown 36 = .ok (.if_icmp .ge 35, 3) := by decide +kernel
theorem d_EditMovesModel_shown_39 : decode b_EditMovesModel_shown 39 = .ok (.iload_n 1, 1) := by decide +kernel
theorem d_EditMovesModel_shown_40 : decode b_EditMovesModel_shown 40 = .ok (.ifCond .lt 14, 3) := by decide +kernel
theorem d_EditMovesModel_shown_43 : decode b_EditMovesModel_shown 43 = .ok (.aload_n 0, 1) := by decide +kernel
theorem d_EditMovesModel_shown_44 : decode b_EditMovesModel_shown 44 = .ok (.getfield 29, 3) := by decide +kernel
theorem d_EditMovesModel_shown_47 : decode b_EditMovesModel_shown 47 = .ok (.iload_n 1, 1) := by decide +kernel
theorem d_EditMovesModel_shown_48 : decode b_EditMovesModel_shown 48 = .ok (.iaload, 1) := by decide +kernel
theorem d_EditMovesModel_shown_49 : decode b_EditMovesModel_shown 49 = .ok (.ifCond .eq 5, 3) := by decide +kernel
theorem d_EditMovesModel_shown_52 : decode b_EditMovesModel_shown 52 = .ok (.iload_n 2, 1) := by decide +kernel
theorem d_EditMovesModel_shown_53 : decode b_EditMovesModel_shown 53 = .ok (.ireturn, 1) := by decide +kernel
theorem d_EditMovesModel_shown_54 : decode b_EditMovesModel_shown 54 = .ok (.iinc 1 1, 3) := by decide +kernel
theorem d_EditMovesModel_shown_57 : decode b_EditMovesModel_shown 57 = .ok (.aload_n 0, 1) := by decide +kernel
theorem d_EditMovesModel_shown_58 : decode b_EditMovesModel_shown 58 = .ok (.iload_n 2, 1) := by decide +kernel
theorem d_EditMovesModel_shown_59 : decode b_EditMovesModel_shown 59 = .ok (.iconst 1, 1) := by decide +kernel
theorem d_EditMovesModel_shown_60 : decode b_EditMovesModel_shown 60 = .ok (.iadd, 1) := by decide +kernel
theorem d_EditMovesModel_shown_61 : decode b_EditMovesModel_shown 61 = .ok (.invokevirtual 81, 3) := by decide +kernel
theorem d_EditMovesModel_shown_64 : decode b_EditMovesModel_shown 64 = .ok (.istore_n 2, 1) := by decide +kernel
theorem d_EditMovesModel_shown_65 : decode b_EditMovesModel_shown 65 = .ok (.iinc 3 1, 3) := by decide +kernel
theorem d_EditMovesModel_shown_68 : decode b_EditMovesModel_shown 68 = .ok (.goto (-37), 3) := by decide +kernel
theorem d_EditMovesModel_shown_71 : decode b_EditMovesModel_shown 71 = .ok (.iload_n 2, 1) := by decide +kernel
theorem d_EditMovesModel_shown_72 : decode b_EditMovesModel_shown 72 = .ok (.ireturn, 1) := by decide +kernel
abbrev b_EditMovesModel_shownSign : ByteArray := prog_8_method_30_code
abbrev y_EditMovesModel_shownSign : MethodName := ⟨"EditMovesModel", "shownSign", "(IZ)I"⟩
def ws_EditMovesModel_shownSign : List Cond := .code y_EditMovesModel_shownSign b_EditMovesModel_shownSign 2 (some .int) :: wAll
theorem d_EditMovesModel_shownSign_0 : decode b_EditMovesModel_shownSign 0 = .ok (.iload_n 0, 1) := by decide +kernel
theorem d_EditMovesModel_shownSign_1 : decode b_EditMovesModel_shownSign 1 = .ok (.bipush 43, 2) := by decide +kernel
theorem d_EditMovesModel_shownSign_3 : decode b_EditMovesModel_shownSign 3 = .ok (.if_icmp .ne 17, 3) := by decide +kernel
theorem d_EditMovesModel_shownSign_6 : decode b_EditMovesModel_shownSign 6 = .ok (.iload_n 1, 1) := by decide +kernel
theorem d_EditMovesModel_shownSign_7 : decode b_EditMovesModel_shownSign 7 = .ok (.ifCond .eq 8, 3) := by decide +kernel
theorem d_EditMovesModel_shownSign_10 : decode b_EditMovesModel_shownSign 10 = .ok (.bipush 45, 2) := by decide +kernel
theorem d_EditMovesModel_shownSign_12 : decode b_EditMovesModel_shownSign 12 = .ok (.goto 19, 3) := by decide +kernel
theorem d_EditMovesModel_shownSign_15 : decode b_EditMovesModel_shownSign 15 = .ok (.bipush 43, 2) := by decide +kernel
theorem d_EditMovesModel_shownSign_17 : decode b_EditMovesModel_shownSign 17 = .ok (.goto 14, 3) := by decide +kernel
theorem d_EditMovesModel_shownSign_20 : decode b_EditMovesModel_shownSign 20 = .ok (.iload_n 1, 1) := by decide +kernel
theorem d_EditMovesModel_shownSign_21 : decode b_EditMovesModel_shownSign 21 = .ok (.ifCond .eq 8, 3) := by decide +kernel
theorem d_EditMovesModel_shownSign_24 : decode b_EditMovesModel_shownSign 24 = .ok (.bipush 45, 2) := by decide +kernel
theorem d_EditMovesModel_shownSign_26 : decode b_EditMovesModel_shownSign 26 = .ok (.goto 5, 3) := by decide +kernel
theorem d_EditMovesModel_shownSign_29 : decode b_EditMovesModel_shownSign 29 = .ok (.bipush 32, 2) := by decide +kernel
theorem d_EditMovesModel_shownSign_31 : decode b_EditMovesModel_shownSign 31 = .ok (.ireturn, 1) := by decide +kernel
abbrev b_EditMovesModel_plain : ByteArray := prog_8_method_32_code
abbrev y_EditMovesModel_plain : MethodName := ⟨"EditMovesModel", "plain", "(I)V"⟩
def ws_EditMovesModel_plain : List Cond := .code y_EditMovesModel_plain b_EditMovesModel_plain 2 none :: wAll
theorem d_EditMovesModel_plain_0 : decode b_EditMovesModel_plain 0 = .ok (.iload_n 1, 1) := by decide +kernel
theorem d_EditMovesModel_plain_1 : decode b_EditMovesModel_plain 1 = .ok (.lookupswitch 168 #[(43, 79), (45, 79), (66, 70), (86, 67), (200, 94), (201, 94), (202, 157)], 67) := by decide +kernel
theorem d_EditMovesModel_plain_68 : decode b_EditMovesModel_plain 68 = .ok (.goto 106, 3) := by decide +kernel
theorem d_EditMovesModel_plain_71 : decode b_EditMovesModel_plain 71 = .ok (.aload_n 0, 1) := by decide +kernel
theorem d_EditMovesModel_plain_72 : decode b_EditMovesModel_plain 72 = .ok (.bipush 32, 2) := by decide +kernel
theorem d_EditMovesModel_plain_74 : decode b_EditMovesModel_plain 74 = .ok (.invokevirtual 143, 3) := by decide +kernel
theorem d_EditMovesModel_plain_77 : decode b_EditMovesModel_plain 77 = .ok (.goto 97, 3) := by decide +kernel
theorem d_EditMovesModel_plain_80 : decode b_EditMovesModel_plain 80 = .ok (.aload_n 0, 1) := by decide +kernel
theorem d_EditMovesModel_plain_81 : decode b_EditMovesModel_plain 81 = .ok (.iload_n 1, 1) := by decide +kernel
theorem d_EditMovesModel_plain_82 : decode b_EditMovesModel_plain 82 = .ok (.aload_n 0, 1) := by decide +kernel
theorem d_EditMovesModel_plain_83 : decode b_EditMovesModel_plain 83 = .ok (.getfield 150, 3) := by decide +kernel
theorem d_EditMovesModel_plain_86 : decode b_EditMovesModel_plain 86 = .ok (.invokestatic 153, 3) := by decide +kernel
theorem d_EditMovesModel_plain_89 : decode b_EditMovesModel_plain 89 = .ok (.invokevirtual 143, 3) := by decide +kernel
theorem d_EditMovesModel_plain_92 : decode b_EditMovesModel_plain 92 = .ok (.goto 82, 3) := by decide +kernel
theorem d_EditMovesModel_plain_95 : decode b_EditMovesModel_plain 95 = .ok (.aload_n 0, 1) := by decide +kernel
theorem d_EditMovesModel_plain_96 : decode b_EditMovesModel_plain 96 = .ok (.aload_n 0, 1) := by decide +kernel
theorem d_EditMovesModel_plain_97 : decode b_EditMovesModel_plain 97 = .ok (.getfield 150, 3) := by decide +kernel
theorem d_EditMovesModel_plain_100 : decode b_EditMovesModel_plain 100 = .ok (.ifCond .ne 8, 3) := by decide +kernel
theorem d_EditMovesModel_plain_103 : decode b_EditMovesModel_plain 103 = .ok (.bipush 32, 2) := by decide +kernel
theorem d_EditMovesModel_plain_105 : decode b_EditMovesModel_plain 105 = .ok (.goto 17, 3) := by decide +kernel
theorem d_EditMovesModel_plain_108 : decode b_EditMovesModel_plain 108 = .ok (.iload_n 1, 1) := by decide +kernel
theorem d_EditMovesModel_plain_109 : decode b_EditMovesModel_plain 109 = .ok (.sipush 200, 3) := by decide +kernel
theorem d_EditMovesModel_plain_112 : decode b_EditMovesModel_plain 112 = .ok (.if_icmp .ne 8, 3) := by decide +kernel
theorem d_EditMovesModel_plain_115 : decode b_EditMovesModel_plain 115 = .ok (.bipush 67, 2) := by decide +kernel
theorem d_EditMovesModel_plain_117 : decode b_EditMovesModel_plain 117 = .ok (.goto 5, 3) := by decide +kernel
theorem d_EditMovesModel_plain_120 : decode b_EditMovesModel_plain 120 = .ok (.bipush 68, 2) := by decide +kernel
theorem d_EditMovesModel_plain_122 : decode b_EditMovesModel_plain 122 = .ok (.invokevirtual 143, 3) := by decide +kernel
theorem d_EditMovesModel_plain_125 : decode b_EditMovesModel_plain 125 = .ok (.aload_n 0, 1) := by decide +kernel
theorem d_EditMovesModel_plain_126 : decode b_EditMovesModel_plain 126 = .ok (.aload_n 0, 1) := by decide +kernel
theorem d_EditMovesModel_plain_127 : decode b_EditMovesModel_plain 127 = .ok (.getfield 150, 3) := by decide +kernel
theorem d_EditMovesModel_plain_130 : decode b_EditMovesModel_plain 130 = .ok (.ifCond .ne 8, 3) := by decide +kernel
theorem d_EditMovesModel_plain_133 : decode b_EditMovesModel_plain 133 = .ok (.bipush 32, 2) := by decide +kernel
theorem d_EditMovesModel_plain_135 : decode b_EditMovesModel_plain 135 = .ok (.goto 17, 3) := by decide +kernel
theorem d_EditMovesModel_plain_138 : decode b_EditMovesModel_plain 138 = .ok (.iload_n 1, 1) := by decide +kernel
theorem d_EditMovesModel_plain_139 : decode b_EditMovesModel_plain 139 = .ok (.sipush 200, 3) := by decide +kernel
theorem d_EditMovesModel_plain_142 : decode b_EditMovesModel_plain 142 = .ok (.if_icmp .ne 8, 3) := by decide +kernel
theorem d_EditMovesModel_plain_145 : decode b_EditMovesModel_plain 145 = .ok (.bipush 82, 2) := by decide +kernel
theorem d_EditMovesModel_plain_147 : decode b_EditMovesModel_plain 147 = .ok (.goto 5, 3) := by decide +kernel
theorem d_EditMovesModel_plain_150 : decode b_EditMovesModel_plain 150 = .ok (.bipush 66, 2) := by decide +kernel
theorem d_EditMovesModel_plain_152 : decode b_EditMovesModel_plain 152 = .ok (.invokevirtual 143, 3) := by decide +kernel
theorem d_EditMovesModel_plain_155 : decode b_EditMovesModel_plain 155 = .ok (.goto 19, 3) := by decide +kernel
theorem d_EditMovesModel_plain_158 : decode b_EditMovesModel_plain 158 = .ok (.aload_n 0, 1) := by decide +kernel
theorem d_EditMovesModel_plain_159 : decode b_EditMovesModel_plain 159 = .ok (.aload_n 0, 1) := by decide +kernel
theorem d_EditMovesModel_plain_160 : decode b_EditMovesModel_plain 160 = .ok (.getfield 16, 3) := by decide +kernel
theorem d_EditMovesModel_plain_163 : decode b_EditMovesModel_plain 163 = .ok (.invokevirtual 143, 3) := by decide +kernel
theorem d_EditMovesModel_plain_166 : decode b_EditMovesModel_plain 166 = .ok (.goto 8, 3) := by decide +kernel
theorem d_EditMovesModel_plain_169 : decode b_EditMovesModel_plain 169 = .ok (.aload_n 0, 1) := by decide +kernel
theorem d_EditMovesModel_plain_170 : decode b_EditMovesModel_plain 170 = .ok (.iload_n 1, 1) := by decide +kernel
theorem d_EditMovesModel_plain_171 : decode b_EditMovesModel_plain 171 = .ok (.invokevirtual 143, 3) := by decide +kernel
theorem d_EditMovesModel_plain_174 : decode b_EditMovesModel_plain 174 = .ok (.return_, 1) := by decide +kernel
abbrev b_EditMovesModel_places : ByteArray := prog_8_method_31_code
abbrev y_EditMovesModel_places : MethodName := ⟨"EditMovesModel", "places", "()V"⟩
def ws_EditMovesModel_places : List Cond := .code y_EditMovesModel_places b_EditMovesModel_places 11 none :: wAll
theorem d_EditMovesModel_places_0 : decode b_EditMovesModel_places 0 = .ok (.aload_n 0, 1) := by decide +kernel
theorem d_EditMovesModel_places_1 : decode b_EditMovesModel_places 1 = .ok (.getfield 84, 3) := by decide +kernel
theorem d_EditMovesModel_places_4 : decode b_EditMovesModel_places 4 = .ok (.ifCond .ne 10, 3) := by decide +kernel
theorem d_EditMovesModel_places_7 : decode b_EditMovesModel_places 7 = .ok (.aload_n 0, 1) := by decide +kernel
theorem d_EditMovesModel_places_8 : decode b_EditMovesModel_places 8 = .ok (.getfield 65, 3) := by decide +kernel
theorem d_EditMovesModel_places_11 : decode b_EditMovesModel_places 11 = .ok (.goto 7, 3) := by decide +kernel
theorem d_EditMovesModel_places_14 : decode b_EditMovesModel_places 14 = .ok (.aload_n 0, 1) := by decide +kernel
theorem d_EditMovesModel_places_15 : decode b_EditMovesModel_places 15 = .ok (.getfield 100, 3) := by decide +kernel
theorem d_EditMovesModel_places_18 : decode b_EditMovesModel_places 18 = .ok (.istore_n 1, 1) := by decide +kernel
theorem d_EditMovesModel_places_19 : decode b_EditMovesModel_places 19 = .ok (.aload_n 0, 1) := by decide +kernel
theorem d_EditMovesModel_places_20 : decode b_EditMovesModel_places 20 = .ok (.getfield 84, 3) := by decide +kernel
theorem d_EditMovesModel_places_23 : decode b_EditMovesModel_places 23 = .ok (.ifCond .ne 10, 3) := by decide +kernel
theorem d_EditMovesModel_places_26 : decode b_EditMovesModel_places 26 = .ok (.aload_n 0, 1) := by decide +kernel
theorem d_EditMovesModel_places_27 : decode b_EditMovesModel_places 27 = .ok (.getfield 65, 3) := by decide +kernel
theorem d_EditMovesModel_places_30 : decode b_EditMovesModel_places 30 = .ok (.goto 7, 3) := by decide +kernel
theorem d_EditMovesModel_places_33 : decode b_EditMovesModel_places 33 = .ok (.aload_n 0, 1) := by decide +kernel
theorem d_EditMovesModel_places_34 : decode b_EditMovesModel_places 34 = .ok (.invokevirtual 147, 3) := by decide +kernel
theorem d_EditMovesModel_places_37 : decode b_EditMovesModel_places 37 = .ok (.istore_n 2, 1) := by decide +kernel
theorem d_EditMovesModel_places_38 : decode b_EditMovesModel_places 38 = .ok (.iconst 0, 1) := by decide +kernel
theorem d_EditMovesModel_places_39 : decode b_EditMovesModel_places 39 = .ok (.istore_n 3, 1) := by decide +kernel
theorem d_EditMovesModel_places_40 : decode b_EditMovesModel_places 40 = .ok (.aload_n 0, 1) := by decide +kernel
theorem d_EditMovesModel_places_41 : decode b_EditMovesModel_places 41 = .ok (.getfield 84, 3) := by decide +kernel
theorem d_EditMovesModel_places_44 : decode b_EditMovesModel_places 44 = .ok (.ifCond .eq 25, 3) := by decide +kernel
theorem d_EditMovesModel_places_47 : decode b_EditMovesModel_places 47 = .ok (.aload_n 0, 1) := by decide +kernel
theorem d_EditMovesModel_places_48 : decode b_EditMovesModel_places 48 = .ok (.getfield 84, 3) := by decide +kernel
theorem d_EditMovesModel_places_51 : decode b_EditMovesModel_places 51 = .ok (.bipush 90, 2) := by decide +kernel
theorem d_EditMovesModel_places_53 : decode b_EditMovesModel_places 53 = .ok (.if_icmp .eq 16, 3) := by decide +kernel
theorem d_EditMovesModel_places_56 : decode b_EditMovesModel_places 56 = .ok (.aload_n 0, 1) := by decide +kernel
theorem d_EditMovesModel_places_57 : decode b_EditMovesModel_places 57 = .ok (.getfield 84, 3) := by decide +kernel
theorem d_EditMovesModel_places_60 : decode b_EditMovesModel_places 60 = .ok (.bipush 42, 2) := by decide +kernel
theorem d_EditMovesModel_places_62 : decode b_EditMovesModel_places 62 = .ok (.if_icmp .eq 7, 3) := by decide +kernel
theorem d_EditMovesModel_places_65 : decode b_EditMovesModel_places 65 = .ok (.iconst 1, 1) := by decide +kernel
theorem d_EditMovesModel_places_66 : decode b_EditMovesModel_places 66 = .ok (.goto 4, 3) := by decide +kernel
theorem d_EditMovesModel_places_69 : decode b_EditMovesModel_places 69 = .ok (.iconst 0, 1) := by decide +kernel
theorem d_EditMovesModel_places_70 : decode b_EditMovesModel_places 70 = .ok (.istore 4, 2) := by decide +kernel
theorem d_EditMovesModel_places_72 : decode b_EditMovesModel_places 72 = .ok (.iconst 0, 1) := by decide +kernel
theorem d_EditMovesModel_places_73 : decode b_EditMovesModel_places 73 = .ok (.istore 5, 2) := by decide +kernel
theorem d_EditMovesModel_places_75 : decode b_EditMovesModel_places 75 = .ok (.iload 5, 2) := by decide +kernel
theorem d_EditMovesModel_places_77 : decode b_EditMovesModel_places 77 = .ok (.aload_n 0, 1) := by decide +kernel
theorem d_EditMovesModel_places_78 : decode b_EditMovesModel_places 78 = .ok (.getfield 65, 3) := by decide +kernel
theorem d_EditMovesModel_places_81 : decode b_EditMovesModel_places 81 = .ok (.if_icmp .ge 237, 3) := by decide +kernel
theorem d_EditMovesModel_places_84 : decode b_EditMovesModel_places 84 = .ok (.aload_n 0, 1) := by decide +kernel
theorem d_EditMovesModel_places_85 : decode b_EditMovesModel_places 85 = .ok (.getfield 20, 3) := by decide +kernel
theorem d_EditMovesModel_places_88 : decode b_EditMovesModel_places 88 = .ok (.iload 5, 2) := by decide +kernel
theorem d_EditMovesModel_places_90 : decode b_EditMovesModel_places 90 = .ok (.iaload, 1) := by decide +kernel
theorem d_EditMovesModel_places_91 : decode b_EditMovesModel_places 91 = .ok (.istore 6, 2) := by decide +kernel
theorem d_EditMovesModel_places_93 : decode b_EditMovesModel_places 93 = .ok (.iload 6, 2) := by decide +kernel
theorem d_EditMovesModel_places_95 : decode b_EditMovesModel_places 95 = .ok (.aload_n 0, 1) := by decide +kernel
theorem d_EditMovesModel_places_96 : decode b_EditMovesModel_places 96 = .ok (.getfield 84, 3) := by decide +kernel
theorem d_EditMovesModel_places_99 : decode b_EditMovesModel_places 99 = .ok (.if_icmp .ne 23, 3) := by decide +kernel
theorem d_EditMovesModel_places_102 : decode b_EditMovesModel_places 102 = .ok (.iload 5, 2) := by decide +kernel
theorem d_EditMovesModel_places_104 : decode b_EditMovesModel_places 104 = .ok (.aload_n 0, 1) := by decide +kernel
theorem d_EditMovesModel_places_105 : decode b_EditMovesModel_places 105 = .ok (.getfield 100, 3) := by decide +kernel
theorem d_EditMovesModel_places_108 : decode b_EditMovesModel_places 108 = .ok (.if_icmp .lt 14, 3) := by decide +kernel
theorem d_EditMovesModel_places_111 : decode b_EditMovesModel_places 111 = .ok (.aload_n 0, 1) := by decide +kernel
theorem d_EditMovesModel_places_112 : decode b_EditMovesModel_places 112 = .ok (.getfield 84, 3) := by decide +kernel
theorem d_EditMovesModel_places_115 : decode b_EditMovesModel_places 115 = .ok (.ifCond .eq 7, 3) := by decide +kernel
theorem d_EditMovesModel_places_118 : decode b_EditMovesModel_places 118 = .ok (.iconst 1, 1) := by decide +kernel
theorem d_EditMovesModel_places_119 : decode b_EditMovesModel_places 119 = .ok (.goto 4, 3) := by decide +kernel
theorem d_EditMovesModel_places_122 : decode b_EditMovesModel_places 122 = .ok (.iconst 0, 1) := by decide +kernel
theorem d_EditMovesModel_places_123 : decode b_EditMovesModel_places 123 = .ok (.istore 7, 2) := by decide +kernel
theorem d_EditMovesModel_places_125 : decode b_EditMovesModel_places 125 = .ok (.iload 6, 2) := by decide +kernel
theorem d_EditMovesModel_places_127 : decode b_EditMovesModel_places 127 = .ok (.bipush 57, 2) := by decide +kernel
theorem d_EditMovesModel_places_129 : decode b_EditMovesModel_places 129 = .ok (.if_icmp .eq 22, 3) := by decide +kernel
theorem d_EditMovesModel_places_132 : decode b_EditMovesModel_places 132 = .ok (.iload 7, 2) := by decide +kernel
theorem d_EditMovesModel_places_134 : decode b_EditMovesModel_places 134 = .ok (.ifCond .eq 21, 3) := by decide +kernel
theorem d_EditMovesModel_places_137 : decode b_EditMovesModel_places 137 = .ok (.iload 4, 2) := by decide +kernel
theorem d_EditMovesModel_places_139 : decode b_EditMovesModel_places 139 = .ok (.ifCond .eq 12, 3) := by decide +kernel
theorem d_EditMovesModel_places_142 : decode b_EditMovesModel_places 142 = .ok (.iload 5, 2) := by decide +kernel
theorem d_EditMovesModel_places_144 : decode b_EditMovesModel_places 144 = .ok (.aload_n 0, 1) := by decide +kernel
theorem d_EditMovesModel_places_145 : decode b_EditMovesModel_places 145 = .ok (.getfield 100, 3) := by decide +kernel
theorem d_EditMovesModel_places_148 : decode b_EditMovesModel_places 148 = .ok (.if_icmp .eq 7, 3) := by decide +kernel
theorem d_EditMovesModel_places_151 : decode b_EditMovesModel_places 151 = .ok (.iconst 1, 1) := by decide +kernel
theorem d_EditMovesModel_places_152 : decode b_EditMovesModel_places 152 = .ok (.goto 4, 3) := by decide +kernel
theorem d_EditMovesModel_places_155 : decode b_EditMovesModel_places 155 = .ok (.iconst 0, 1) := by decide +kernel
theorem d_EditMovesModel_places_156 : decode b_EditMovesModel_places 156 = .ok (.istore 8, 2) := by decide +kernel
theorem d_EditMovesModel_places_158 : decode b_EditMovesModel_places 158 = .ok (.iload 8, 2) := by decide +kernel
theorem d_EditMovesModel_places_160 : decode b_EditMovesModel_places 160 = .ok (.ifCond .eq 12, 3) := by decide +kernel
theorem d_EditMovesModel_places_163 : decode b_EditMovesModel_places 163 = .ok (.aload_n 0, 1) := by decide +kernel
theorem d_EditMovesModel_places_164 : decode b_EditMovesModel_places 164 = .ok (.getfield 29, 3) := by decide +kernel
theorem d_EditMovesModel_places_167 : decode b_EditMovesModel_places 167 = .ok (.iload_n 3, 1) := by decide +kernel
theorem d_EditMovesModel_places_168 : decode b_EditMovesModel_places 168 = .ok (.iaload, 1) := by decide +kernel
theorem d_EditMovesModel_places_169 : decode b_EditMovesModel_places 169 = .ok (.goto 4, 3) := by decide +kernel
theorem d_EditMovesModel_places_172 : decode b_EditMovesModel_places 172 = .ok (.iconst 0, 1) := by decide +kernel
theorem d_EditMovesModel_places_173 : decode b_EditMovesModel_places 173 = .ok (.istore 9, 2) := by decide +kernel
theorem d_EditMovesModel_places_175 : decode b_EditMovesModel_places 175 = .ok (.iload_n 3, 1) := by decide +kernel
theorem d_EditMovesModel_places_176 : decode b_EditMovesModel_places 176 = .ok (.iload 8, 2) := by decide +kernel
theorem d_EditMovesModel_places_178 : decode b_EditMovesModel_places 178 = .ok (.ifCond .eq 7, 3) := by decide +kernel
theorem d_EditMovesModel_places_181 : decode b_EditMovesModel_places 181 = .ok (.iconst 1, 1) := by decide +kernel
theorem d_EditMovesModel_places_182 : decode b_EditMovesModel_places 182 = .ok (.goto 4, 3) := by decide +kernel
theorem d_EditMovesModel_places_185 : decode b_EditMovesModel_places 185 = .ok (.iconst 0, 1) := by decide +kernel
theorem d_EditMovesModel_places_186 : decode b_EditMovesModel_places 186 = .ok (.iadd, 1) := by decide +kernel
theorem d_EditMovesModel_places_187 : decode b_EditMovesModel_places 187 = .ok (.istore_n 3, 1) := by decide +kernel
theorem d_EditMovesModel_places_188 : decode b_EditMovesModel_places 188 = .ok (.iload 5, 2) := by decide +kernel
theorem d_EditMovesModel_places_190 : decode b_EditMovesModel_places 190 = .ok (.iload_n 1, 1) := by decide +kernel
theorem d_EditMovesModel_places_191 : decode b_EditMovesModel_places 191 = .ok (.if_icmp .lt 98, 3) := by decide +kernel
theorem d_EditMovesModel_places_194 : decode b_EditMovesModel_places 194 = .ok (.iload 5, 2) := by decide +kernel
theorem d_EditMovesModel_places_196 : decode b_EditMovesModel_places 196 = .ok (.iload_n 2, 1) := by decide +kernel
theorem d_EditMovesModel_places_197 : decode b_EditMovesModel_places 197 = .ok (.if_icmp .ge 92, 3) := by decide +kernel
theorem d_EditMovesModel_places_200 : decode b_EditMovesModel_places 200 = .ok (.aload_n 0, 1) := by decide +kernel
theorem d_EditMovesModel_places_201 : decode b_EditMovesModel_places 201 = .ok (.dup, 1) := by decide +kernel
theorem d_EditMovesModel_places_202 : decode b_EditMovesModel_places 202 = .ok (.getfield 140, 3) := by decide +kernel
theorem d_EditMovesModel_places_205 : decode b_EditMovesModel_places 205 = .ok (.iconst 1, 1) := by decide +kernel
theorem d_EditMovesModel_places_206 : decode b_EditMovesModel_places 206 = .ok (.iadd, 1) := by decide +kernel
theorem d_EditMovesModel_places_207 : decode b_EditMovesModel_places 207 = .ok (.putfield 140, 3) := by decide +kernel
theorem d_EditMovesModel_places_210 : decode b_EditMovesModel_places 210 = .ok (.iload 4, 2) := by decide +kernel
theorem d_EditMovesModel_places_212 : decode b_EditMovesModel_places 212 = .ok (.ifCond .eq 15, 3) := by decide +kernel
theorem d_EditMovesModel_places_215 : decode b_EditMovesModel_places 215 = .ok (.iload 5, 2) := by decide +kernel
theorem d_EditMovesModel_places_217 : decode b_EditMovesModel_places 217 = .ok (.iload_n 2, 1) := by decide +kernel
theorem d_EditMovesModel_places_218 : decode b_EditMovesModel_places 218 = .ok (.iconst 1, 1) := by decide +kernel
theorem d_EditMovesModel_places_219 : decode b_EditMovesModel_places 219 = .ok (.isub, 1) := by decide +kernel
theorem d_EditMovesModel_places_220 : decode b_EditMovesModel_places 220 = .ok (.if_icmp .ne 7, 3) := by decide +kernel
theorem d_EditMovesModel_places_223 : decode b_EditMovesModel_places 223 = .ok (.iconst 1, 1) := by decide +kernel
theorem d_EditMovesModel_places_224 : decode b_EditMovesModel_places 224 = .ok (.goto 4, 3) := by decide +kernel
theorem d_EditMovesModel_places_227 : decode b_EditMovesModel_places 227 = .ok (.iconst 0, 1) := by decide +kernel
theorem d_EditMovesModel_places_228 : decode b_EditMovesModel_places 228 = .ok (.istore 10, 2) := by decide +kernel
theorem d_EditMovesModel_places_230 : decode b_EditMovesModel_places 230 = .ok (.aload_n 0, 1) := by decide +kernel
theorem d_EditMovesModel_places_231 : decode b_EditMovesModel_places 231 = .ok (.iload 10, 2) := by decide +kernel
theorem d_EditMovesModel_places_233 : decode b_EditMovesModel_places 233 = .ok (.ifCond .eq 34, 3) := by decide +kernel
theorem d_EditMovesModel_places_236 : decode b_EditMovesModel_places 236 = .ok (.aload_n 0, 1) := by decide +kernel
theorem d_EditMovesModel_places_237 : decode b_EditMovesModel_places 237 = .ok (.getfield 84, 3) := by decide +kernel
theorem d_EditMovesModel_places_240 : decode b_EditMovesModel_places 240 = .ok (.sipush 202, 3) := by decide +kernel
theorem d_EditMovesModel_places_243 : decode b_EditMovesModel_places 243 = .ok (.if_icmp .ne 10, 3) := by decide +kernel
theorem d_EditMovesModel_places_246 : decode b_EditMovesModel_places 246 = .ok (.aload_n 0, 1) := by decide +kernel
theorem d_EditMovesModel_places_247 : decode b_EditMovesModel_places 247 = .ok (.getfield 16, 3) := by decide +kernel
theorem d_EditMovesModel_places_250 : decode b_EditMovesModel_places 250 = .ok (.goto 33, 3) := by decide +kernel
theorem d_EditMovesModel_places_253 : decode b_EditMovesModel_places 253 = .ok (.aload_n 0, 1) := by decide +kernel
theorem d_EditMovesModel_places_254 : decode b_EditMovesModel_places 254 = .ok (.getfield 84, 3) := by decide +kernel
theorem d_EditMovesModel_places_257 : decode b_EditMovesModel_places 257 = .ok (.aload_n 0, 1) := by decide +kernel
theorem d_EditMovesModel_places_258 : decode b_EditMovesModel_places 258 = .ok (.getfield 150, 3) := by decide +kernel
theorem d_EditMovesModel_places_261 : decode b_EditMovesModel_places 261 = .ok (.invokestatic 153, 3) := by decide +kernel
theorem d_EditMovesModel_places_264 : decode b_EditMovesModel_places 264 = .ok (.goto 19, 3) := by decide +kernel
theorem d_EditMovesModel_places_267 : decode b_EditMovesModel_places 267 = .ok (.aload_n 0, 1) := by decide +kernel
theorem d_EditMovesModel_places_268 : decode b_EditMovesModel_places 268 = .ok (.getfield 84, 3) := by decide +kernel
theorem d_EditMovesModel_places_271 : decode b_EditMovesModel_places 271 = .ok (.bipush 42, 2) := by decide +kernel
theorem d_EditMovesModel_places_273 : decode b_EditMovesModel_places 273 = .ok (.if_icmp .ne 8, 3) := by decide +kernel
theorem d_EditMovesModel_places_276 : decode b_EditMovesModel_places 276 = .ok (.bipush 42, 2) := by decide +kernel
theorem d_EditMovesModel_places_278 : decode b_EditMovesModel_places 278 = .ok (.goto 5, 3) := by decide +kernel
theorem d_EditMovesModel_places_281 : decode b_EditMovesModel_places 281 = .ok (.bipush 32, 2) := by decide +kernel
theorem d_EditMovesModel_places_283 : decode b_EditMovesModel_places 283 = .ok (.invokevirtual 143, 3) := by decide +kernel
theorem d_EditMovesModel_places_286 : decode b_EditMovesModel_places 286 = .ok (.goto 26, 3) := by decide +kernel
theorem d_EditMovesModel_places_289 : decode b_EditMovesModel_places 289 = .ok (.iload 8, 2) := by decide +kernel
theorem d_EditMovesModel_places_291 : decode b_EditMovesModel_places 291 = .ok (.ifCond .eq 15, 3) := by decide +kernel
theorem d_EditMovesModel_places_294 : decode b_EditMovesModel_places 294 = .ok (.aload_n 0, 1) := by decide +kernel
theorem d_EditMovesModel_places_295 : decode b_EditMovesModel_places 295 = .ok (.bipush 48, 2) := by decide +kernel
theorem d_EditMovesModel_places_297 : decode b_EditMovesModel_places 297 = .ok (.iload 9, 2) := by decide +kernel
theorem d_EditMovesModel_places_299 : decode b_EditMovesModel_places 299 = .ok (.iadd, 1) := by decide +kernel
theorem d_EditMovesModel_places_300 : decode b_EditMovesModel_places 300 = .ok (.invokevirtual 143, 3) := by decide +kernel
theorem d_EditMovesModel_places_303 : decode b_EditMovesModel_places 303 = .ok (.goto 9, 3) := by decide +kernel
theorem d_EditMovesModel_places_306 : decode b_EditMovesModel_places 306 = .ok (.aload_n 0, 1) := by decide +kernel
theorem d_EditMovesModel_places_307 : decode b_EditMovesModel_places 307 = .ok (.iload 6, 2) := by decide +kernel
theorem d_EditMovesModel_places_309 : decode b_EditMovesModel_places 309 = .ok (.invokevirtual 157, 3) := by decide +kernel
theorem d_EditMovesModel_places_312 : decode b_EditMovesModel_places 312 = .ok (.iinc 5 1, 3) := by decide +kernel
theorem d_EditMovesModel_places_315 : decode b_EditMovesModel_places 315 = .ok (.goto (-240), 3) := by decide +kernel
theorem d_EditMovesModel_places_318 : decode b_EditMovesModel_places 318 = .ok (.return_, 1) := by decide +kernel
abbrev b_EditMovesModel_editText : ByteArray := prog_8_method_33_code
abbrev y_EditMovesModel_editText : MethodName := ⟨"EditMovesModel", "editText", "()I"⟩
def ws_EditMovesModel_editText : List Cond := .code y_EditMovesModel_editText b_EditMovesModel_editText 3 (some .int) :: wAll
theorem d_EditMovesModel_editText_0 : decode b_EditMovesModel_editText 0 = .ok (.iconst 0, 1) := by decide +kernel
theorem d_EditMovesModel_editText_1 : decode b_EditMovesModel_editText 1 = .ok (.istore_n 1, 1) := by decide +kernel
theorem d_EditMovesModel_editText_2 : decode b_EditMovesModel_editText 2 = .ok (.iconst 0, 1) := by decide +kernel
theorem d_EditMovesModel_editText_3 : decode b_EditMovesModel_editText 3 = .ok (.istore_n 2, 1) := by decide +kernel
theorem d_EditMovesModel_editText_4 : decode b_EditMovesModel_editText 4 = .ok (.iload_n 2, 1) := by decide +kernel
theorem d_EditMovesModel_editText_5 : decode b_EditMovesModel_editText 5 = .ok (.aload_n 0, 1) := by decide +kernel
theorem d_EditMovesModel_editText_6 : decode b_EditMovesModel_editText 6 = .ok (.getfield 65, 3) := by decide +kernel
theorem d_EditMovesModel_editText_9 : decode b_EditMovesModel_editText 9 = .ok (.if_icmp .ge 75, 3) := by decide +kernel
theorem d_EditMovesModel_editText_12 : decode b_EditMovesModel_editText 12 = .ok (.aload_n 0, 1) := by decide +kernel
theorem d_EditMovesModel_editText_13 : decode b_EditMovesModel_editText 13 = .ok (.getfield 20, 3) := by decide +kernel
theorem d_EditMovesModel_editText_16 : decode b_EditMovesModel_editText 16 = .ok (.iload_n 2, 1) := by decide +kernel
theorem d_EditMovesModel_editText_17 : decode b_EditMovesModel_editText 17 = .ok (.iaload, 1) := by decide +kernel
theorem d_EditMovesModel_editText_18 : decode b_EditMovesModel_editText 18 = .ok (.bipush 88, 2) := by decide +kernel
theorem d_EditMovesModel_editText_20 : decode b_EditMovesModel_editText 20 = .ok (.if_icmp .ne 32, 3) := by decide +kernel
theorem d_EditMovesModel_editText_23 : decode b_EditMovesModel_editText 23 = .ok (.aload_n 0, 1) := by decide +kernel
theorem d_EditMovesModel_editText_24 : decode b_EditMovesModel_editText 24 = .ok (.iload_n 1, 1) := by decide +kernel
theorem d_EditMovesModel_editText_25 : decode b_EditMovesModel_editText 25 = .ok (.aload_n 0, 1) := by decide +kernel
theorem d_EditMovesModel_editText_26 : decode b_EditMovesModel_editText 26 = .ok (.getfield 48, 3) := by decide +kernel
theorem d_EditMovesModel_editText_29 : decode b_EditMovesModel_editText 29 = .ok (.if_icmp .ge 12, 3) := by decide +kernel
theorem d_EditMovesModel_editText_32 : decode b_EditMovesModel_editText 32 = .ok (.aload_n 0, 1) := by decide +kernel
theorem d_EditMovesModel_editText_33 : decode b_EditMovesModel_editText 33 = .ok (.getfield 13, 3) := by decide +kernel
theorem d_EditMovesModel_editText_36 : decode b_EditMovesModel_editText 36 = .ok (.iload_n 1, 1) := by decide +kernel
theorem d_EditMovesModel_editText_37 : decode b_EditMovesModel_editText 37 = .ok (.iaload, 1) := by decide +kernel
theorem d_EditMovesModel_editText_38 : decode b_EditMovesModel_editText 38 = .ok (.goto 5, 3) := by decide +kernel
theorem d_EditMovesModel_editText_41 : decode b_EditMovesModel_editText 41 = .ok (.bipush 32, 2) := by decide +kernel
theorem d_EditMovesModel_editText_43 : decode b_EditMovesModel_editText 43 = .ok (.invokevirtual 143, 3) := by decide +kernel
theorem d_EditMovesModel_editText_46 : decode b_EditMovesModel_editText 46 = .ok (.iinc 1 1, 3) := by decide +kernel
theorem d_EditMovesModel_editText_49 : decode b_EditMovesModel_editText 49 = .ok (.goto 29, 3) := by decide +kernel
theorem d_EditMovesModel_editText_52 : decode b_EditMovesModel_editText 52 = .ok (.aload_n 0, 1) := by decide +kernel
theorem d_EditMovesModel_editText_53 : decode b_EditMovesModel_editText 53 = .ok (.aload_n 0, 1) := by decide +kernel
theorem d_EditMovesModel_editText_54 : decode b_EditMovesModel_editText 54 = .ok (.getfield 20, 3) := by decide +kernel
theorem d_EditMovesModel_editText_57 : decode b_EditMovesModel_editText 57 = .ok (.iload_n 2, 1) := by decide +kernel
theorem d_EditMovesModel_editText_58 : decode b_EditMovesModel_editText 58 = .ok (.iaload, 1) := by decide +kernel
theorem d_EditMovesModel_editText_59 : decode b_EditMovesModel_editText 59 = .ok (.bipush 66, 2) := by decide +kernel
theorem d_EditMovesModel_editText_61 : decode b_EditMovesModel_editText 61 = .ok (.if_icmp .ne 8, 3) := by decide +kernel
theorem d_EditMovesModel_editText_64 : decode b_EditMovesModel_editText 64 = .ok (.bipush 32, 2) := by decide +kernel
theorem d_EditMovesModel_editText_66 : decode b_EditMovesModel_editText 66 = .ok (.goto 9, 3) := by decide +kernel
theorem d_EditMovesModel_editText_69 : decode b_EditMovesModel_editText 69 = .ok (.aload_n 0, 1) := by decide +kernel
theorem d_EditMovesModel_editText_70 : decode b_EditMovesModel_editText 70 = .ok (.getfield 20, 3) := by decide +kernel
theorem d_EditMovesModel_editText_73 : decode b_EditMovesModel_editText 73 = .ok (.iload_n 2, 1) := by decide +kernel
theorem d_EditMovesModel_editText_74 : decode b_EditMovesModel_editText 74 = .ok (.iaload, 1) := by decide +kernel
theorem d_EditMovesModel_editText_75 : decode b_EditMovesModel_editText 75 = .ok (.invokevirtual 143, 3) := by decide +kernel
theorem d_EditMovesModel_editText_78 : decode b_EditMovesModel_editText 78 = .ok (.iinc 2 1, 3) := by decide +kernel
theorem d_EditMovesModel_editText_81 : decode b_EditMovesModel_editText 81 = .ok (.goto (-77), 3) := by decide +kernel
theorem d_EditMovesModel_editText_84 : decode b_EditMovesModel_editText 84 = .ok (.aload_n 0, 1) := by decide +kernel
theorem d_EditMovesModel_editText_85 : decode b_EditMovesModel_editText 85 = .ok (.iload_n 1, 1) := by decide +kernel
theorem d_EditMovesModel_editText_86 : decode b_EditMovesModel_editText 86 = .ok (.aload_n 0, 1) := by decide +kernel
theorem d_EditMovesModel_editText_87 : decode b_EditMovesModel_editText 87 = .ok (.getfield 48, 3) := by decide +kernel
theorem d_EditMovesModel_editText_90 : decode b_EditMovesModel_editText 90 = .ok (.if_icmp .ge 12, 3) := by decide +kernel
theorem d_EditMovesModel_editText_93 : decode b_EditMovesModel_editText 93 = .ok (.aload_n 0, 1) := by decide +kernel
theorem d_EditMovesModel_editText_94 : decode b_EditMovesModel_editText 94 = .ok (.getfield 48, 3) := by decide +kernel
theorem d_EditMovesModel_editText_97 : decode b_EditMovesModel_editText 97 = .ok (.iload_n 1, 1) := by decide +kernel
theorem d_EditMovesModel_editText_98 : decode b_EditMovesModel_editText 98 = .ok (.isub, 1) := by decide +kernel
theorem d_EditMovesModel_editText_99 : decode b_EditMovesModel_editText 99 = .ok (.goto 4, 3) := by decide +kernel
theorem d_EditMovesModel_editText_102 : decode b_EditMovesModel_editText 102 = .ok (.iconst 0, 1) := by decide +kernel
theorem d_EditMovesModel_editText_103 : decode b_EditMovesModel_editText 103 = .ok (.putfield 137, 3) := by decide +kernel
theorem d_EditMovesModel_editText_106 : decode b_EditMovesModel_editText 106 = .ok (.aload_n 0, 1) := by decide +kernel
theorem d_EditMovesModel_editText_107 : decode b_EditMovesModel_editText 107 = .ok (.getfield 26, 3) := by decide +kernel
theorem d_EditMovesModel_editText_110 : decode b_EditMovesModel_editText 110 = .ok (.ireturn, 1) := by decide +kernel
abbrev b_EditMovesModel_edit : ByteArray := prog_8_method_34_code
abbrev y_EditMovesModel_edit : MethodName := ⟨"EditMovesModel", "edit", "()I"⟩
def ws_EditMovesModel_edit : List Cond := .code y_EditMovesModel_edit b_EditMovesModel_edit 3 (some .int) :: wAll
theorem d_EditMovesModel_edit_0 : decode b_EditMovesModel_edit 0 = .ok (.aload_n 0, 1) := by decide +kernel
theorem d_EditMovesModel_edit_1 : decode b_EditMovesModel_edit 1 = .ok (.invokevirtual 128, 3) := by decide +kernel
theorem d_EditMovesModel_edit_4 : decode b_EditMovesModel_edit 4 = .ok (.aload_n 0, 1) := by decide +kernel
theorem d_EditMovesModel_edit_5 : decode b_EditMovesModel_edit 5 = .ok (.iconst (-1), 1) := by decide +kernel
theorem d_EditMovesModel_edit_6 : decode b_EditMovesModel_edit 6 = .ok (.putfield 26, 3) := by decide +kernel
theorem d_EditMovesModel_edit_9 : decode b_EditMovesModel_edit 9 = .ok (.aload_n 0, 1) := by decide +kernel
theorem d_EditMovesModel_edit_10 : decode b_EditMovesModel_edit 10 = .ok (.iconst 0, 1) := by decide +kernel
theorem d_EditMovesModel_edit_11 : decode b_EditMovesModel_edit 11 = .ok (.putfield 140, 3) := by decide +kernel
theorem d_EditMovesModel_edit_14 : decode b_EditMovesModel_edit 14 = .ok (.aload_n 0, 1) := by decide +kernel
theorem d_EditMovesModel_edit_15 : decode b_EditMovesModel_edit 15 = .ok (.iconst 0, 1) := by decide +kernel
theorem d_EditMovesModel_edit_16 : decode b_EditMovesModel_edit 16 = .ok (.putfield 137, 3) := by decide +kernel
theorem d_EditMovesModel_edit_19 : decode b_EditMovesModel_edit 19 = .ok (.aload_n 0, 1) := by decide +kernel
theorem d_EditMovesModel_edit_20 : decode b_EditMovesModel_edit 20 = .ok (.iconst 0, 1) := by decide +kernel
theorem d_EditMovesModel_edit_21 : decode b_EditMovesModel_edit 21 = .ok (.putfield 160, 3) := by decide +kernel
theorem d_EditMovesModel_edit_24 : decode b_EditMovesModel_edit 24 = .ok (.aload_n 0, 1) := by decide +kernel
theorem d_EditMovesModel_edit_25 : decode b_EditMovesModel_edit 25 = .ok (.getfield 122, 3) := by decide +kernel
theorem d_EditMovesModel_edit_28 : decode b_EditMovesModel_edit 28 = .ok (.ifCond .eq 13, 3) := by decide +kernel
theorem d_EditMovesModel_edit_31 : decode b_EditMovesModel_edit 31 = .ok (.aload_n 0, 1) := by decide +kernel
theorem d_EditMovesModel_edit_32 : decode b_EditMovesModel_edit 32 = .ok (.invokevirtual 131, 3) := by decide +kernel
theorem d_EditMovesModel_edit_35 : decode b_EditMovesModel_edit 35 = .ok (.sipush 200, 3) := by decide +kernel
theorem d_EditMovesModel_edit_38 : decode b_EditMovesModel_edit 38 = .ok (.if_icmp .le 6, 3) := by decide +kernel
theorem d_EditMovesModel_edit_41 : decode b_EditMovesModel_edit 41 = .ok (.bipush (-2), 2) := by decide +kernel
theorem d_EditMovesModel_edit_43 : decode b_EditMovesModel_edit 43 = .ok (.ireturn, 1) := by decide +kernel
theorem d_EditMovesModel_edit_44 : decode b_EditMovesModel_edit 44 = .ok (.aload_n 0, 1) := by decide +kernel
theorem d_EditMovesModel_edit_45 : decode b_EditMovesModel_edit 45 = .ok (.getfield 122, 3) := by decide +kernel
theorem d_EditMovesModel_edit_48 : decode b_EditMovesModel_edit 48 = .ok (.iconst 1, 1) := by decide +kernel
theorem d_EditMovesModel_edit_49 : decode b_EditMovesModel_edit 49 = .ok (.if_icmp .ne 19, 3) := by decide +kernel
theorem d_EditMovesModel_edit_52 : decode b_EditMovesModel_edit 52 = .ok (.aload_n 0, 1) := by decide +kernel
theorem d_EditMovesModel_edit_53 : decode b_EditMovesModel_edit 53 = .ok (.invokevirtual 163, 3) := by decide +kernel
theorem d_EditMovesModel_edit_56 : decode b_EditMovesModel_edit 56 = .ok (.ifCond .le 12, 3) := by decide +kernel
theorem d_EditMovesModel_edit_59 : decode b_EditMovesModel_edit 59 = .ok (.aload_n 0, 1) := by decide +kernel
theorem d_EditMovesModel_edit_60 : decode b_EditMovesModel_edit 60 = .ok (.getfield 55, 3) := by decide +kernel
theorem d_EditMovesModel_edit_63 : decode b_EditMovesModel_edit 63 = .ok (.ifCond .eq 5, 3) := by decide +kernel
theorem d_EditMovesModel_edit_66 : decode b_EditMovesModel_edit 66 = .ok (.iconst (-1), 1) := by decide +kernel
theorem d_EditMovesModel_edit_67 : decode b_EditMovesModel_edit 67 = .ok (.ireturn, 1) := by decide +kernel
theorem d_EditMovesModel_edit_68 : decode b_EditMovesModel_edit 68 = .ok (.aload_n 0, 1) := by decide +kernel
theorem d_EditMovesModel_edit_69 : decode b_EditMovesModel_edit 69 = .ok (.iconst 0, 1) := by decide +kernel
theorem d_EditMovesModel_edit_70 : decode b_EditMovesModel_edit 70 = .ok (.putfield 26, 3) := by decide +kernel
theorem d_EditMovesModel_edit_73 : decode b_EditMovesModel_edit 73 = .ok (.aload_n 0, 1) := by decide +kernel
theorem d_EditMovesModel_edit_74 : decode b_EditMovesModel_edit 74 = .ok (.aload_n 0, 1) := by decide +kernel
theorem d_EditMovesModel_edit_75 : decode b_EditMovesModel_edit 75 = .ok (.getfield 122, 3) := by decide +kernel
theorem d_EditMovesModel_edit_78 : decode b_EditMovesModel_edit 78 = .ok (.putfield 160, 3) := by decide +kernel
theorem d_EditMovesModel_edit_81 : decode b_EditMovesModel_edit 81 = .ok (.aload_n 0, 1) := by decide +kernel
theorem d_EditMovesModel_edit_82 : decode b_EditMovesModel_edit 82 = .ok (.getfield 122, 3) := by decide +kernel
theorem d_EditMovesModel_edit_85 : decode b_EditMovesModel_edit 85 = .ok (.iconst 2, 1) := by decide +kernel
theorem d_EditMovesModel_edit_86 : decode b_EditMovesModel_edit 86 = .ok (.if_icmp .ne 8, 3) := by decide +kernel
theorem d_EditMovesModel_edit_89 : decode b_EditMovesModel_edit 89 = .ok (.aload_n 0, 1) := by decide +kernel
theorem d_EditMovesModel_edit_90 : decode b_EditMovesModel_edit 90 = .ok (.invokevirtual 166, 3) := by decide +kernel
theorem d_EditMovesModel_edit_93 : decode b_EditMovesModel_edit 93 = .ok (.ireturn, 1) := by decide +kernel
theorem d_EditMovesModel_edit_94 : decode b_EditMovesModel_edit 94 = .ok (.aload_n 0, 1) := by decide +kernel
theorem d_EditMovesModel_edit_95 : decode b_EditMovesModel_edit 95 = .ok (.invokevirtual 169, 3) := by decide +kernel
theorem d_EditMovesModel_edit_98 : decode b_EditMovesModel_edit 98 = .ok (.istore_n 1, 1) := by decide +kernel
theorem d_EditMovesModel_edit_99 : decode b_EditMovesModel_edit 99 = .ok (.aload_n 0, 1) := by decide +kernel
theorem d_EditMovesModel_edit_100 : decode b_EditMovesModel_edit 100 = .ok (.aload_n 0, 1) := by decide +kernel
theorem d_EditMovesModel_edit_101 : decode b_EditMovesModel_edit 101 = .ok (.getfield 103, 3) := by decide +kernel
theorem d_EditMovesModel_edit_104 : decode b_EditMovesModel_edit 104 = .ok (.aload_n 0, 1) := by decide +kernel
theorem d_EditMovesModel_edit_105 : decode b_EditMovesModel_edit 105 = .ok (.getfield 106, 3) := by decide +kernel
theorem d_EditMovesModel_edit_108 : decode b_EditMovesModel_edit 108 = .ok (.iadd, 1) := by decide +kernel
theorem d_EditMovesModel_edit_109 : decode b_EditMovesModel_edit 109 = .ok (.putfield 172, 3) := by decide +kernel
theorem d_EditMovesModel_edit_112 : decode b_EditMovesModel_edit 112 = .ok (.iconst 0, 1) := by decide +kernel
theorem d_EditMovesModel_edit_113 : decode b_EditMovesModel_edit 113 = .ok (.istore_n 2, 1) := by decide +kernel
theorem d_EditMovesModel_edit_114 : decode b_EditMovesModel_edit 114 = .ok (.iload_n 2, 1) := by decide +kernel
theorem d_EditMovesModel_edit_115 : decode b_EditMovesModel_edit 115 = .ok (.aload_n 0, 1) := by decide +kernel
theorem d_EditMovesModel_edit_116 : decode b_EditMovesModel_edit 116 = .ok (.getfield 172, 3) := by decide +kernel
theorem d_EditMovesModel_edit_119 : decode b_EditMovesModel_edit 119 = .ok (.if_icmp .ge 21, 3) := by decide +kernel
theorem d_EditMovesModel_edit_122 : decode b_EditMovesModel_edit 122 = .ok (.aload_n 0, 1) := by decide +kernel
theorem d_EditMovesModel_edit_123 : decode b_EditMovesModel_edit 123 = .ok (.getfield 35, 3) := by decide +kernel
theorem d_EditMovesModel_edit_126 : decode b_EditMovesModel_edit 126 = .ok (.iload_n 2, 1) := by decide +kernel
theorem d_EditMovesModel_edit_127 : decode b_EditMovesModel_edit 127 = .ok (.aload_n 0, 1) := by decide +kernel
theorem d_EditMovesModel_edit_128 : decode b_EditMovesModel_edit 128 = .ok (.getfield 29, 3) := by decide +kernel
theorem d_EditMovesModel_edit_131 : decode b_EditMovesModel_edit 131 = .ok (.iload_n 2, 1) := by decide +kernel
theorem d_EditMovesModel_edit_132 : decode b_EditMovesModel_edit 132 = .ok (.iaload, 1) := by decide +kernel
theorem d_EditMovesModel_edit_133 : decode b_EditMovesModel_edit 133 = .ok (.iastore, 1) := by decide +kernel
theorem d_EditMovesModel_edit_134 : decode b_EditMovesModel_edit 134 = .ok (.iinc 2 1, 3) := by decide +kernel
theorem d_EditMovesModel_edit_137 : decode b_EditMovesModel_edit 137 = .ok (.goto (-23), 3) := by decide +kernel
theorem d_EditMovesModel_edit_140 : decode b_EditMovesModel_edit 140 = .ok (.aload_n 0, 1) := by decide +kernel
theorem d_EditMovesModel_edit_141 : decode b_EditMovesModel_edit 141 = .ok (.aload_n 0, 1) := by decide +kernel
theorem d_EditMovesModel_edit_142 : decode b_EditMovesModel_edit 142 = .ok (.getfield 41, 3) := by decide +kernel
theorem d_EditMovesModel_edit_145 : decode b_EditMovesModel_edit 145 = .ok (.lconst 0, 1) := by decide +kernel
theorem d_EditMovesModel_edit_146 : decode b_EditMovesModel_edit 146 = .ok (.lcmp, 1) := by decide +kernel
theorem d_EditMovesModel_edit_147 : decode b_EditMovesModel_edit 147 = .ok (.ifCond .ge 11, 3) := by decide +kernel
theorem d_EditMovesModel_edit_150 : decode b_EditMovesModel_edit 150 = .ok (.iload_n 1, 1) := by decide +kernel
theorem d_EditMovesModel_edit_151 : decode b_EditMovesModel_edit 151 = .ok (.ifCond .ne 7, 3) := by decide +kernel
theorem d_EditMovesModel_edit_154 : decode b_EditMovesModel_edit 154 = .ok (.iconst 1, 1) := by decide +kernel
theorem d_EditMovesModel_edit_155 : decode b_EditMovesModel_edit 155 = .ok (.goto 4, 3) := by decide +kernel
theorem d_EditMovesModel_edit_158 : decode b_EditMovesModel_edit 158 = .ok (.iconst 0, 1) := by decide +kernel
theorem d_EditMovesModel_edit_159 : decode b_EditMovesModel_edit 159 = .ok (.putfield 150, 3) := by decide +kernel
theorem d_EditMovesModel_edit_162 : decode b_EditMovesModel_edit 162 = .ok (.iload_n 1, 1) := by decide +kernel
theorem d_EditMovesModel_edit_163 : decode b_EditMovesModel_edit 163 = .ok (.ifCond .eq 28, 3) := by decide +kernel
theorem d_EditMovesModel_edit_166 : decode b_EditMovesModel_edit 166 = .ok (.aload_n 0, 1) := by decide +kernel
theorem d_EditMovesModel_edit_167 : decode b_EditMovesModel_edit 167 = .ok (.getfield 51, 3) := by decide +kernel
theorem d_EditMovesModel_edit_170 : decode b_EditMovesModel_edit 170 = .ok (.ifCond .eq 21, 3) := by decide +kernel
theorem d_EditMovesModel_edit_173 : decode b_EditMovesModel_edit 173 = .ok (.aload_n 0, 1) := by decide +kernel
theorem d_EditMovesModel_edit_174 : decode b_EditMovesModel_edit 174 = .ok (.getfield 84, 3) := by decide +kernel
theorem d_EditMovesModel_edit_177 : decode b_EditMovesModel_edit 177 = .ok (.bipush 42, 2) := by decide +kernel
theorem d_EditMovesModel_edit_179 : decode b_EditMovesModel_edit 179 = .ok (.if_icmp .eq 12, 3) := by decide +kernel
theorem d_EditMovesModel_edit_182 : decode b_EditMovesModel_edit 182 = .ok (.aload_n 0, 1) := by decide +kernel
theorem d_EditMovesModel_edit_183 : decode b_EditMovesModel_edit 183 = .ok (.bipush 32, 2) := by decide +kernel
theorem d_EditMovesModel_edit_185 : decode b_EditMovesModel_edit 185 = .ok (.invokevirtual 175, 3) := by decide +kernel
theorem d_EditMovesModel_edit_188 : decode b_EditMovesModel_edit 188 = .ok (.goto 41, 3) := by decide +kernel
theorem d_EditMovesModel_edit_191 : decode b_EditMovesModel_edit 191 = .ok (.iload_n 1, 1) := by decide +kernel
theorem d_EditMovesModel_edit_192 : decode b_EditMovesModel_edit 192 = .ok (.ifCond .eq 33, 3) := by decide +kernel
theorem d_EditMovesModel_edit_195 : decode b_EditMovesModel_edit 195 = .ok (.aload_n 0, 1) := by decide +kernel
theorem d_EditMovesModel_edit_196 : decode b_EditMovesModel_edit 196 = .ok (.getfield 109, 3) := by decide +kernel
theorem d_EditMovesModel_edit_199 : decode b_EditMovesModel_edit 199 = .ok (.ifCond .ne 26, 3) := by decide +kernel
theorem d_EditMovesModel_edit_202 : decode b_EditMovesModel_edit 202 = .ok (.aload_n 0, 1) := by decide +kernel
theorem d_EditMovesModel_edit_203 : decode b_EditMovesModel_edit 203 = .ok (.aload_n 0, 1) := by decide +kernel
theorem d_EditMovesModel_edit_204 : decode b_EditMovesModel_edit 204 = .ok (.getfield 84, 3) := by decide +kernel
theorem d_EditMovesModel_edit_207 : decode b_EditMovesModel_edit 207 = .ok (.bipush 42, 2) := by decide +kernel
theorem d_EditMovesModel_edit_209 : decode b_EditMovesModel_edit 209 = .ok (.if_icmp .ne 8, 3) := by decide +kernel
theorem d_EditMovesModel_edit_212 : decode b_EditMovesModel_edit 212 = .ok (.bipush 42, 2) := by decide +kernel
theorem d_EditMovesModel_edit_214 : decode b_EditMovesModel_edit 214 = .ok (.goto 5, 3) := by decide +kernel
theorem d_EditMovesModel_edit_217 : decode b_EditMovesModel_edit 217 = .ok (.bipush 32, 2) := by decide +kernel
theorem d_EditMovesModel_edit_219 : decode b_EditMovesModel_edit 219 = .ok (.invokevirtual 175, 3) := by decide +kernel
theorem d_EditMovesModel_edit_222 : decode b_EditMovesModel_edit 222 = .ok (.goto 7, 3) := by decide +kernel
theorem d_EditMovesModel_edit_225 : decode b_EditMovesModel_edit 225 = .ok (.aload_n 0, 1) := by decide +kernel
theorem d_EditMovesModel_edit_226 : decode b_EditMovesModel_edit 226 = .ok (.invokevirtual 178, 3) := by decide +kernel
theorem d_EditMovesModel_edit_229 : decode b_EditMovesModel_edit 229 = .ok (.aload_n 0, 1) := by decide +kernel
theorem d_EditMovesModel_edit_230 : decode b_EditMovesModel_edit 230 = .ok (.getfield 26, 3) := by decide +kernel
theorem d_EditMovesModel_edit_233 : decode b_EditMovesModel_edit 233 = .ok (.ireturn, 1) := by decide +kernel
abbrev b_EditMovesModel_at : ByteArray := prog_8_method_35_code
abbrev y_EditMovesModel_at : MethodName := ⟨"EditMovesModel", "at", "(I)I"⟩
def ws_EditMovesModel_at : List Cond := .code y_EditMovesModel_at b_EditMovesModel_at 2 (some .int) :: wAll
theorem d_EditMovesModel_at_0 : decode b_EditMovesModel_at 0 = .ok (.iload_n 1, 1) := by decide +kernel
theorem d_EditMovesModel_at_1 : decode b_EditMovesModel_at 1 = .ok (.ifCond .lt 20, 3) := by decide +kernel
theorem d_EditMovesModel_at_4 : decode b_EditMovesModel_at 4 = .ok (.iload_n 1, 1) := by decide +kernel
theorem d_EditMovesModel_at_5 : decode b_EditMovesModel_at 5 = .ok (.aload_n 0, 1) := by decide +kernel
theorem d_EditMovesModel_at_6 : decode b_EditMovesModel_at 6 = .ok (.getfield 26, 3) := by decide +kernel
theorem d_EditMovesModel_at_9 : decode b_EditMovesModel_at 9 = .ok (.if_icmp .ge 12, 3) := by decide +kernel
theorem d_EditMovesModel_at_12 : decode b_EditMovesModel_at 12 = .ok (.aload_n 0, 1) := by decide +kernel
theorem d_EditMovesModel_at_13 : decode b_EditMovesModel_at 13 = .ok (.getfield 23, 3) := by decide +kernel
theorem d_EditMovesModel_at_16 : decode b_EditMovesModel_at 16 = .ok (.iload_n 1, 1) := by decide +kernel
theorem d_EditMovesModel_at_17 : decode b_EditMovesModel_at 17 = .ok (.iaload, 1) := by decide +kernel
theorem d_EditMovesModel_at_18 : decode b_EditMovesModel_at 18 = .ok (.goto 4, 3) := by decide +kernel
theorem d_EditMovesModel_at_21 : decode b_EditMovesModel_at 21 = .ok (.iconst (-1), 1) := by decide +kernel
theorem d_EditMovesModel_at_22 : decode b_EditMovesModel_at 22 = .ok (.ireturn, 1) := by decide +kernel
abbrev b_EditMovesModel_suppressed : ByteArray := prog_8_method_36_code
abbrev y_EditMovesModel_suppressed : MethodName := ⟨"EditMovesModel", "suppressed", "()I"⟩
def ws_EditMovesModel_suppressed : List Cond := .code y_EditMovesModel_suppressed b_EditMovesModel_suppressed 1 (some .int) :: wAll
theorem d_EditMovesModel_suppressed_0 : decode b_EditMovesModel_suppressed 0 = .ok (.aload_n 0, 1) := by decide +kernel
theorem d_EditMovesModel_suppressed_1 : decode b_EditMovesModel_suppressed 1 = .ok (.getfield 140, 3) := by decide +kernel
theorem d_EditMovesModel_suppressed_4 : decode b_EditMovesModel_suppressed 4 = .ok (.ireturn, 1) := by decide +kernel
abbrev b_EditMovesModel_cut : ByteArray := prog_8_method_37_code
abbrev y_EditMovesModel_cut : MethodName := ⟨"EditMovesModel", "cut", "()I"⟩
def ws_EditMovesModel_cut : List Cond := .code y_EditMovesModel_cut b_EditMovesModel_cut 1 (some .int) :: wAll
theorem d_EditMovesModel_cut_0 : decode b_EditMovesModel_cut 0 = .ok (.aload_n 0, 1) := by decide +kernel
theorem d_EditMovesModel_cut_1 : decode b_EditMovesModel_cut 1 = .ok (.getfield 137, 3) := by decide +kernel
theorem d_EditMovesModel_cut_4 : decode b_EditMovesModel_cut 4 = .ok (.ireturn, 1) := by decide +kernel
abbrev b_EditMovesModel_back : ByteArray := prog_8_method_38_code
abbrev y_EditMovesModel_back : MethodName := ⟨"EditMovesModel", "back", "()I"⟩
def ws_EditMovesModel_back : List Cond := .code y_EditMovesModel_back b_EditMovesModel_back 3 (some .int) :: wAll
theorem d_EditMovesModel_back_0 : decode b_EditMovesModel_back 0 = .ok (.aload_n 0, 1) := by decide +kernel
theorem d_EditMovesModel_back_1 : decode b_EditMovesModel_back 1 = .ok (.getfield 160, 3) := by decide +kernel
theorem d_EditMovesModel_back_4 : decode b_EditMovesModel_back 4 = .ok (.iconst 1, 1) := by decide +kernel
theorem d_EditMovesModel_back_5 : decode b_EditMovesModel_back 5 = .ok (.if_icmp .eq 5, 3) := by decide +kernel
theorem d_EditMovesModel_back_8 : decode b_EditMovesModel_back 8 = .ok (.iconst 0, 1) := by decide +kernel
theorem d_EditMovesModel_back_9 : decode b_EditMovesModel_back 9 = .ok (.ireturn, 1) := by decide +kernel
theorem d_EditMovesModel_back_10 : decode b_EditMovesModel_back 10 = .ok (.iconst 0, 1) := by decide +kernel
theorem d_EditMovesModel_back_11 : decode b_EditMovesModel_back 11 = .ok (.istore_n 1, 1) := by decide +kernel
theorem d_EditMovesModel_back_12 : decode b_EditMovesModel_back 12 = .ok (.iconst 0, 1) := by decide +kernel
theorem d_EditMovesModel_back_13 : decode b_EditMovesModel_back 13 = .ok (.istore_n 2, 1) := by decide +kernel
theorem d_EditMovesModel_back_14 : decode b_EditMovesModel_back 14 = .ok (.iload_n 2, 1) := by decide +kernel
theorem d_EditMovesModel_back_15 : decode b_EditMovesModel_back 15 = .ok (.aload_n 0, 1) := by decide +kernel
theorem d_EditMovesModel_back_16 : decode b_EditMovesModel_back 16 = .ok (.getfield 26, 3) := by decide +kernel
theorem d_EditMovesModel_back_19 : decode b_EditMovesModel_back 19 = .ok (.if_icmp .ge 52, 3) := by decide +kernel
theorem d_EditMovesModel_back_22 : decode b_EditMovesModel_back 22 = .ok (.iload_n 1, 1) := by decide +kernel
theorem d_EditMovesModel_back_23 : decode b_EditMovesModel_back 23 = .ok (.ifCond .ne 36, 3) := by decide +kernel
theorem d_EditMovesModel_back_26 : decode b_EditMovesModel_back 26 = .ok (.aload_n 0, 1) := by decide +kernel
theorem d_EditMovesModel_back_27 : decode b_EditMovesModel_back 27 = .ok (.getfield 23, 3) := by decide +kernel
theorem d_EditMovesModel_back_30 : decode b_EditMovesModel_back 30 = .ok (.iload_n 2, 1) := by decide +kernel
theorem d_EditMovesModel_back_31 : decode b_EditMovesModel_back 31 = .ok (.iaload, 1) := by decide +kernel
theorem d_EditMovesModel_back_32 : decode b_EditMovesModel_back 32 = .ok (.bipush 45, 2) := by decide +kernel
theorem d_EditMovesModel_back_34 : decode b_EditMovesModel_back 34 = .ok (.if_icmp .eq 25, 3) := by decide +kernel
theorem d_EditMovesModel_back_37 : decode b_EditMovesModel_back 37 = .ok (.aload_n 0, 1) := by decide +kernel
theorem d_EditMovesModel_back_38 : decode b_EditMovesModel_back 38 = .ok (.getfield 23, 3) := by decide +kernel
theorem d_EditMovesModel_back_41 : decode b_EditMovesModel_back 41 = .ok (.iload_n 2, 1) := by decide +kernel
theorem d_EditMovesModel_back_42 : decode b_EditMovesModel_back 42 = .ok (.iaload, 1) := by decide +kernel
theorem d_EditMovesModel_back_43 : decode b_EditMovesModel_back 43 = .ok (.bipush 67, 2) := by decide +kernel
theorem d_EditMovesModel_back_45 : decode b_EditMovesModel_back 45 = .ok (.if_icmp .eq 14, 3) := by decide +kernel
theorem d_EditMovesModel_back_48 : decode b_EditMovesModel_back 48 = .ok (.aload_n 0, 1) := by decide +kernel
theorem d_EditMovesModel_back_49 : decode b_EditMovesModel_back 49 = .ok (.getfield 23, 3) := by decide +kernel
theorem d_EditMovesModel_back_52 : decode b_EditMovesModel_back 52 = .ok (.iload_n 2, 1) := by decide +kernel
theorem d_EditMovesModel_back_53 : decode b_EditMovesModel_back 53 = .ok (.iaload, 1) := by decide +kernel
theorem d_EditMovesModel_back_54 : decode b_EditMovesModel_back 54 = .ok (.bipush 68, 2) := by decide +kernel
theorem d_EditMovesModel_back_56 : decode b_EditMovesModel_back 56 = .ok (.if_icmp .ne 7, 3) := by decide +kernel
theorem d_EditMovesModel_back_59 : decode b_EditMovesModel_back 59 = .ok (.iconst 1, 1) := by decide +kernel
theorem d_EditMovesModel_back_60 : decode b_EditMovesModel_back 60 = .ok (.goto 4, 3) := by decide +kernel
theorem d_EditMovesModel_back_63 : decode b_EditMovesModel_back 63 = .ok (.iconst 0, 1) := by decide +kernel
theorem d_EditMovesModel_back_64 : decode b_EditMovesModel_back 64 = .ok (.istore_n 1, 1) := by decide +kernel
theorem d_EditMovesModel_back_65 : decode b_EditMovesModel_back 65 = .ok (.iinc 2 1, 3) := by decide +kernel
theorem d_EditMovesModel_back_68 : decode b_EditMovesModel_back 68 = .ok (.goto (-54), 3) := by decide +kernel
theorem d_EditMovesModel_back_71 : decode b_EditMovesModel_back 71 = .ok (.aload_n 0, 1) := by decide +kernel
theorem d_EditMovesModel_back_72 : decode b_EditMovesModel_back 72 = .ok (.lconst 0, 1) := by decide +kernel
theorem d_EditMovesModel_back_73 : decode b_EditMovesModel_back 73 = .ok (.putfield 180, 3) := by decide +kernel
theorem d_EditMovesModel_back_76 : decode b_EditMovesModel_back 76 = .ok (.iconst 0, 1) := by decide +kernel
theorem d_EditMovesModel_back_77 : decode b_EditMovesModel_back 77 = .ok (.istore_n 2, 1) := by decide +kernel
theorem d_EditMovesModel_back_78 : decode b_EditMovesModel_back 78 = .ok (.iload_n 2, 1) := by decide +kernel
theorem d_EditMovesModel_back_79 : decode b_EditMovesModel_back 79 = .ok (.aload_n 0, 1) := by decide +kernel
theorem d_EditMovesModel_back_80 : decode b_EditMovesModel_back 80 = .ok (.getfield 172, 3) := by decide +kernel
theorem d_EditMovesModel_back_83 : decode b_EditMovesModel_back 83 = .ok (.if_icmp .ge 29, 3) := by decide +kernel
theorem d_EditMovesModel_back_86 : decode b_EditMovesModel_back 86 = .ok (.aload_n 0, 1) := by decide +kernel
theorem d_EditMovesModel_back_87 : decode b_EditMovesModel_back 87 = .ok (.ldc2_w 135, 3) := by decide +kernel
theorem d_EditMovesModel_back_90 : decode b_EditMovesModel_back 90 = .ok (.aload_n 0, 1) := by decide +kernel
theorem d_EditMovesModel_back_91 : decode b_EditMovesModel_back 91 = .ok (.getfield 180, 3) := by decide +kernel
theorem d_EditMovesModel_back_94 : decode b_EditMovesModel_back 94 = .ok (.lmul, 1) := by decide +kernel
theorem d_EditMovesModel_back_95 : decode b_EditMovesModel_back 95 = .ok (.aload_n 0, 1) := by decide +kernel
theorem d_EditMovesModel_back_96 : decode b_EditMovesModel_back 96 = .ok (.getfield 35, 3) := by decide +kernel
theorem d_EditMovesModel_back_99 : decode b_EditMovesModel_back 99 = .ok (.iload_n 2, 1) := by decide +kernel
theorem d_EditMovesModel_back_100 : decode b_EditMovesModel_back 100 = .ok (.iaload, 1) := by decide +kernel
theorem d_EditMovesModel_back_101 : decode b_EditMovesModel_back 101 = .ok (.i2l, 1) := by decide +kernel
theorem d_EditMovesModel_back_102 : decode b_EditMovesModel_back 102 = .ok (.ladd, 1) := by decide +kernel
theorem d_EditMovesModel_back_103 : decode b_EditMovesModel_back 103 = .ok (.putfield 180, 3) := by decide +kernel
theorem d_EditMovesModel_back_106 : decode b_EditMovesModel_back 106 = .ok (.iinc 2 1, 3) := by decide +kernel
theorem d_EditMovesModel_back_109 : decode b_EditMovesModel_back 109 = .ok (.goto (-31), 3) := by decide +kernel
theorem d_EditMovesModel_back_112 : decode b_EditMovesModel_back 112 = .ok (.aload_n 0, 1) := by decide +kernel
theorem d_EditMovesModel_back_113 : decode b_EditMovesModel_back 113 = .ok (.iload_n 1, 1) := by decide +kernel
theorem d_EditMovesModel_back_114 : decode b_EditMovesModel_back 114 = .ok (.ifCond .eq 11, 3) := by decide +kernel
theorem d_EditMovesModel_back_117 : decode b_EditMovesModel_back 117 = .ok (.aload_n 0, 1) := by decide +kernel
theorem d_EditMovesModel_back_118 : decode b_EditMovesModel_back 118 = .ok (.getfield 180, 3) := by decide +kernel
theorem d_EditMovesModel_back_121 : decode b_EditMovesModel_back 121 = .ok (.lneg, 1) := by decide +kernel
theorem d_EditMovesModel_back_122 : decode b_EditMovesModel_back 122 = .ok (.goto 7, 3) := by decide +kernel
theorem d_EditMovesModel_back_125 : decode b_EditMovesModel_back 125 = .ok (.aload_n 0, 1) := by decide +kernel
theorem d_EditMovesModel_back_126 : decode b_EditMovesModel_back 126 = .ok (.getfield 180, 3) := by decide +kernel
theorem d_EditMovesModel_back_129 : decode b_EditMovesModel_back 129 = .ok (.putfield 180, 3) := by decide +kernel
theorem d_EditMovesModel_back_132 : decode b_EditMovesModel_back 132 = .ok (.iconst 1, 1) := by decide +kernel
theorem d_EditMovesModel_back_133 : decode b_EditMovesModel_back 133 = .ok (.ireturn, 1) := by decide +kernel
abbrev b_EditMovesModel_number : ByteArray := prog_8_method_39_code
abbrev y_EditMovesModel_number : MethodName := ⟨"EditMovesModel", "number", "()J"⟩
def ws_EditMovesModel_number : List Cond := .code y_EditMovesModel_number b_EditMovesModel_number 1 (some .long) :: wAll
theorem d_EditMovesModel_number_0 : decode b_EditMovesModel_number 0 = .ok (.aload_n 0, 1) := by decide +kernel
theorem d_EditMovesModel_number_1 : decode b_EditMovesModel_number 1 = .ok (.getfield 180, 3) := by decide +kernel
theorem d_EditMovesModel_number_4 : decode b_EditMovesModel_number 4 = .ok (.lreturn, 1) := by decide +kernel
