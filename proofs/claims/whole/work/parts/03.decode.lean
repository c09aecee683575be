abbrev b_StringLatin1_canEncode : ByteArray := prog_12_method_4_code
abbrev y_StringLatin1_canEncode : MethodName := ⟨"java/lang/StringLatin1", "canEncode", "(I)Z"⟩
def ws_StringLatin1_canEncode : List Cond := .code y_StringLatin1_canEncode b_StringLatin1_canEncode 1 (some .boolean) :: wAll
theorem d_StringLatin1_canEncode_0 : decode b_StringLatin1_canEncode 0 = .ok (.iload_n 0, 1) := by decide +kernel
theorem d_StringLatin1_canEncode_1 : decode b_StringLatin1_canEncode 1 = .ok (.ifCond .lt 14, 3) := by decide +kernel
theorem d_StringLatin1_canEncode_4 : decode b_StringLatin1_canEncode 4 = .ok (.iload_n 0, 1) := by decide +kernel
theorem d_StringLatin1_canEncode_5 : decode b_StringLatin1_canEncode 5 = .ok (.sipush 255, 3) := by decide +kernel
theorem d_StringLatin1_canEncode_8 : decode b_StringLatin1_canEncode 8 = .ok (.if_icmp .gt 7, 3) := by decide +kernel
theorem d_StringLatin1_canEncode_11 : decode b_StringLatin1_canEncode 11 = .ok (.iconst 1, 1) := by decide +kernel
theorem d_StringLatin1_canEncode_12 : decode b_StringLatin1_canEncode 12 = .ok (.goto 4, 3) := by decide +kernel
theorem d_StringLatin1_canEncode_15 : decode b_StringLatin1_canEncode 15 = .ok (.iconst 0, 1) := by decide +kernel
theorem d_StringLatin1_canEncode_16 : decode b_StringLatin1_canEncode 16 = .ok (.ireturn, 1) := by decide +kernel
abbrev b_StringLatin1_indexOfChar : ByteArray := prog_12_method_23_code
abbrev y_StringLatin1_indexOfChar : MethodName := ⟨"java/lang/StringLatin1", "indexOfChar", "([BIII)I"⟩
def ws_StringLatin1_indexOfChar : List Cond := .code y_StringLatin1_indexOfChar b_StringLatin1_indexOfChar 6 (some .int) :: wAll
theorem d_StringLatin1_indexOfChar_0 : decode b_StringLatin1_indexOfChar 0 = .ok (.iload_n 1, 1) := by decide +kernel
theorem d_StringLatin1_indexOfChar_1 : decode b_StringLatin1_indexOfChar 1 = .ok (.i2b, 1) := by decide +kernel
theorem d_StringLatin1_indexOfChar_2 : decode b_StringLatin1_indexOfChar 2 = .ok (.istore 4, 2) := by decide +kernel
theorem d_StringLatin1_indexOfChar_4 : decode b_StringLatin1_indexOfChar 4 = .ok (.iload_n 2, 1) := by decide +kernel
theorem d_StringLatin1_indexOfChar_5 : decode b_StringLatin1_indexOfChar 5 = .ok (.istore 5, 2) := by decide +kernel
theorem d_StringLatin1_indexOfChar_7 : decode b_StringLatin1_indexOfChar 7 = .ok (.iload 5, 2) := by decide +kernel
theorem d_StringLatin1_indexOfChar_9 : decode b_StringLatin1_indexOfChar 9 = .ok (.iload_n 3, 1) := by decide +kernel
theorem d_StringLatin1_indexOfChar_10 : decode b_StringLatin1_indexOfChar 10 = .ok (.if_icmp .ge 21, 3) := by decide +kernel
theorem d_StringLatin1_indexOfChar_13 : decode b_StringLatin1_indexOfChar 13 = .ok (.aload_n 0, 1) := by decide +kernel
theorem d_StringLatin1_indexOfChar_14 : decode b_StringLatin1_indexOfChar 14 = .ok (.iload 5, 2) := by decide +kernel
theorem d_StringLatin1_indexOfChar_16 : decode b_StringLatin1_indexOfChar 16 = .ok (.baload, 1) := by decide +kernel
theorem d_StringLatin1_indexOfChar_17 : decode b_StringLatin1_indexOfChar 17 = .ok (.iload 4, 2) := by decide +kernel
theorem d_StringLatin1_indexOfChar_19 : decode b_StringLatin1_indexOfChar 19 = .ok (.if_icmp .ne 6, 3) := by decide +kernel
theorem d_StringLatin1_indexOfChar_22 : decode b_StringLatin1_indexOfChar 22 = .ok (.iload 5, 2) := by decide +kernel
theorem d_StringLatin1_indexOfChar_24 : decode b_StringLatin1_indexOfChar 24 = .ok (.ireturn, 1) := by decide +kernel
theorem d_StringLatin1_indexOfChar_25 : decode b_StringLatin1_indexOfChar 25 = .ok (.iinc 5 1, 3) := by decide +kernel
theorem d_StringLatin1_indexOfChar_28 : decode b_StringLatin1_indexOfChar 28 = .ok (.goto (-21), 3) := by decide +kernel
theorem d_StringLatin1_indexOfChar_31 : decode b_StringLatin1_indexOfChar 31 = .ok (.iconst (-1), 1) := by decide +kernel
theorem d_StringLatin1_indexOfChar_32 : decode b_StringLatin1_indexOfChar 32 = .ok (.ireturn, 1) := by decide +kernel
abbrev b_StringLatin1_indexOf : ByteArray := prog_12_method_22_code
abbrev y_StringLatin1_indexOf : MethodName := ⟨"java/lang/StringLatin1", "indexOf", "([BIII)I"⟩
def ws_StringLatin1_indexOf : List Cond := .code y_StringLatin1_indexOf b_StringLatin1_indexOf 4 (some .int) :: wAll
theorem d_StringLatin1_indexOf_0 : decode b_StringLatin1_indexOf 0 = .ok (.iload_n 1, 1) := by decide +kernel
theorem d_StringLatin1_indexOf_1 : decode b_StringLatin1_indexOf 1 = .ok (.invokestatic 88, 3) := by decide +kernel
theorem d_StringLatin1_indexOf_4 : decode b_StringLatin1_indexOf 4 = .ok (.ifCond .ne 5, 3) := by decide +kernel
theorem d_StringLatin1_indexOf_7 : decode b_StringLatin1_indexOf 7 = .ok (.iconst (-1), 1) := by decide +kernel
theorem d_StringLatin1_indexOf_8 : decode b_StringLatin1_indexOf 8 = .ok (.ireturn, 1) := by decide +kernel
theorem d_StringLatin1_indexOf_9 : decode b_StringLatin1_indexOf 9 = .ok (.iload_n 2, 1) := by decide +kernel
theorem d_StringLatin1_indexOf_10 : decode b_StringLatin1_indexOf 10 = .ok (.iconst 0, 1) := by decide +kernel
theorem d_StringLatin1_indexOf_11 : decode b_StringLatin1_indexOf 11 = .ok (.invokestatic 92, 3) := by decide +kernel
theorem d_StringLatin1_indexOf_14 : decode b_StringLatin1_indexOf 14 = .ok (.istore_n 2, 1) := by decide +kernel
theorem d_StringLatin1_indexOf_15 : decode b_StringLatin1_indexOf 15 = .ok (.iload_n 3, 1) := by decide +kernel
theorem d_StringLatin1_indexOf_16 : decode b_StringLatin1_indexOf 16 = .ok (.aload_n 0, 1) := by decide +kernel
theorem d_StringLatin1_indexOf_17 : decode b_StringLatin1_indexOf 17 = .ok (.arraylength, 1) := by decide +kernel
theorem d_StringLatin1_indexOf_18 : decode b_StringLatin1_indexOf 18 = .ok (.invokestatic 38, 3) := by decide +kernel
theorem d_StringLatin1_indexOf_21 : decode b_StringLatin1_indexOf 21 = .ok (.istore_n 3, 1) := by decide +kernel
theorem d_StringLatin1_indexOf_22 : decode b_StringLatin1_indexOf 22 = .ok (.iload_n 2, 1) := by decide +kernel
theorem d_StringLatin1_indexOf_23 : decode b_StringLatin1_indexOf 23 = .ok (.iload_n 3, 1) := by decide +kernel
theorem d_StringLatin1_indexOf_24 : decode b_StringLatin1_indexOf 24 = .ok (.if_icmp .lt 5, 3) := by decide +kernel
theorem d_StringLatin1_indexOf_27 : decode b_StringLatin1_indexOf 27 = .ok (.iconst (-1), 1) := by decide +kernel
theorem d_StringLatin1_indexOf_28 : decode b_StringLatin1_indexOf 28 = .ok (.ireturn, 1) := by decide +kernel
theorem d_StringLatin1_indexOf_29 : decode b_StringLatin1_indexOf 29 = .ok (.aload_n 0, 1) := by decide +kernel
theorem d_StringLatin1_indexOf_30 : decode b_StringLatin1_indexOf 30 = .ok (.iload_n 1, 1) := by decide +kernel
theorem d_StringLatin1_indexOf_31 : decode b_StringLatin1_indexOf 31 = .ok (.iload_n 2, 1) := by decide +kernel
theorem d_StringLatin1_indexOf_32 : decode b_StringLatin1_indexOf 32 = .ok (.iload_n 3, 1) := by decide +kernel
theorem d_StringLatin1_indexOf_33 : decode b_StringLatin1_indexOf 33 = .ok (.invokestatic 95, 3) := by decide +kernel
theorem d_StringLatin1_indexOf_36 : decode b_StringLatin1_indexOf 36 = .ok (.ireturn, 1) := by decide +kernel
abbrev b_String_coder : ByteArray := prog_11_method_152_code
abbrev y_String_coder : MethodName := ⟨"java/lang/String", "coder", "()B"⟩
def ws_String_coder : List Cond := .code y_String_coder b_String_coder 1 (some .byte) :: wAll
theorem d_String_coder_0 : decode b_String_coder 0 = .ok (.getstatic 38, 3) := by decide +kernel
theorem d_String_coder_3 : decode b_String_coder 3 = .ok (.ifCond .eq 10, 3) := by decide +kernel
theorem d_String_coder_6 : decode b_String_coder 6 = .ok (.aload_n 0, 1) := by decide +kernel
theorem d_String_coder_7 : decode b_String_coder 7 = .ok (.getfield 15, 3) := by decide +kernel
theorem d_String_coder_10 : decode b_String_coder 10 = .ok (.goto 4, 3) := by decide +kernel
theorem d_String_coder_13 : decode b_String_coder 13 = .ok (.iconst 1, 1) := by decide +kernel
theorem d_String_coder_14 : decode b_String_coder 14 = .ok (.ireturn, 1) := by decide +kernel
abbrev b_String_length : ByteArray := prog_11_method_54_code
abbrev y_String_length : MethodName := ⟨"java/lang/String", "length", "()I"⟩
def ws_String_length : List Cond := .code y_String_length b_String_length 1 (some .int) :: wAll
theorem d_String_length_0 : decode b_String_length 0 = .ok (.aload_n 0, 1) := by decide +kernel
theorem d_String_length_1 : decode b_String_length 1 = .ok (.getfield 9, 3) := by decide +kernel
theorem d_String_length_4 : decode b_String_length 4 = .ok (.arraylength, 1) := by decide +kernel
theorem d_String_length_5 : decode b_String_length 5 = .ok (.aload_n 0, 1) := by decide +kernel
theorem d_String_length_6 : decode b_String_length 6 = .ok (.invokevirtual 335, 3) := by decide +kernel
theorem d_String_length_9 : decode b_String_length 9 = .ok (.ishr, 1) := by decide +kernel
theorem d_String_length_10 : decode b_String_length 10 = .ok (.ireturn, 1) := by decide +kernel
abbrev b_String_isLatin1 : ByteArray := prog_11_method_154_code
abbrev y_String_isLatin1 : MethodName := ⟨"java/lang/String", "isLatin1", "()Z"⟩
def ws_String_isLatin1 : List Cond := .code y_String_isLatin1 b_String_isLatin1 1 (some .boolean) :: wAll
theorem d_String_isLatin1_0 : decode b_String_isLatin1 0 = .ok (.getstatic 38, 3) := by decide +kernel
theorem d_String_isLatin1_3 : decode b_String_isLatin1 3 = .ok (.ifCond .eq 14, 3) := by decide +kernel
theorem d_String_isLatin1_6 : decode b_String_isLatin1 6 = .ok (.aload_n 0, 1) := by decide +kernel
theorem d_String_isLatin1_7 : decode b_String_isLatin1 7 = .ok (.getfield 15, 3) := by decide +kernel
theorem d_String_isLatin1_10 : decode b_String_isLatin1 10 = .ok (.ifCond .ne 7, 3) := by decide +kernel
theorem d_String_isLatin1_13 : decode b_String_isLatin1 13 = .ok (.iconst 1, 1) := by decide +kernel
theorem d_String_isLatin1_14 : decode b_String_isLatin1 14 = .ok (.goto 4, 3) := by decide +kernel
theorem d_String_isLatin1_17 : decode b_String_isLatin1 17 = .ok (.iconst 0, 1) := by decide +kernel
theorem d_String_isLatin1_18 : decode b_String_isLatin1 18 = .ok (.ireturn, 1) := by decide +kernel
abbrev b_String_indexOf2 : ByteArray := prog_11_method_80_code
abbrev y_String_indexOf2 : MethodName := ⟨"java/lang/String", "indexOf", "(II)I"⟩
def ws_String_indexOf2 : List Cond := .code y_String_indexOf2 b_String_indexOf2 3 (some .int) :: wAll
theorem d_String_indexOf2_0 : decode b_String_indexOf2 0 = .ok (.aload_n 0, 1) := by decide +kernel
theorem d_String_indexOf2_1 : decode b_String_indexOf2 1 = .ok (.invokevirtual 492, 3) := by decide +kernel
theorem d_String_indexOf2_4 : decode b_String_indexOf2 4 = .ok (.ifCond .eq 19, 3) := by decide +kernel
theorem d_String_indexOf2_7 : decode b_String_indexOf2 7 = .ok (.aload_n 0, 1) := by decide +kernel
theorem d_String_indexOf2_8 : decode b_String_indexOf2 8 = .ok (.getfield 9, 3) := by decide +kernel
theorem d_String_indexOf2_11 : decode b_String_indexOf2 11 = .ok (.iload_n 1, 1) := by decide +kernel
theorem d_String_indexOf2_12 : decode b_String_indexOf2 12 = .ok (.iload_n 2, 1) := by decide +kernel
theorem d_String_indexOf2_13 : decode b_String_indexOf2 13 = .ok (.aload_n 0, 1) := by decide +kernel
theorem d_String_indexOf2_14 : decode b_String_indexOf2 14 = .ok (.invokevirtual 505, 3) := by decide +kernel
theorem d_String_indexOf2_17 : decode b_String_indexOf2 17 = .ok (.invokestatic 637, 3) := by decide +kernel
theorem d_String_indexOf2_20 : decode b_String_indexOf2 20 = .ok (.goto 16, 3) := by decide +kernel
theorem d_String_indexOf2_36 : decode b_String_indexOf2 36 = .ok (.ireturn, 1) := by decide +kernel
abbrev b_String_indexOf : ByteArray := prog_11_method_79_code
abbrev y_String_indexOf : MethodName := ⟨"java/lang/String", "indexOf", "(I)I"⟩
def ws_String_indexOf : List Cond := .code y_String_indexOf b_String_indexOf 2 (some .int) :: wAll
theorem d_String_indexOf_0 : decode b_String_indexOf 0 = .ok (.aload_n 0, 1) := by decide +kernel
theorem d_String_indexOf_1 : decode b_String_indexOf 1 = .ok (.iload_n 1, 1) := by decide +kernel
theorem d_String_indexOf_2 : decode b_String_indexOf 2 = .ok (.iconst 0, 1) := by decide +kernel
theorem d_String_indexOf_3 : decode b_String_indexOf 3 = .ok (.invokevirtual 633, 3) := by decide +kernel
theorem d_String_indexOf_6 : decode b_String_indexOf 6 = .ok (.ireturn, 1) := by decide +kernel
abbrev b_EditMoves_isDigit : ByteArray := prog_1_method_18_code
abbrev y_EditMoves_isDigit : MethodName := ⟨"EditMoves", "isDigit", "(I)Z"⟩
def ws_EditMoves_isDigit : List Cond := .code y_EditMoves_isDigit b_EditMoves_isDigit 1 (some .boolean) :: wAll
theorem d_EditMoves_isDigit_0 : decode b_EditMoves_isDigit 0 = .ok (.iload_n 0, 1) := by decide +kernel
theorem d_EditMoves_isDigit_1 : decode b_EditMoves_isDigit 1 = .ok (.bipush 48, 2) := by decide +kernel
theorem d_EditMoves_isDigit_3 : decode b_EditMoves_isDigit 3 = .ok (.if_icmp .lt 13, 3) := by decide +kernel
theorem d_EditMoves_isDigit_6 : decode b_EditMoves_isDigit 6 = .ok (.iload_n 0, 1) := by decide +kernel
theorem d_EditMoves_isDigit_7 : decode b_EditMoves_isDigit 7 = .ok (.bipush 57, 2) := by decide +kernel
theorem d_EditMoves_isDigit_9 : decode b_EditMoves_isDigit 9 = .ok (.if_icmp .gt 7, 3) := by decide +kernel
theorem d_EditMoves_isDigit_12 : decode b_EditMoves_isDigit 12 = .ok (.iconst 1, 1) := by decide +kernel
theorem d_EditMoves_isDigit_13 : decode b_EditMoves_isDigit 13 = .ok (.goto 4, 3) := by decide +kernel
theorem d_EditMoves_isDigit_16 : decode b_EditMoves_isDigit 16 = .ok (.iconst 0, 1) := by decide +kernel
theorem d_EditMoves_isDigit_17 : decode b_EditMoves_isDigit 17 = .ok (.ireturn, 1) := by decide +kernel
abbrev b_EditMoves_toGreat : ByteArray := prog_1_method_19_code
abbrev y_EditMoves_toGreat : MethodName := ⟨"EditMoves", "toGreat", "(I)I"⟩
def ws_EditMoves_toGreat : List Cond := .code y_EditMoves_toGreat b_EditMoves_toGreat 1 (some .int) :: wAll
theorem d_EditMoves_toGreat_0 : decode b_EditMoves_toGreat 0 = .ok (.iload_n 0, 1) := by decide +kernel
theorem d_EditMoves_toGreat_1 : decode b_EditMoves_toGreat 1 = .ok (.bipush 97, 2) := by decide +kernel
theorem d_EditMoves_toGreat_3 : decode b_EditMoves_toGreat 3 = .ok (.if_icmp .lt 19, 3) := by decide +kernel
theorem d_EditMoves_toGreat_6 : decode b_EditMoves_toGreat 6 = .ok (.iload_n 0, 1) := by decide +kernel
theorem d_EditMoves_toGreat_7 : decode b_EditMoves_toGreat 7 = .ok (.bipush 122, 2) := by decide +kernel
theorem d_EditMoves_toGreat_9 : decode b_EditMoves_toGreat 9 = .ok (.if_icmp .gt 13, 3) := by decide +kernel
theorem d_EditMoves_toGreat_12 : decode b_EditMoves_toGreat 12 = .ok (.iload_n 0, 1) := by decide +kernel
theorem d_EditMoves_toGreat_13 : decode b_EditMoves_toGreat 13 = .ok (.bipush 97, 2) := by decide +kernel
theorem d_EditMoves_toGreat_15 : decode b_EditMoves_toGreat 15 = .ok (.isub, 1) := by decide +kernel
theorem d_EditMoves_toGreat_16 : decode b_EditMoves_toGreat 16 = .ok (.bipush 65, 2) := by decide +kernel
theorem d_EditMoves_toGreat_18 : decode b_EditMoves_toGreat 18 = .ok (.iadd, 1) := by decide +kernel
theorem d_EditMoves_toGreat_19 : decode b_EditMoves_toGreat 19 = .ok (.goto 4, 3) := by decide +kernel
theorem d_EditMoves_toGreat_22 : decode b_EditMoves_toGreat 22 = .ok (.iload_n 0, 1) := by decide +kernel
theorem d_EditMoves_toGreat_23 : decode b_EditMoves_toGreat 23 = .ok (.ireturn, 1) := by decide +kernel
abbrev b_Line_clear : ByteArray := prog_4_method_2_code
abbrev y_Line_clear : MethodName := ⟨"EditMoves$Line", "clear", "()V"⟩
def ws_Line_clear : List Cond := .code y_Line_clear b_Line_clear 1 none :: wAll
theorem d_Line_clear_0 : decode b_Line_clear 0 = .ok (.aload_n 0, 1) := by decide +kernel
theorem d_Line_clear_1 : decode b_Line_clear 1 = .ok (.iconst 0, 1) := by decide +kernel
theorem d_Line_clear_2 : decode b_Line_clear 2 = .ok (.putfield 13, 3) := by decide +kernel
theorem d_Line_clear_5 : decode b_Line_clear 5 = .ok (.return_, 1) := by decide +kernel
abbrev b_Line_add : ByteArray := prog_4_method_3_code
abbrev y_Line_add : MethodName := ⟨"EditMoves$Line", "add", "(I)V"⟩
def ws_Line_add : List Cond := .code y_Line_add b_Line_add 2 none :: wAll
theorem d_Line_add_0 : decode b_Line_add 0 = .ok (.aload_n 0, 1) := by decide +kernel
theorem d_Line_add_1 : decode b_Line_add 1 = .ok (.getfield 13, 3) := by decide +kernel
theorem d_Line_add_4 : decode b_Line_add 4 = .ok (.ifCond .lt 35, 3) := by decide +kernel
theorem d_Line_add_7 : decode b_Line_add 7 = .ok (.aload_n 0, 1) := by decide +kernel
theorem d_Line_add_8 : decode b_Line_add 8 = .ok (.getfield 13, 3) := by decide +kernel
theorem d_Line_add_11 : decode b_Line_add 11 = .ok (.aload_n 0, 1) := by decide +kernel
theorem d_Line_add_12 : decode b_Line_add 12 = .ok (.getfield 9, 3) := by decide +kernel
theorem d_Line_add_15 : decode b_Line_add 15 = .ok (.arraylength, 1) := by decide +kernel
theorem d_Line_add_16 : decode b_Line_add 16 = .ok (.if_icmp .ge 23, 3) := by decide +kernel
theorem d_Line_add_19 : decode b_Line_add 19 = .ok (.aload_n 0, 1) := by decide +kernel
theorem d_Line_add_20 : decode b_Line_add 20 = .ok (.getfield 9, 3) := by decide +kernel
theorem d_Line_add_23 : decode b_Line_add 23 = .ok (.aload_n 0, 1) := by decide +kernel
theorem d_Line_add_24 : decode b_Line_add 24 = .ok (.getfield 13, 3) := by decide +kernel
theorem d_Line_add_27 : decode b_Line_add 27 = .ok (.iload_n 1, 1) := by decide +kernel
theorem d_Line_add_28 : decode b_Line_add 28 = .ok (.iastore, 1) := by decide +kernel
theorem d_Line_add_29 : decode b_Line_add 29 = .ok (.aload_n 0, 1) := by decide +kernel
theorem d_Line_add_30 : decode b_Line_add 30 = .ok (.dup, 1) := by decide +kernel
theorem d_Line_add_31 : decode b_Line_add 31 = .ok (.getfield 13, 3) := by decide +kernel
theorem d_Line_add_34 : decode b_Line_add 34 = .ok (.iconst 1, 1) := by decide +kernel
theorem d_Line_add_35 : decode b_Line_add 35 = .ok (.iadd, 1) := by decide +kernel
theorem d_Line_add_36 : decode b_Line_add 36 = .ok (.putfield 13, 3) := by decide +kernel
theorem d_Line_add_39 : decode b_Line_add 39 = .ok (.return_, 1) := by decide +kernel
abbrev b_Line_character : ByteArray := prog_4_method_4_code
abbrev y_Line_character : MethodName := ⟨"EditMoves$Line", "character", "(I)I"⟩
def ws_Line_character : List Cond := .code y_Line_character b_Line_character 2 (some .int) :: wAll
theorem d_Line_character_0 : decode b_Line_character 0 = .ok (.iload_n 1, 1) := by decide +kernel
theorem d_Line_character_1 : decode b_Line_character 1 = .ok (.ifCond .lt 29, 3) := by decide +kernel
theorem d_Line_character_4 : decode b_Line_character 4 = .ok (.iload_n 1, 1) := by decide +kernel
theorem d_Line_character_5 : decode b_Line_character 5 = .ok (.aload_n 0, 1) := by decide +kernel
theorem d_Line_character_6 : decode b_Line_character 6 = .ok (.getfield 13, 3) := by decide +kernel
theorem d_Line_character_9 : decode b_Line_character 9 = .ok (.if_icmp .ge 21, 3) := by decide +kernel
theorem d_Line_character_12 : decode b_Line_character 12 = .ok (.iload_n 1, 1) := by decide +kernel
theorem d_Line_character_13 : decode b_Line_character 13 = .ok (.aload_n 0, 1) := by decide +kernel
theorem d_Line_character_14 : decode b_Line_character 14 = .ok (.getfield 9, 3) := by decide +kernel
theorem d_Line_character_17 : decode b_Line_character 17 = .ok (.arraylength, 1) := by decide +kernel
theorem d_Line_character_18 : decode b_Line_character 18 = .ok (.if_icmp .ge 12, 3) := by decide +kernel
theorem d_Line_character_21 : decode b_Line_character 21 = .ok (.aload_n 0, 1) := by decide +kernel
theorem d_Line_character_22 : decode b_Line_character 22 = .ok (.getfield 9, 3) := by decide +kernel
theorem d_Line_character_25 : decode b_Line_character 25 = .ok (.iload_n 1, 1) := by decide +kernel
theorem d_Line_character_26 : decode b_Line_character 26 = .ok (.iaload, 1) := by decide +kernel
theorem d_Line_character_27 : decode b_Line_character 27 = .ok (.goto 4, 3) := by decide +kernel
theorem d_Line_character_30 : decode b_Line_character 30 = .ok (.iconst 0, 1) := by decide +kernel
theorem d_Line_character_31 : decode b_Line_character 31 = .ok (.ireturn, 1) := by decide +kernel
abbrev b_Picture_sign : ByteArray := prog_5_method_3_code
abbrev y_Picture_sign : MethodName := ⟨"EditMoves$Picture", "sign", "(I)I"⟩
def ws_Picture_sign : List Cond := .code y_Picture_sign b_Picture_sign 2 (some .int) :: wAll
theorem d_Picture_sign_0 : decode b_Picture_sign 0 = .ok (.iload_n 1, 1) := by decide +kernel
theorem d_Picture_sign_1 : decode b_Picture_sign 1 = .ok (.ifCond .lt 29, 3) := by decide +kernel
theorem d_Picture_sign_4 : decode b_Picture_sign 4 = .ok (.iload_n 1, 1) := by decide +kernel
theorem d_Picture_sign_5 : decode b_Picture_sign 5 = .ok (.aload_n 0, 1) := by decide +kernel
theorem d_Picture_sign_6 : decode b_Picture_sign 6 = .ok (.getfield 44, 3) := by decide +kernel
theorem d_Picture_sign_9 : decode b_Picture_sign 9 = .ok (.if_icmp .ge 21, 3) := by decide +kernel
theorem d_Picture_sign_12 : decode b_Picture_sign 12 = .ok (.iload_n 1, 1) := by decide +kernel
theorem d_Picture_sign_13 : decode b_Picture_sign 13 = .ok (.aload_n 0, 1) := by decide +kernel
theorem d_Picture_sign_14 : decode b_Picture_sign 14 = .ok (.getfield 9, 3) := by decide +kernel
theorem d_Picture_sign_17 : decode b_Picture_sign 17 = .ok (.arraylength, 1) := by decide +kernel
theorem d_Picture_sign_18 : decode b_Picture_sign 18 = .ok (.if_icmp .ge 12, 3) := by decide +kernel
theorem d_Picture_sign_21 : decode b_Picture_sign 21 = .ok (.aload_n 0, 1) := by decide +kernel
theorem d_Picture_sign_22 : decode b_Picture_sign 22 = .ok (.getfield 9, 3) := by decide +kernel
theorem d_Picture_sign_25 : decode b_Picture_sign 25 = .ok (.iload_n 1, 1) := by decide +kernel
theorem d_Picture_sign_26 : decode b_Picture_sign 26 = .ok (.iaload, 1) := by decide +kernel
theorem d_Picture_sign_27 : decode b_Picture_sign 27 = .ok (.goto 4, 3) := by decide +kernel
theorem d_Picture_sign_30 : decode b_Picture_sign 30 = .ok (.iconst 0, 1) := by decide +kernel
theorem d_Picture_sign_31 : decode b_Picture_sign 31 = .ok (.ireturn, 1) := by decide +kernel
abbrev b_Picture_count : ByteArray := prog_5_method_4_code
abbrev y_Picture_count : MethodName := ⟨"EditMoves$Picture", "count", "(I)I"⟩
def ws_Picture_count : List Cond := .code y_Picture_count b_Picture_count 2 (some .int) :: wAll
theorem d_Picture_count_0 : decode b_Picture_count 0 = .ok (.iload_n 1, 1) := by decide +kernel
theorem d_Picture_count_1 : decode b_Picture_count 1 = .ok (.ifCond .lt 29, 3) := by decide +kernel
theorem d_Picture_count_4 : decode b_Picture_count 4 = .ok (.iload_n 1, 1) := by decide +kernel
theorem d_Picture_count_5 : decode b_Picture_count 5 = .ok (.aload_n 0, 1) := by decide +kernel
theorem d_Picture_count_6 : decode b_Picture_count 6 = .ok (.getfield 44, 3) := by decide +kernel
theorem d_Picture_count_9 : decode b_Picture_count 9 = .ok (.if_icmp .ge 21, 3) := by decide +kernel
theorem d_Picture_count_12 : decode b_Picture_count 12 = .ok (.iload_n 1, 1) := by decide +kernel
theorem d_Picture_count_13 : decode b_Picture_count 13 = .ok (.aload_n 0, 1) := by decide +kernel
theorem d_Picture_count_14 : decode b_Picture_count 14 = .ok (.getfield 15, 3) := by decide +kernel
theorem d_Picture_count_17 : decode b_Picture_count 17 = .ok (.arraylength, 1) := by decide +kernel
theorem d_Picture_count_18 : decode b_Picture_count 18 = .ok (.if_icmp .ge 12, 3) := by decide +kernel
theorem d_Picture_count_21 : decode b_Picture_count 21 = .ok (.aload_n 0, 1) := by decide +kernel
theorem d_Picture_count_22 : decode b_Picture_count 22 = .ok (.getfield 15, 3) := by decide +kernel
theorem d_Picture_count_25 : decode b_Picture_count 25 = .ok (.iload_n 1, 1) := by decide +kernel
theorem d_Picture_count_26 : decode b_Picture_count 26 = .ok (.iaload, 1) := by decide +kernel
theorem d_Picture_count_27 : decode b_Picture_count 27 = .ok (.goto 4, 3) := by decide +kernel
theorem d_Picture_count_30 : decode b_Picture_count 30 = .ok (.iconst 0, 1) := by decide +kernel
theorem d_Picture_count_31 : decode b_Picture_count 31 = .ok (.ireturn, 1) := by decide +kernel
abbrev b_Picture_isInsertion : ByteArray := prog_5_method_5_code
abbrev y_Picture_isInsertion : MethodName := ⟨"EditMoves$Picture", "isInsertion", "(I)Z"⟩
def ws_Picture_isInsertion : List Cond := .code y_Picture_isInsertion b_Picture_isInsertion 1 (some .boolean) :: wAll
theorem d_Picture_isInsertion_0 : decode b_Picture_isInsertion 0 = .ok (.iload_n 0, 1) := by decide +kernel
theorem d_Picture_isInsertion_1 : decode b_Picture_isInsertion 1 = .ok (.bipush 66, 2) := by decide +kernel
theorem d_Picture_isInsertion_3 : decode b_Picture_isInsertion 3 = .ok (.if_icmp .eq 21, 3) := by decide +kernel
theorem d_Picture_isInsertion_6 : decode b_Picture_isInsertion 6 = .ok (.iload_n 0, 1) := by decide +kernel
theorem d_Picture_isInsertion_7 : decode b_Picture_isInsertion 7 = .ok (.bipush 48, 2) := by decide +kernel
theorem d_Picture_isInsertion_9 : decode b_Picture_isInsertion 9 = .ok (.if_icmp .eq 15, 3) := by decide +kernel
theorem d_Picture_isInsertion_12 : decode b_Picture_isInsertion 12 = .ok (.iload_n 0, 1) := by decide +kernel
theorem d_Picture_isInsertion_13 : decode b_Picture_isInsertion 13 = .ok (.bipush 47, 2) := by decide +kernel
theorem d_Picture_isInsertion_15 : decode b_Picture_isInsertion 15 = .ok (.if_icmp .eq 9, 3) := by decide +kernel
theorem d_Picture_isInsertion_18 : decode b_Picture_isInsertion 18 = .ok (.iload_n 0, 1) := by decide +kernel
theorem d_Picture_isInsertion_19 : decode b_Picture_isInsertion 19 = .ok (.bipush 44, 2) := by decide +kernel
theorem d_Picture_isInsertion_21 : decode b_Picture_isInsertion 21 = .ok (.if_icmp .ne 7, 3) := by decide +kernel
theorem d_Picture_isInsertion_24 : decode b_Picture_isInsertion 24 = .ok (.iconst 1, 1) := by decide +kernel
theorem d_Picture_isInsertion_25 : decode b_Picture_isInsertion 25 = .ok (.goto 4, 3) := by decide +kernel
theorem d_Picture_isInsertion_28 : decode b_Picture_isInsertion 28 = .ok (.iconst 0, 1) := by decide +kernel
theorem d_Picture_isInsertion_29 : decode b_Picture_isInsertion 29 = .ok (.ireturn, 1) := by decide +kernel
abbrev b_Picture_width : ByteArray := prog_5_method_6_code
abbrev y_Picture_width : MethodName := ⟨"EditMoves$Picture", "width", "(I)I"⟩
def ws_Picture_width : List Cond := .code y_Picture_width b_Picture_width 1 (some .int) :: wAll
theorem d_Picture_width_0 : decode b_Picture_width 0 = .ok (.iload_n 0, 1) := by decide +kernel
theorem d_Picture_width_1 : decode b_Picture_width 1 = .ok (.bipush 86, 2) := by decide +kernel
theorem d_Picture_width_3 : decode b_Picture_width 3 = .ok (.if_icmp .ne 5, 3) := by decide +kernel
theorem d_Picture_width_6 : decode b_Picture_width 6 = .ok (.iconst 0, 1) := by decide +kernel
theorem d_Picture_width_7 : decode b_Picture_width 7 = .ok (.ireturn, 1) := by decide +kernel
theorem d_Picture_width_8 : decode b_Picture_width 8 = .ok (.iload_n 0, 1) := by decide +kernel
theorem d_Picture_width_9 : decode b_Picture_width 9 = .ok (.bipush 67, 2) := by decide +kernel
theorem d_Picture_width_11 : decode b_Picture_width 11 = .ok (.if_icmp .eq 9, 3) := by decide +kernel
theorem d_Picture_width_14 : decode b_Picture_width 14 = .ok (.iload_n 0, 1) := by decide +kernel
theorem d_Picture_width_15 : decode b_Picture_width 15 = .ok (.bipush 68, 2) := by decide +kernel
theorem d_Picture_width_17 : decode b_Picture_width 17 = .ok (.if_icmp .ne 7, 3) := by decide +kernel
theorem d_Picture_width_20 : decode b_Picture_width 20 = .ok (.iconst 2, 1) := by decide +kernel
theorem d_Picture_width_21 : decode b_Picture_width 21 = .ok (.goto 4, 3) := by decide +kernel
theorem d_Picture_width_24 : decode b_Picture_width 24 = .ok (.iconst 1, 1) := by decide +kernel
theorem d_Picture_width_25 : decode b_Picture_width 25 = .ok (.ireturn, 1) := by decide +kernel
abbrev b_Picture_forget : ByteArray := prog_5_method_7_code
abbrev y_Picture_forget : MethodName := ⟨"EditMoves$Picture", "forget", "()V"⟩
def ws_Picture_forget : List Cond := .code y_Picture_forget b_Picture_forget 1 none :: wAll
theorem d_Picture_forget_0 : decode b_Picture_forget 0 = .ok (.aload_n 0, 1) := by decide +kernel
theorem d_Picture_forget_1 : decode b_Picture_forget 1 = .ok (.iconst 0, 1) := by decide +kernel
theorem d_Picture_forget_2 : decode b_Picture_forget 2 = .ok (.putfield 47, 3) := by decide +kernel
theorem d_Picture_forget_5 : decode b_Picture_forget 5 = .ok (.aload_n 0, 1) := by decide +kernel
theorem d_Picture_forget_6 : decode b_Picture_forget 6 = .ok (.iconst 0, 1) := by decide +kernel
theorem d_Picture_forget_7 : decode b_Picture_forget 7 = .ok (.putfield 44, 3) := by decide +kernel
theorem d_Picture_forget_10 : decode b_Picture_forget 10 = .ok (.aload_n 0, 1) := by decide +kernel
theorem d_Picture_forget_11 : decode b_Picture_forget 11 = .ok (.iconst 0, 1) := by decide +kernel
theorem d_Picture_forget_12 : decode b_Picture_forget 12 = .ok (.putfield 29, 3) := by decide +kernel
theorem d_Picture_forget_15 : decode b_Picture_forget 15 = .ok (.aload_n 0, 1) := by decide +kernel
theorem d_Picture_forget_16 : decode b_Picture_forget 16 = .ok (.iconst 0, 1) := by decide +kernel
theorem d_Picture_forget_17 : decode b_Picture_forget 17 = .ok (.putfield 41, 3) := by decide +kernel
theorem d_Picture_forget_20 : decode b_Picture_forget 20 = .ok (.aload_n 0, 1) := by decide +kernel
theorem d_Picture_forget_21 : decode b_Picture_forget 21 = .ok (.iconst 0, 1) := by decide +kernel
theorem d_Picture_forget_22 : decode b_Picture_forget 22 = .ok (.putfield 50, 3) := by decide +kernel
theorem d_Picture_forget_25 : decode b_Picture_forget 25 = .ok (.aload_n 0, 1) := by decide +kernel
theorem d_Picture_forget_26 : decode b_Picture_forget 26 = .ok (.iconst 0, 1) := by decide +kernel
theorem d_Picture_forget_27 : decode b_Picture_forget 27 = .ok (.putfield 53, 3) := by decide +kernel
theorem d_Picture_forget_30 : decode b_Picture_forget 30 = .ok (.aload_n 0, 1) := by decide +kernel
theorem d_Picture_forget_31 : decode b_Picture_forget 31 = .ok (.iconst 0, 1) := by decide +kernel
theorem d_Picture_forget_32 : decode b_Picture_forget 32 = .ok (.putfield 56, 3) := by decide +kernel
theorem d_Picture_forget_35 : decode b_Picture_forget 35 = .ok (.aload_n 0, 1) := by decide +kernel
theorem d_Picture_forget_36 : decode b_Picture_forget 36 = .ok (.iconst 0, 1) := by decide +kernel
theorem d_Picture_forget_37 : decode b_Picture_forget 37 = .ok (.putfield 60, 3) := by decide +kernel
theorem d_Picture_forget_40 : decode b_Picture_forget 40 = .ok (.aload_n 0, 1) := by decide +kernel
theorem d_Picture_forget_41 : decode b_Picture_forget 41 = .ok (.iconst 0, 1) := by decide +kernel
theorem d_Picture_forget_42 : decode b_Picture_forget 42 = .ok (.putfield 63, 3) := by decide +kernel
theorem d_Picture_forget_45 : decode b_Picture_forget 45 = .ok (.return_, 1) := by decide +kernel
abbrev b_Picture_takeSign : ByteArray := prog_5_method_9_code
abbrev y_Picture_takeSign : MethodName := ⟨"EditMoves$Picture", "takeSign", "(LEditMoves$Line;I)I"⟩
def ws_Picture_takeSign : List Cond := .code y_Picture_takeSign b_Picture_takeSign 6 (some .int) :: wAll
theorem d_Picture_takeSign_0 : decode b_Picture_takeSign 0 = .ok (.aload_n 1, 1) := by decide +kernel
theorem d_Picture_takeSign_1 : decode b_Picture_takeSign 1 = .ok (.aload_n 0, 1) := by decide +kernel
theorem d_Picture_takeSign_2 : decode b_Picture_takeSign 2 = .ok (.getfield 47, 3) := by decide +kernel
theorem d_Picture_takeSign_5 : decode b_Picture_takeSign 5 = .ok (.invokevirtual 77, 3) := by decide +kernel
theorem d_Picture_takeSign_8 : decode b_Picture_takeSign 8 = .ok (.istore_n 3, 1) := by decide +kernel
theorem d_Picture_takeSign_9 : decode b_Picture_takeSign 9 = .ok (.iload_n 3, 1) := by decide +kernel
theorem d_Picture_takeSign_10 : decode b_Picture_takeSign 10 = .ok (.invokestatic 81, 3) := by decide +kernel
theorem d_Picture_takeSign_13 : decode b_Picture_takeSign 13 = .ok (.istore 4, 2) := by decide +kernel
theorem d_Picture_takeSign_15 : decode b_Picture_takeSign 15 = .ok (.aload_n 1, 1) := by decide +kernel
theorem d_Picture_takeSign_16 : decode b_Picture_takeSign 16 = .ok (.aload_n 0, 1) := by decide +kernel
theorem d_Picture_takeSign_17 : decode b_Picture_takeSign 17 = .ok (.getfield 47, 3) := by decide +kernel
theorem d_Picture_takeSign_20 : decode b_Picture_takeSign 20 = .ok (.iconst 1, 1) := by decide +kernel
theorem d_Picture_takeSign_21 : decode b_Picture_takeSign 21 = .ok (.iadd, 1) := by decide +kernel
theorem d_Picture_takeSign_22 : decode b_Picture_takeSign 22 = .ok (.invokevirtual 77, 3) := by decide +kernel
theorem d_Picture_takeSign_25 : decode b_Picture_takeSign 25 = .ok (.invokestatic 81, 3) := by decide +kernel
theorem d_Picture_takeSign_28 : decode b_Picture_takeSign 28 = .ok (.istore 5, 2) := by decide +kernel
theorem d_Picture_takeSign_30 : decode b_Picture_takeSign 30 = .ok (.aload_n 0, 1) := by decide +kernel
theorem d_Picture_takeSign_31 : decode b_Picture_takeSign 31 = .ok (.dup, 1) := by decide +kernel
theorem d_Picture_takeSign_32 : decode b_Picture_takeSign 32 = .ok (.getfield 47, 3) := by decide +kernel
theorem d_Picture_takeSign_35 : decode b_Picture_takeSign 35 = .ok (.iconst 1, 1) := by decide +kernel
theorem d_Picture_takeSign_36 : decode b_Picture_takeSign 36 = .ok (.iadd, 1) := by decide +kernel
theorem d_Picture_takeSign_37 : decode b_Picture_takeSign 37 = .ok (.putfield 47, 3) := by decide +kernel
theorem d_Picture_takeSign_40 : decode b_Picture_takeSign 40 = .ok (.iload_n 3, 1) := by decide +kernel
theorem d_Picture_takeSign_41 : decode b_Picture_takeSign 41 = .ok (.iload_n 2, 1) := by decide +kernel
theorem d_Picture_takeSign_42 : decode b_Picture_takeSign 42 = .ok (.if_icmp .eq 14, 3) := by decide +kernel
theorem d_Picture_takeSign_45 : decode b_Picture_takeSign 45 = .ok (.ldc 86, 2) := by decide +kernel
theorem d_Picture_takeSign_47 : decode b_Picture_takeSign 47 = .ok (.iload 4, 2) := by decide +kernel
theorem d_Picture_takeSign_49 : decode b_Picture_takeSign 49 = .ok (.i2c, 1) := by decide +kernel
theorem d_Picture_takeSign_50 : decode b_Picture_takeSign 50 = .ok (.invokevirtual 88, 3) := by decide +kernel
theorem d_Picture_takeSign_53 : decode b_Picture_takeSign 53 = .ok (.ifCond .lt 6, 3) := by decide +kernel
theorem d_Picture_takeSign_56 : decode b_Picture_takeSign 56 = .ok (.iload 4, 2) := by decide +kernel
theorem d_Picture_takeSign_58 : decode b_Picture_takeSign 58 = .ok (.ireturn, 1) := by decide +kernel
theorem d_Picture_takeSign_59 : decode b_Picture_takeSign 59 = .ok (.iload 4, 2) := by decide +kernel
theorem d_Picture_takeSign_61 : decode b_Picture_takeSign 61 = .ok (.bipush 67, 2) := by decide +kernel
theorem d_Picture_takeSign_63 : decode b_Picture_takeSign 63 = .ok (.if_icmp .ne 10, 3) := by decide +kernel
theorem d_Picture_takeSign_66 : decode b_Picture_takeSign 66 = .ok (.iload 5, 2) := by decide +kernel
theorem d_Picture_takeSign_68 : decode b_Picture_takeSign 68 = .ok (.bipush 82, 2) := by decide +kernel
theorem d_Picture_takeSign_70 : decode b_Picture_takeSign 70 = .ok (.if_icmp .eq 17, 3) := by decide +kernel
theorem d_Picture_takeSign_73 : decode b_Picture_takeSign 73 = .ok (.iload 4, 2) := by decide +kernel
theorem d_Picture_takeSign_75 : decode b_Picture_takeSign 75 = .ok (.bipush 68, 2) := by decide +kernel
theorem d_Picture_takeSign_77 : decode b_Picture_takeSign 77 = .ok (.if_icmp .ne 23, 3) := by decide +kernel
theorem d_Picture_takeSign_80 : decode b_Picture_takeSign 80 = .ok (.iload 5, 2) := by decide +kernel
theorem d_Picture_takeSign_82 : decode b_Picture_takeSign 82 = .ok (.bipush 66, 2) := by decide +kernel
theorem d_Picture_takeSign_84 : decode b_Picture_takeSign 84 = .ok (.if_icmp .ne 16, 3) := by decide +kernel
theorem d_Picture_takeSign_87 : decode b_Picture_takeSign 87 = .ok (.aload_n 0, 1) := by decide +kernel
theorem d_Picture_takeSign_88 : decode b_Picture_takeSign 88 = .ok (.dup, 1) := by decide +kernel
theorem d_Picture_takeSign_89 : decode b_Picture_takeSign 89 = .ok (.getfield 47, 3) := by decide +kernel
theorem d_Picture_takeSign_92 : decode b_Picture_takeSign 92 = .ok (.iconst 1, 1) := by decide +kernel
theorem d_Picture_takeSign_93 : decode b_Picture_takeSign 93 = .ok (.iadd, 1) := by decide +kernel
theorem d_Picture_takeSign_94 : decode b_Picture_takeSign 94 = .ok (.putfield 47, 3) := by decide +kernel
theorem d_Picture_takeSign_97 : decode b_Picture_takeSign 97 = .ok (.iload 4, 2) := by decide +kernel
theorem d_Picture_takeSign_99 : decode b_Picture_takeSign 99 = .ok (.ireturn, 1) := by decide +kernel
theorem d_Picture_takeSign_100 : decode b_Picture_takeSign 100 = .ok (.iconst 0, 1) := by decide +kernel
theorem d_Picture_takeSign_101 : decode b_Picture_takeSign 101 = .ok (.ireturn, 1) := by decide +kernel
abbrev b_Picture_takeCount : ByteArray := prog_5_method_10_code
abbrev y_Picture_takeCount : MethodName := ⟨"EditMoves$Picture", "takeCount", "(LEditMoves$Line;)I"⟩
def ws_Picture_takeCount : List Cond := .code y_Picture_takeCount b_Picture_takeCount 4 (some .int) :: wAll
theorem d_Picture_takeCount_0 : decode b_Picture_takeCount 0 = .ok (.aload_n 1, 1) := by decide +kernel
theorem d_Picture_takeCount_1 : decode b_Picture_takeCount 1 = .ok (.aload_n 0, 1) := by decide +kernel
theorem d_Picture_takeCount_2 : decode b_Picture_takeCount 2 = .ok (.getfield 47, 3) := by decide +kernel
theorem d_Picture_takeCount_5 : decode b_Picture_takeCount 5 = .ok (.invokevirtual 77, 3) := by decide +kernel
theorem d_Picture_takeCount_8 : decode b_Picture_takeCount 8 = .ok (.bipush 40, 2) := by decide +kernel
theorem d_Picture_takeCount_10 : decode b_Picture_takeCount 10 = .ok (.if_icmp .eq 5, 3) := by decide +kernel
theorem d_Picture_takeCount_13 : decode b_Picture_takeCount 13 = .ok (.iconst 1, 1) := by decide +kernel
theorem d_Picture_takeCount_14 : decode b_Picture_takeCount 14 = .ok (.ireturn, 1) := by decide +kernel
theorem d_Picture_takeCount_15 : decode b_Picture_takeCount 15 = .ok (.aload_n 1, 1) := by decide +kernel
theorem d_Picture_takeCount_16 : decode b_Picture_takeCount 16 = .ok (.aload_n 0, 1) := by decide +kernel
theorem d_Picture_takeCount_17 : decode b_Picture_takeCount 17 = .ok (.getfield 47, 3) := by decide +kernel
theorem d_Picture_takeCount_20 : decode b_Picture_takeCount 20 = .ok (.iconst 1, 1) := by decide +kernel
theorem d_Picture_takeCount_21 : decode b_Picture_takeCount 21 = .ok (.iadd, 1) := by decide +kernel
theorem d_Picture_takeCount_22 : decode b_Picture_takeCount 22 = .ok (.invokevirtual 77, 3) := by decide +kernel
theorem d_Picture_takeCount_25 : decode b_Picture_takeCount 25 = .ok (.istore_n 2, 1) := by decide +kernel
theorem d_Picture_takeCount_26 : decode b_Picture_takeCount 26 = .ok (.aload_n 1, 1) := by decide +kernel
theorem d_Picture_takeCount_27 : decode b_Picture_takeCount 27 = .ok (.aload_n 0, 1) := by decide +kernel
theorem d_Picture_takeCount_28 : decode b_Picture_takeCount 28 = .ok (.getfield 47, 3) := by decide +kernel
theorem d_Picture_takeCount_31 : decode b_Picture_takeCount 31 = .ok (.iconst 2, 1) := by decide +kernel
theorem d_Picture_takeCount_32 : decode b_Picture_takeCount 32 = .ok (.iadd, 1) := by decide +kernel
theorem d_Picture_takeCount_33 : decode b_Picture_takeCount 33 = .ok (.invokevirtual 77, 3) := by decide +kernel
theorem d_Picture_takeCount_36 : decode b_Picture_takeCount 36 = .ok (.istore_n 3, 1) := by decide +kernel
theorem d_Picture_takeCount_37 : decode b_Picture_takeCount 37 = .ok (.iload_n 2, 1) := by decide +kernel
theorem d_Picture_takeCount_38 : decode b_Picture_takeCount 38 = .ok (.invokestatic 93, 3) := by decide +kernel
theorem d_Picture_takeCount_41 : decode b_Picture_takeCount 41 = .ok (.ifCond .ne 5, 3) := by decide +kernel
theorem d_Picture_takeCount_44 : decode b_Picture_takeCount 44 = .ok (.iconst 0, 1) := by decide +kernel
theorem d_Picture_takeCount_45 : decode b_Picture_takeCount 45 = .ok (.ireturn, 1) := by decide +kernel
theorem d_Picture_takeCount_46 : decode b_Picture_takeCount 46 = .ok (.iload_n 3, 1) := by decide +kernel
theorem d_Picture_takeCount_47 : decode b_Picture_takeCount 47 = .ok (.bipush 41, 2) := by decide +kernel
theorem d_Picture_takeCount_49 : decode b_Picture_takeCount 49 = .ok (.if_icmp .ne 18, 3) := by decide +kernel
theorem d_Picture_takeCount_52 : decode b_Picture_takeCount 52 = .ok (.aload_n 0, 1) := by decide +kernel
theorem d_Picture_takeCount_53 : decode b_Picture_takeCount 53 = .ok (.dup, 1) := by decide +kernel
theorem d_Picture_takeCount_54 : decode b_Picture_takeCount 54 = .ok (.getfield 47, 3) := by decide +kernel
theorem d_Picture_takeCount_57 : decode b_Picture_takeCount 57 = .ok (.iconst 3, 1) := by decide +kernel
theorem d_Picture_takeCount_58 : decode b_Picture_takeCount 58 = .ok (.iadd, 1) := by decide +kernel
theorem d_Picture_takeCount_59 : decode b_Picture_takeCount 59 = .ok (.putfield 47, 3) := by decide +kernel
theorem d_Picture_takeCount_62 : decode b_Picture_takeCount 62 = .ok (.iload_n 2, 1) := by decide +kernel
theorem d_Picture_takeCount_63 : decode b_Picture_takeCount 63 = .ok (.bipush 48, 2) := by decide +kernel
theorem d_Picture_takeCount_65 : decode b_Picture_takeCount 65 = .ok (.isub, 1) := by decide +kernel
theorem d_Picture_takeCount_66 : decode b_Picture_takeCount 66 = .ok (.ireturn, 1) := by decide +kernel
theorem d_Picture_takeCount_67 : decode b_Picture_takeCount 67 = .ok (.iload_n 3, 1) := by decide +kernel
theorem d_Picture_takeCount_68 : decode b_Picture_takeCount 68 = .ok (.invokestatic 93, 3) := by decide +kernel
theorem d_Picture_takeCount_71 : decode b_Picture_takeCount 71 = .ok (.ifCond .eq 18, 3) := by decide +kernel
theorem d_Picture_takeCount_74 : decode b_Picture_takeCount 74 = .ok (.aload_n 1, 1) := by decide +kernel
theorem d_Picture_takeCount_75 : decode b_Picture_takeCount 75 = .ok (.aload_n 0, 1) := by decide +kernel
theorem d_Picture_takeCount_76 : decode b_Picture_takeCount 76 = .ok (.getfield 47, 3) := by decide +kernel
theorem d_Picture_takeCount_79 : decode b_Picture_takeCount 79 = .ok (.iconst 3, 1) := by decide +kernel
theorem d_Picture_takeCount_80 : decode b_Picture_takeCount 80 = .ok (.iadd, 1) := by decide +kernel
theorem d_Picture_takeCount_81 : decode b_Picture_takeCount 81 = .ok (.invokevirtual 77, 3) := by decide +kernel
theorem d_Picture_takeCount_84 : decode b_Picture_takeCount 84 = .ok (.bipush 41, 2) := by decide +kernel
theorem d_Picture_takeCount_86 : decode b_Picture_takeCount 86 = .ok (.if_icmp .eq 5, 3) := by decide +kernel
theorem d_Picture_takeCount_89 : decode b_Picture_takeCount 89 = .ok (.iconst 0, 1) := by decide +kernel
theorem d_Picture_takeCount_90 : decode b_Picture_takeCount 90 = .ok (.ireturn, 1) := by decide +kernel
theorem d_Picture_takeCount_91 : decode b_Picture_takeCount 91 = .ok (.aload_n 0, 1) := by decide +kernel
theorem d_Picture_takeCount_92 : decode b_Picture_takeCount 92 = .ok (.dup, 1) := by decide +kernel
theorem d_Picture_takeCount_93 : decode b_Picture_takeCount 93 = .ok (.getfield 47, 3) := by decide +kernel
theorem d_Picture_takeCount_96 : decode b_Picture_takeCount 96 = .ok (.iconst 4, 1) := by decide +kernel
theorem d_Picture_takeCount_97 : decode b_Picture_takeCount 97 = .ok (.iadd, 1) := by decide +kernel
theorem d_Picture_takeCount_98 : decode b_Picture_takeCount 98 = .ok (.putfield 47, 3) := by decide +kernel
theorem d_Picture_takeCount_101 : decode b_Picture_takeCount 101 = .ok (.iload_n 2, 1) := by decide +kernel
theorem d_Picture_takeCount_102 : decode b_Picture_takeCount 102 = .ok (.bipush 48, 2) := by decide +kernel
theorem d_Picture_takeCount_104 : decode b_Picture_takeCount 104 = .ok (.isub, 1) := by decide +kernel
theorem d_Picture_takeCount_105 : decode b_Picture_takeCount 105 = .ok (.bipush 10, 2) := by decide +kernel
theorem d_Picture_takeCount_107 : decode b_Picture_takeCount 107 = .ok (.imul, 1) := by decide +kernel
theorem d_Picture_takeCount_108 : decode b_Picture_takeCount 108 = .ok (.iload_n 3, 1) := by decide +kernel
theorem d_Picture_takeCount_109 : decode b_Picture_takeCount 109 = .ok (.bipush 48, 2) := by decide +kernel
theorem d_Picture_takeCount_111 : decode b_Picture_takeCount 111 = .ok (.isub, 1) := by decide +kernel
theorem d_Picture_takeCount_112 : decode b_Picture_takeCount 112 = .ok (.iadd, 1) := by decide +kernel
theorem d_Picture_takeCount_113 : decode b_Picture_takeCount 113 = .ok (.ireturn, 1) := by decide +kernel
abbrev b_Picture_split : ByteArray := prog_5_method_8_code
abbrev y_Picture_split : MethodName := ⟨"EditMoves$Picture", "split", "(LEditMoves$Line;I)Z"⟩
def ws_Picture_split : List Cond := .code y_Picture_split b_Picture_split 6 (some .boolean) :: wAll
theorem d_Picture_split_0 : decode b_Picture_split 0 = .ok (.iconst 0, 1) := by decide +kernel
theorem d_Picture_split_1 : decode b_Picture_split 1 = .ok (.istore_n 3, 1) := by decide +kernel
theorem d_Picture_split_2 : decode b_Picture_split 2 = .ok (.iload_n 3, 1) := by decide +kernel
theorem d_Picture_split_3 : decode b_Picture_split 3 = .ok (.aload_n 0, 1) := by decide +kernel
theorem d_Picture_split_4 : decode b_Picture_split 4 = .ok (.getfield 9, 3) := by decide +kernel
theorem d_Picture_split_7 : decode b_Picture_split 7 = .ok (.arraylength, 1) := by decide +kernel
theorem d_Picture_split_8 : decode b_Picture_split 8 = .ok (.if_icmp .ge 70, 3) := by decide +kernel
theorem d_Picture_split_11 : decode b_Picture_split 11 = .ok (.aload_n 0, 1) := by decide +kernel
theorem d_Picture_split_12 : decode b_Picture_split 12 = .ok (.getfield 47, 3) := by decide +kernel
theorem d_Picture_split_15 : decode b_Picture_split 15 = .ok (.aload_n 1, 1) := by decide +kernel
theorem d_Picture_split_16 : decode b_Picture_split 16 = .ok (.getfield 66, 3) := by decide +kernel
theorem d_Picture_split_19 : decode b_Picture_split 19 = .ok (.if_icmp .ge 59, 3) := by decide +kernel
theorem d_Picture_split_22 : decode b_Picture_split 22 = .ok (.aload_n 0, 1) := by decide +kernel
theorem d_Picture_split_23 : decode b_Picture_split 23 = .ok (.aload_n 1, 1) := by decide +kernel
theorem d_Picture_split_24 : decode b_Picture_split 24 = .ok (.iload_n 2, 1) := by decide +kernel
theorem d_Picture_split_25 : decode b_Picture_split 25 = .ok (.invokevirtual 69, 3) := by decide +kernel
theorem d_Picture_split_28 : decode b_Picture_split 28 = .ok (.istore 4, 2) := by decide +kernel
theorem d_Picture_split_30 : decode b_Picture_split 30 = .ok (.aload_n 0, 1) := by decide +kernel
theorem d_Picture_split_31 : decode b_Picture_split 31 = .ok (.aload_n 1, 1) := by decide +kernel
theorem d_Picture_split_32 : decode b_Picture_split 32 = .ok (.invokevirtual 73, 3) := by decide +kernel
theorem d_Picture_split_35 : decode b_Picture_split 35 = .ok (.istore 5, 2) := by decide +kernel
theorem d_Picture_split_37 : decode b_Picture_split 37 = .ok (.iload 4, 2) := by decide +kernel
theorem d_Picture_split_39 : decode b_Picture_split 39 = .ok (.ifCond .eq 8, 3) := by decide +kernel
theorem d_Picture_split_42 : decode b_Picture_split 42 = .ok (.iload 5, 2) := by decide +kernel
theorem d_Picture_split_44 : decode b_Picture_split 44 = .ok (.ifCond .ne 5, 3) := by decide +kernel
theorem d_Picture_split_47 : decode b_Picture_split 47 = .ok (.iconst 0, 1) := by decide +kernel
theorem d_Picture_split_48 : decode b_Picture_split 48 = .ok (.ireturn, 1) := by decide +kernel
theorem d_Picture_split_49 : decode b_Picture_split 49 = .ok (.aload_n 0, 1) := by decide +kernel
theorem d_Picture_split_50 : decode b_Picture_split 50 = .ok (.getfield 9, 3) := by decide +kernel
theorem d_Picture_split_53 : decode b_Picture_split 53 = .ok (.iload_n 3, 1) := by decide +kernel
theorem d_Picture_split_54 : decode b_Picture_split 54 = .ok (.iload 4, 2) := by decide +kernel
theorem d_Picture_split_56 : decode b_Picture_split 56 = .ok (.iastore, 1) := by decide +kernel
theorem d_Picture_split_57 : decode b_Picture_split 57 = .ok (.aload_n 0, 1) := by decide +kernel
theorem d_Picture_split_58 : decode b_Picture_split 58 = .ok (.getfield 15, 3) := by decide +kernel
theorem d_Picture_split_61 : decode b_Picture_split 61 = .ok (.iload_n 3, 1) := by decide +kernel
theorem d_Picture_split_62 : decode b_Picture_split 62 = .ok (.iload 5, 2) := by decide +kernel
theorem d_Picture_split_64 : decode b_Picture_split 64 = .ok (.iastore, 1) := by decide +kernel
theorem d_Picture_split_65 : decode b_Picture_split 65 = .ok (.aload_n 0, 1) := by decide +kernel
theorem d_Picture_split_66 : decode b_Picture_split 66 = .ok (.iload_n 3, 1) := by decide +kernel
theorem d_Picture_split_67 : decode b_Picture_split 67 = .ok (.iconst 1, 1) := by decide +kernel
theorem d_Picture_split_68 : decode b_Picture_split 68 = .ok (.iadd, 1) := by decide +kernel
theorem d_Picture_split_69 : decode b_Picture_split 69 = .ok (.putfield 44, 3) := by decide +kernel
theorem d_Picture_split_72 : decode b_Picture_split 72 = .ok (.iinc 3 1, 3) := by decide +kernel
theorem d_Picture_split_75 : decode b_Picture_split 75 = .ok (.goto (-73), 3) := by decide +kernel
theorem d_Picture_split_78 : decode b_Picture_split 78 = .ok (.aload_n 0, 1) := by decide +kernel
theorem d_Picture_split_79 : decode b_Picture_split 79 = .ok (.getfield 44, 3) := by decide +kernel
theorem d_Picture_split_82 : decode b_Picture_split 82 = .ok (.ifCond .le 7, 3) := by decide +kernel
theorem d_Picture_split_85 : decode b_Picture_split 85 = .ok (.iconst 1, 1) := by decide +kernel
theorem d_Picture_split_86 : decode b_Picture_split 86 = .ok (.goto 4, 3) := by decide +kernel
theorem d_Picture_split_89 : decode b_Picture_split 89 = .ok (.iconst 0, 1) := by decide +kernel
theorem d_Picture_split_90 : decode b_Picture_split 90 = .ok (.ireturn, 1) := by decide +kernel
abbrev b_Picture_countPlaces : ByteArray := prog_5_method_11_code
abbrev y_Picture_countPlaces : MethodName := ⟨"EditMoves$Picture", "countPlaces", "()I"⟩
def ws_Picture_countPlaces : List Cond := .code y_Picture_countPlaces b_Picture_countPlaces 3 (some .int) :: wAll
theorem d_Picture_countPlaces_0 : decode b_Picture_countPlaces 0 = .ok (.iconst 0, 1) := by decide +kernel
theorem d_Picture_countPlaces_1 : decode b_Picture_countPlaces 1 = .ok (.istore_n 1, 1) := by decide +kernel
theorem d_Picture_countPlaces_2 : decode b_Picture_countPlaces 2 = .ok (.iconst 0, 1) := by decide +kernel
theorem d_Picture_countPlaces_3 : decode b_Picture_countPlaces 3 = .ok (.istore_n 2, 1) := by decide +kernel
theorem d_Picture_countPlaces_4 : decode b_Picture_countPlaces 4 = .ok (.iload_n 2, 1) := by decide +kernel
theorem d_Picture_countPlaces_5 : decode b_Picture_countPlaces 5 = .ok (.aload_n 0, 1) := by decide +kernel
theorem d_Picture_countPlaces_6 : decode b_Picture_countPlaces 6 = .ok (.getfield 44, 3) := by decide +kernel
theorem d_Picture_countPlaces_9 : decode b_Picture_countPlaces 9 = .ok (.if_icmp .ge 26, 3) := by decide +kernel
theorem d_Picture_countPlaces_12 : decode b_Picture_countPlaces 12 = .ok (.iload_n 1, 1) := by decide +kernel
theorem d_Picture_countPlaces_13 : decode b_Picture_countPlaces 13 = .ok (.aload_n 0, 1) := by decide +kernel
theorem d_Picture_countPlaces_14 : decode b_Picture_countPlaces 14 = .ok (.iload_n 2, 1) := by decide +kernel
theorem d_Picture_countPlaces_15 : decode b_Picture_countPlaces 15 = .ok (.invokevirtual 96, 3) := by decide +kernel
theorem d_Picture_countPlaces_18 : decode b_Picture_countPlaces 18 = .ok (.aload_n 0, 1) := by decide +kernel
theorem d_Picture_countPlaces_19 : decode b_Picture_countPlaces 19 = .ok (.iload_n 2, 1) := by decide +kernel
theorem d_Picture_countPlaces_20 : decode b_Picture_countPlaces 20 = .ok (.invokevirtual 99, 3) := by decide +kernel
theorem d_Picture_countPlaces_23 : decode b_Picture_countPlaces 23 = .ok (.invokestatic 102, 3) := by decide +kernel
theorem d_Picture_countPlaces_26 : decode b_Picture_countPlaces 26 = .ok (.imul, 1) := by decide +kernel
theorem d_Picture_countPlaces_27 : decode b_Picture_countPlaces 27 = .ok (.iadd, 1) := by decide +kernel
theorem d_Picture_countPlaces_28 : decode b_Picture_countPlaces 28 = .ok (.istore_n 1, 1) := by decide +kernel
theorem d_Picture_countPlaces_29 : decode b_Picture_countPlaces 29 = .ok (.iinc 2 1, 3) := by decide +kernel
theorem d_Picture_countPlaces_32 : decode b_Picture_countPlaces 32 = .ok (.goto (-28), 3) := by decide +kernel
theorem d_Picture_countPlaces_35 : decode b_Picture_countPlaces 35 = .ok (.iload_n 1, 1) := by decide +kernel
theorem d_Picture_countPlaces_36 : decode b_Picture_countPlaces 36 = .ok (.ireturn, 1) := by decide +kernel
abbrev b_Picture_isOfText : ByteArray := prog_5_method_12_code
abbrev y_Picture_isOfText : MethodName := ⟨"EditMoves$Picture", "isOfText", "()Z"⟩
def ws_Picture_isOfText : List Cond := .code y_Picture_isOfText b_Picture_isOfText 4 (some .boolean) :: wAll
theorem d_Picture_isOfText_0 : decode b_Picture_isOfText 0 = .ok (.iconst 0, 1) := by decide +kernel
theorem d_Picture_isOfText_1 : decode b_Picture_isOfText 1 = .ok (.istore_n 1, 1) := by decide +kernel
theorem d_Picture_isOfText_2 : decode b_Picture_isOfText 2 = .ok (.iconst 0, 1) := by decide +kernel
theorem d_Picture_isOfText_3 : decode b_Picture_isOfText 3 = .ok (.istore_n 2, 1) := by decide +kernel
theorem d_Picture_isOfText_4 : decode b_Picture_isOfText 4 = .ok (.iload_n 2, 1) := by decide +kernel
theorem d_Picture_isOfText_5 : decode b_Picture_isOfText 5 = .ok (.aload_n 0, 1) := by decide +kernel
theorem d_Picture_isOfText_6 : decode b_Picture_isOfText 6 = .ok (.getfield 44, 3) := by decide +kernel
theorem d_Picture_isOfText_9 : decode b_Picture_isOfText 9 = .ok (.if_icmp .ge 41, 3) := by decide +kernel
theorem d_Picture_isOfText_12 : decode b_Picture_isOfText 12 = .ok (.aload_n 0, 1) := by decide +kernel
theorem d_Picture_isOfText_13 : decode b_Picture_isOfText 13 = .ok (.iload_n 2, 1) := by decide +kernel
theorem d_Picture_isOfText_14 : decode b_Picture_isOfText 14 = .ok (.invokevirtual 99, 3) := by decide +kernel
theorem d_Picture_isOfText_17 : decode b_Picture_isOfText 17 = .ok (.istore_n 3, 1) := by decide +kernel
theorem d_Picture_isOfText_18 : decode b_Picture_isOfText 18 = .ok (.iload_n 3, 1) := by decide +kernel
theorem d_Picture_isOfText_19 : decode b_Picture_isOfText 19 = .ok (.bipush 88, 2) := by decide +kernel
theorem d_Picture_isOfText_21 : decode b_Picture_isOfText 21 = .ok (.if_icmp .ne 8, 3) := by decide +kernel
theorem d_Picture_isOfText_24 : decode b_Picture_isOfText 24 = .ok (.iconst 1, 1) := by decide +kernel
theorem d_Picture_isOfText_25 : decode b_Picture_isOfText 25 = .ok (.istore_n 1, 1) := by decide +kernel
theorem d_Picture_isOfText_26 : decode b_Picture_isOfText 26 = .ok (.goto 18, 3) := by decide +kernel
theorem d_Picture_isOfText_29 : decode b_Picture_isOfText 29 = .ok (.iload_n 3, 1) := by decide +kernel
theorem d_Picture_isOfText_30 : decode b_Picture_isOfText 30 = .ok (.bipush 44, 2) := by decide +kernel
theorem d_Picture_isOfText_32 : decode b_Picture_isOfText 32 = .ok (.if_icmp .eq 10, 3) := by decide +kernel
theorem d_Picture_isOfText_35 : decode b_Picture_isOfText 35 = .ok (.iload_n 3, 1) := by decide +kernel
theorem d_Picture_isOfText_36 : decode b_Picture_isOfText 36 = .ok (.invokestatic 105, 3) := by decide +kernel
theorem d_Picture_isOfText_39 : decode b_Picture_isOfText 39 = .ok (.ifCond .ne 5, 3) := by decide +kernel
theorem d_Picture_isOfText_42 : decode b_Picture_isOfText 42 = .ok (.iconst 0, 1) := by decide +kernel
theorem d_Picture_isOfText_43 : decode b_Picture_isOfText 43 = .ok (.ireturn, 1) := by decide +kernel
theorem d_Picture_isOfText_44 : decode b_Picture_isOfText 44 = .ok (.iinc 2 1, 3) := by decide +kernel
theorem d_Picture_isOfText_47 : decode b_Picture_isOfText 47 = .ok (.goto (-43), 3) := by decide +kernel
theorem d_Picture_isOfText_50 : decode b_Picture_isOfText 50 = .ok (.iload_n 1, 1) := by decide +kernel
theorem d_Picture_isOfText_51 : decode b_Picture_isOfText 51 = .ok (.ireturn, 1) := by decide +kernel
abbrev b_Picture_takeAll : ByteArray := prog_5_method_19_code
abbrev y_Picture_takeAll : MethodName := ⟨"EditMoves$Picture", "takeAll", "(I)I"⟩
def ws_Picture_takeAll : List Cond := .code y_Picture_takeAll b_Picture_takeAll 3 (some .int) :: wAll
theorem d_Picture_takeAll_0 : decode b_Picture_takeAll 0 = .ok (.iconst 0, 1) := by decide +kernel
theorem d_Picture_takeAll_1 : decode b_Picture_takeAll 1 = .ok (.istore_n 2, 1) := by decide +kernel
theorem d_Picture_takeAll_2 : decode b_Picture_takeAll 2 = .ok (.aload_n 0, 1) := by decide +kernel
theorem d_Picture_takeAll_3 : decode b_Picture_takeAll 3 = .ok (.getfield 47, 3) := by decide +kernel
theorem d_Picture_takeAll_6 : decode b_Picture_takeAll 6 = .ok (.aload_n 0, 1) := by decide +kernel
theorem d_Picture_takeAll_7 : decode b_Picture_takeAll 7 = .ok (.getfield 44, 3) := by decide +kernel
theorem d_Picture_takeAll_10 : decode b_Picture_takeAll 10 = .ok (.if_icmp .ge 74, 3) := by decide +kernel
theorem d_Picture_takeAll_13 : decode b_Picture_takeAll 13 = .ok (.aload_n 0, 1) := by decide +kernel
theorem d_Picture_takeAll_14 : decode b_Picture_takeAll 14 = .ok (.getfield 47, 3) := by decide +kernel
theorem d_Picture_takeAll_17 : decode b_Picture_takeAll 17 = .ok (.aload_n 0, 1) := by decide +kernel
theorem d_Picture_takeAll_18 : decode b_Picture_takeAll 18 = .ok (.getfield 9, 3) := by decide +kernel
theorem d_Picture_takeAll_21 : decode b_Picture_takeAll 21 = .ok (.arraylength, 1) := by decide +kernel
theorem d_Picture_takeAll_22 : decode b_Picture_takeAll 22 = .ok (.if_icmp .ge 62, 3) := by decide +kernel
theorem d_Picture_takeAll_25 : decode b_Picture_takeAll 25 = .ok (.aload_n 0, 1) := by decide +kernel
theorem d_Picture_takeAll_26 : decode b_Picture_takeAll 26 = .ok (.getfield 9, 3) := by decide +kernel
theorem d_Picture_takeAll_29 : decode b_Picture_takeAll 29 = .ok (.aload_n 0, 1) := by decide +kernel
theorem d_Picture_takeAll_30 : decode b_Picture_takeAll 30 = .ok (.getfield 47, 3) := by decide +kernel
theorem d_Picture_takeAll_33 : decode b_Picture_takeAll 33 = .ok (.iaload, 1) := by decide +kernel
theorem d_Picture_takeAll_34 : decode b_Picture_takeAll 34 = .ok (.iload_n 1, 1) := by decide +kernel
theorem d_Picture_takeAll_35 : decode b_Picture_takeAll 35 = .ok (.if_icmp .ne 18, 3) := by decide +kernel
theorem d_Picture_takeAll_38 : decode b_Picture_takeAll 38 = .ok (.iload_n 2, 1) := by decide +kernel
theorem d_Picture_takeAll_39 : decode b_Picture_takeAll 39 = .ok (.aload_n 0, 1) := by decide +kernel
theorem d_Picture_takeAll_40 : decode b_Picture_takeAll 40 = .ok (.getfield 15, 3) := by decide +kernel
theorem d_Picture_takeAll_43 : decode b_Picture_takeAll 43 = .ok (.aload_n 0, 1) := by decide +kernel
theorem d_Picture_takeAll_44 : decode b_Picture_takeAll 44 = .ok (.getfield 47, 3) := by decide +kernel
theorem d_Picture_takeAll_47 : decode b_Picture_takeAll 47 = .ok (.iaload, 1) := by decide +kernel
theorem d_Picture_takeAll_48 : decode b_Picture_takeAll 48 = .ok (.iadd, 1) := by decide +kernel
theorem d_Picture_takeAll_49 : decode b_Picture_takeAll 49 = .ok (.istore_n 2, 1) := by decide +kernel
theorem d_Picture_takeAll_50 : decode b_Picture_takeAll 50 = .ok (.goto 21, 3) := by decide +kernel
theorem d_Picture_takeAll_53 : decode b_Picture_takeAll 53 = .ok (.aload_n 0, 1) := by decide +kernel
theorem d_Picture_takeAll_54 : decode b_Picture_takeAll 54 = .ok (.getfield 9, 3) := by decide +kernel
theorem d_Picture_takeAll_57 : decode b_Picture_takeAll 57 = .ok (.aload_n 0, 1) := by decide +kernel
theorem d_Picture_takeAll_58 : decode b_Picture_takeAll 58 = .ok (.getfield 47, 3) := by decide +kernel
theorem d_Picture_takeAll_61 : decode b_Picture_takeAll 61 = .ok (.iaload, 1) := by decide +kernel
theorem d_Picture_takeAll_62 : decode b_Picture_takeAll 62 = .ok (.invokestatic 105, 3) := by decide +kernel
theorem d_Picture_takeAll_65 : decode b_Picture_takeAll 65 = .ok (.ifCond .ne 6, 3) := by decide +kernel
theorem d_Picture_takeAll_68 : decode b_Picture_takeAll 68 = .ok (.goto 16, 3) := by decide +kernel
theorem d_Picture_takeAll_71 : decode b_Picture_takeAll 71 = .ok (.aload_n 0, 1) := by decide +kernel
theorem d_Picture_takeAll_72 : decode b_Picture_takeAll 72 = .ok (.dup, 1) := by decide +kernel
theorem d_Picture_takeAll_73 : decode b_Picture_takeAll 73 = .ok (.getfield 47, 3) := by decide +kernel
theorem d_Picture_takeAll_76 : decode b_Picture_takeAll 76 = .ok (.iconst 1, 1) := by decide +kernel
theorem d_Picture_takeAll_77 : decode b_Picture_takeAll 77 = .ok (.iadd, 1) := by decide +kernel
theorem d_Picture_takeAll_78 : decode b_Picture_takeAll 78 = .ok (.putfield 47, 3) := by decide +kernel
theorem d_Picture_takeAll_81 : decode b_Picture_takeAll 81 = .ok (.goto (-79), 3) := by decide +kernel
theorem d_Picture_takeAll_84 : decode b_Picture_takeAll 84 = .ok (.iload_n 2, 1) := by decide +kernel
theorem d_Picture_takeAll_85 : decode b_Picture_takeAll 85 = .ok (.ireturn, 1) := by decide +kernel
abbrev b_Picture_takeOne : ByteArray := prog_5_method_18_code
abbrev y_Picture_takeOne : MethodName := ⟨"EditMoves$Picture", "takeOne", "(I)Z"⟩
def ws_Picture_takeOne : List Cond := .code y_Picture_takeOne b_Picture_takeOne 3 (some .boolean) :: wAll
theorem d_Picture_takeOne_0 : decode b_Picture_takeOne 0 = .ok (.aload_n 0, 1) := by decide +kernel
theorem d_Picture_takeOne_1 : decode b_Picture_takeOne 1 = .ok (.getfield 47, 3) := by decide +kernel
theorem d_Picture_takeOne_4 : decode b_Picture_takeOne 4 = .ok (.istore_n 2, 1) := by decide +kernel
theorem d_Picture_takeOne_5 : decode b_Picture_takeOne 5 = .ok (.aload_n 0, 1) := by decide +kernel
theorem d_Picture_takeOne_6 : decode b_Picture_takeOne 6 = .ok (.iload_n 1, 1) := by decide +kernel
theorem d_Picture_takeOne_7 : decode b_Picture_takeOne 7 = .ok (.invokevirtual 118, 3) := by decide +kernel
theorem d_Picture_takeOne_10 : decode b_Picture_takeOne 10 = .ok (.iconst 1, 1) := by decide +kernel
theorem d_Picture_takeOne_11 : decode b_Picture_takeOne 11 = .ok (.if_icmp .ne 5, 3) := by decide +kernel
theorem d_Picture_takeOne_14 : decode b_Picture_takeOne 14 = .ok (.iconst 1, 1) := by decide +kernel
theorem d_Picture_takeOne_15 : decode b_Picture_takeOne 15 = .ok (.ireturn, 1) := by decide +kernel
theorem d_Picture_takeOne_16 : decode b_Picture_takeOne 16 = .ok (.aload_n 0, 1) := by decide +kernel
theorem d_Picture_takeOne_17 : decode b_Picture_takeOne 17 = .ok (.iload_n 2, 1) := by decide +kernel
theorem d_Picture_takeOne_18 : decode b_Picture_takeOne 18 = .ok (.putfield 47, 3) := by decide +kernel
theorem d_Picture_takeOne_21 : decode b_Picture_takeOne 21 = .ok (.iconst 0, 1) := by decide +kernel
theorem d_Picture_takeOne_22 : decode b_Picture_takeOne 22 = .ok (.ireturn, 1) := by decide +kernel
abbrev b_Picture_upcoming : ByteArray := prog_5_method_17_code
abbrev y_Picture_upcoming : MethodName := ⟨"EditMoves$Picture", "upcoming", "()I"⟩
def ws_Picture_upcoming : List Cond := .code y_Picture_upcoming b_Picture_upcoming 1 (some .int) :: wAll
theorem d_Picture_upcoming_0 : decode b_Picture_upcoming 0 = .ok (.aload_n 0, 1) := by decide +kernel
theorem d_Picture_upcoming_1 : decode b_Picture_upcoming 1 = .ok (.getfield 47, 3) := by decide +kernel
theorem d_Picture_upcoming_4 : decode b_Picture_upcoming 4 = .ok (.aload_n 0, 1) := by decide +kernel
theorem d_Picture_upcoming_5 : decode b_Picture_upcoming 5 = .ok (.getfield 44, 3) := by decide +kernel
theorem d_Picture_upcoming_8 : decode b_Picture_upcoming 8 = .ok (.if_icmp .ge 30, 3) := by decide +kernel
theorem d_Picture_upcoming_11 : decode b_Picture_upcoming 11 = .ok (.aload_n 0, 1) := by decide +kernel
theorem d_Picture_upcoming_12 : decode b_Picture_upcoming 12 = .ok (.aload_n 0, 1) := by decide +kernel
theorem d_Picture_upcoming_13 : decode b_Picture_upcoming 13 = .ok (.getfield 47, 3) := by decide +kernel
theorem d_Picture_upcoming_16 : decode b_Picture_upcoming 16 = .ok (.invokevirtual 99, 3) := by decide +kernel
theorem d_Picture_upcoming_19 : decode b_Picture_upcoming 19 = .ok (.invokestatic 105, 3) := by decide +kernel
theorem d_Picture_upcoming_22 : decode b_Picture_upcoming 22 = .ok (.ifCond .eq 16, 3) := by decide +kernel
theorem d_Picture_upcoming_25 : decode b_Picture_upcoming 25 = .ok (.aload_n 0, 1) := by decide +kernel
theorem d_Picture_upcoming_26 : decode b_Picture_upcoming 26 = .ok (.dup, 1) := by decide +kernel
theorem d_Picture_upcoming_27 : decode b_Picture_upcoming 27 = .ok (.getfield 47, 3) := by decide +kernel
theorem d_Picture_upcoming_30 : decode b_Picture_upcoming 30 = .ok (.iconst 1, 1) := by decide +kernel
theorem d_Picture_upcoming_31 : decode b_Picture_upcoming 31 = .ok (.iadd, 1) := by decide +kernel
theorem d_Picture_upcoming_32 : decode b_Picture_upcoming 32 = .ok (.putfield 47, 3) := by decide +kernel
theorem d_Picture_upcoming_35 : decode b_Picture_upcoming 35 = .ok (.goto (-35), 3) := by decide +kernel
theorem d_Picture_upcoming_38 : decode b_Picture_upcoming 38 = .ok (.aload_n 0, 1) := by decide +kernel
theorem d_Picture_upcoming_39 : decode b_Picture_upcoming 39 = .ok (.aload_n 0, 1) := by decide +kernel
theorem d_Picture_upcoming_40 : decode b_Picture_upcoming 40 = .ok (.getfield 47, 3) := by decide +kernel
theorem d_Picture_upcoming_43 : decode b_Picture_upcoming 43 = .ok (.invokevirtual 99, 3) := by decide +kernel
theorem d_Picture_upcoming_46 : decode b_Picture_upcoming 46 = .ok (.ireturn, 1) := by decide +kernel
abbrev b_Picture_takeEnd : ByteArray := prog_5_method_16_code
abbrev y_Picture_takeEnd : MethodName := ⟨"EditMoves$Picture", "takeEnd", "()Z"⟩
def ws_Picture_takeEnd : List Cond := .code y_Picture_takeEnd b_Picture_takeEnd 2 (some .boolean) :: wAll
theorem d_Picture_takeEnd_0 : decode b_Picture_takeEnd 0 = .ok (.aload_n 0, 1) := by decide +kernel
theorem d_Picture_takeEnd_1 : decode b_Picture_takeEnd 1 = .ok (.bipush 43, 2) := by decide +kernel
theorem d_Picture_takeEnd_3 : decode b_Picture_takeEnd 3 = .ok (.invokevirtual 111, 3) := by decide +kernel
theorem d_Picture_takeEnd_6 : decode b_Picture_takeEnd 6 = .ok (.ifCond .ne 12, 3) := by decide +kernel
theorem d_Picture_takeEnd_9 : decode b_Picture_takeEnd 9 = .ok (.aload_n 0, 1) := by decide +kernel
theorem d_Picture_takeEnd_10 : decode b_Picture_takeEnd 10 = .ok (.bipush 45, 2) := by decide +kernel
theorem d_Picture_takeEnd_12 : decode b_Picture_takeEnd 12 = .ok (.invokevirtual 111, 3) := by decide +kernel
theorem d_Picture_takeEnd_15 : decode b_Picture_takeEnd 15 = .ok (.ifCond .eq 5, 3) := by decide +kernel
theorem d_Picture_takeEnd_18 : decode b_Picture_takeEnd 18 = .ok (.iconst 1, 1) := by decide +kernel
theorem d_Picture_takeEnd_19 : decode b_Picture_takeEnd 19 = .ok (.ireturn, 1) := by decide +kernel
theorem d_Picture_takeEnd_20 : decode b_Picture_takeEnd 20 = .ok (.aload_n 0, 1) := by decide +kernel
theorem d_Picture_takeEnd_21 : decode b_Picture_takeEnd 21 = .ok (.bipush 67, 2) := by decide +kernel
theorem d_Picture_takeEnd_23 : decode b_Picture_takeEnd 23 = .ok (.invokevirtual 111, 3) := by decide +kernel
theorem d_Picture_takeEnd_26 : decode b_Picture_takeEnd 26 = .ok (.ifCond .ne 12, 3) := by decide +kernel
theorem d_Picture_takeEnd_29 : decode b_Picture_takeEnd 29 = .ok (.aload_n 0, 1) := by decide +kernel
theorem d_Picture_takeEnd_30 : decode b_Picture_takeEnd 30 = .ok (.bipush 68, 2) := by decide +kernel
theorem d_Picture_takeEnd_32 : decode b_Picture_takeEnd 32 = .ok (.invokevirtual 111, 3) := by decide +kernel
theorem d_Picture_takeEnd_35 : decode b_Picture_takeEnd 35 = .ok (.ifCond .eq 32, 3) := by decide +kernel
theorem d_Picture_takeEnd_38 : decode b_Picture_takeEnd 38 = .ok (.aload_n 0, 1) := by decide +kernel
theorem d_Picture_takeEnd_39 : decode b_Picture_takeEnd 39 = .ok (.aload_n 0, 1) := by decide +kernel
theorem d_Picture_takeEnd_40 : decode b_Picture_takeEnd 40 = .ok (.getfield 44, 3) := by decide +kernel
theorem d_Picture_takeEnd_43 : decode b_Picture_takeEnd 43 = .ok (.iconst 1, 1) := by decide +kernel
theorem d_Picture_takeEnd_44 : decode b_Picture_takeEnd 44 = .ok (.isub, 1) := by decide +kernel
theorem d_Picture_takeEnd_45 : decode b_Picture_takeEnd 45 = .ok (.invokevirtual 99, 3) := by decide +kernel
theorem d_Picture_takeEnd_48 : decode b_Picture_takeEnd 48 = .ok (.istore_n 1, 1) := by decide +kernel
theorem d_Picture_takeEnd_49 : decode b_Picture_takeEnd 49 = .ok (.iload_n 1, 1) := by decide +kernel
theorem d_Picture_takeEnd_50 : decode b_Picture_takeEnd 50 = .ok (.bipush 67, 2) := by decide +kernel
theorem d_Picture_takeEnd_52 : decode b_Picture_takeEnd 52 = .ok (.if_icmp .eq 9, 3) := by decide +kernel
theorem d_Picture_takeEnd_55 : decode b_Picture_takeEnd 55 = .ok (.iload_n 1, 1) := by decide +kernel
theorem d_Picture_takeEnd_56 : decode b_Picture_takeEnd 56 = .ok (.bipush 68, 2) := by decide +kernel
theorem d_Picture_takeEnd_58 : decode b_Picture_takeEnd 58 = .ok (.if_icmp .ne 7, 3) := by decide +kernel
theorem d_Picture_takeEnd_61 : decode b_Picture_takeEnd 61 = .ok (.iconst 1, 1) := by decide +kernel
theorem d_Picture_takeEnd_62 : decode b_Picture_takeEnd 62 = .ok (.goto 4, 3) := by decide +kernel
theorem d_Picture_takeEnd_65 : decode b_Picture_takeEnd 65 = .ok (.iconst 0, 1) := by decide +kernel
theorem d_Picture_takeEnd_66 : decode b_Picture_takeEnd 66 = .ok (.ireturn, 1) := by decide +kernel
theorem d_Picture_takeEnd_67 : decode b_Picture_takeEnd 67 = .ok (.iconst 1, 1) := by decide +kernel
theorem d_Picture_takeEnd_68 : decode b_Picture_takeEnd 68 = .ok (.ireturn, 1) := by decide +kernel
abbrev b_Picture_takeString : ByteArray := prog_5_method_15_code
abbrev y_Picture_takeString : MethodName := ⟨"EditMoves$Picture", "takeString", "(II)I"⟩
def ws_Picture_takeString : List Cond := .code y_Picture_takeString b_Picture_takeString 7 (some .int) :: wAll
theorem d_Picture_takeString_0 : decode b_Picture_takeString 0 = .ok (.aload_n 0, 1) := by decide +kernel
theorem d_Picture_takeString_1 : decode b_Picture_takeString 1 = .ok (.invokevirtual 124, 3) := by decide +kernel
theorem d_Picture_takeString_4 : decode b_Picture_takeString 4 = .ok (.istore_n 3, 1) := by decide +kernel
theorem d_Picture_takeString_5 : decode b_Picture_takeString 5 = .ok (.iload_n 3, 1) := by decide +kernel
theorem d_Picture_takeString_6 : decode b_Picture_takeString 6 = .ok (.bipush 43, 2) := by decide +kernel
theorem d_Picture_takeString_8 : decode b_Picture_takeString 8 = .ok (.if_icmp .eq 14, 3) := by decide +kernel
theorem d_Picture_takeString_11 : decode b_Picture_takeString 11 = .ok (.iload_n 3, 1) := by decide +kernel
theorem d_Picture_takeString_12 : decode b_Picture_takeString 12 = .ok (.bipush 45, 2) := by decide +kernel
theorem d_Picture_takeString_14 : decode b_Picture_takeString 14 = .ok (.if_icmp .eq 8, 3) := by decide +kernel
theorem d_Picture_takeString_17 : decode b_Picture_takeString 17 = .ok (.iload_n 3, 1) := by decide +kernel
theorem d_Picture_takeString_18 : decode b_Picture_takeString 18 = .ok (.iload_n 2, 1) := by decide +kernel
theorem d_Picture_takeString_19 : decode b_Picture_takeString 19 = .ok (.if_icmp .ne 12, 3) := by decide +kernel
theorem d_Picture_takeString_22 : decode b_Picture_takeString 22 = .ok (.iload_n 3, 1) := by decide +kernel
theorem d_Picture_takeString_23 : decode b_Picture_takeString 23 = .ok (.iload_n 1, 1) := by decide +kernel
theorem d_Picture_takeString_24 : decode b_Picture_takeString 24 = .ok (.if_icmp .eq 7, 3) := by decide +kernel
theorem d_Picture_takeString_27 : decode b_Picture_takeString 27 = .ok (.iconst 1, 1) := by decide +kernel
theorem d_Picture_takeString_28 : decode b_Picture_takeString 28 = .ok (.goto 4, 3) := by decide +kernel
theorem d_Picture_takeString_31 : decode b_Picture_takeString 31 = .ok (.iconst 0, 1) := by decide +kernel
theorem d_Picture_takeString_32 : decode b_Picture_takeString 32 = .ok (.istore 4, 2) := by decide +kernel
theorem d_Picture_takeString_34 : decode b_Picture_takeString 34 = .ok (.iload_n 3, 1) := by decide +kernel
theorem d_Picture_takeString_35 : decode b_Picture_takeString 35 = .ok (.bipush 90, 2) := by decide +kernel
theorem d_Picture_takeString_37 : decode b_Picture_takeString 37 = .ok (.if_icmp .eq 16, 3) := by decide +kernel
theorem d_Picture_takeString_40 : decode b_Picture_takeString 40 = .ok (.iload_n 3, 1) := by decide +kernel
theorem d_Picture_takeString_41 : decode b_Picture_takeString 41 = .ok (.bipush 42, 2) := by decide +kernel
theorem d_Picture_takeString_43 : decode b_Picture_takeString 43 = .ok (.if_icmp .eq 10, 3) := by decide +kernel
theorem d_Picture_takeString_46 : decode b_Picture_takeString 46 = .ok (.iload 4, 2) := by decide +kernel
theorem d_Picture_takeString_48 : decode b_Picture_takeString 48 = .ok (.ifCond .ne 5, 3) := by decide +kernel
theorem d_Picture_takeString_51 : decode b_Picture_takeString 51 = .ok (.iconst 0, 1) := by decide +kernel
theorem d_Picture_takeString_52 : decode b_Picture_takeString 52 = .ok (.ireturn, 1) := by decide +kernel
theorem d_Picture_takeString_53 : decode b_Picture_takeString 53 = .ok (.aload_n 0, 1) := by decide +kernel
theorem d_Picture_takeString_54 : decode b_Picture_takeString 54 = .ok (.getfield 47, 3) := by decide +kernel
theorem d_Picture_takeString_57 : decode b_Picture_takeString 57 = .ok (.istore 5, 2) := by decide +kernel
theorem d_Picture_takeString_59 : decode b_Picture_takeString 59 = .ok (.aload_n 0, 1) := by decide +kernel
theorem d_Picture_takeString_60 : decode b_Picture_takeString 60 = .ok (.iload_n 3, 1) := by decide +kernel
theorem d_Picture_takeString_61 : decode b_Picture_takeString 61 = .ok (.invokevirtual 118, 3) := by decide +kernel
theorem d_Picture_takeString_64 : decode b_Picture_takeString 64 = .ok (.istore 6, 2) := by decide +kernel
theorem d_Picture_takeString_66 : decode b_Picture_takeString 66 = .ok (.iload 4, 2) := by decide +kernel
theorem d_Picture_takeString_68 : decode b_Picture_takeString 68 = .ok (.ifCond .eq 17, 3) := by decide +kernel
theorem d_Picture_takeString_71 : decode b_Picture_takeString 71 = .ok (.iload 6, 2) := by decide +kernel
theorem d_Picture_takeString_73 : decode b_Picture_takeString 73 = .ok (.iconst 2, 1) := by decide +kernel
theorem d_Picture_takeString_74 : decode b_Picture_takeString 74 = .ok (.if_icmp .ge 11, 3) := by decide +kernel
theorem d_Picture_takeString_77 : decode b_Picture_takeString 77 = .ok (.aload_n 0, 1) := by decide +kernel
theorem d_Picture_takeString_78 : decode b_Picture_takeString 78 = .ok (.iload 5, 2) := by decide +kernel
theorem d_Picture_takeString_80 : decode b_Picture_takeString 80 = .ok (.putfield 47, 3) := by decide +kernel
theorem d_Picture_takeString_83 : decode b_Picture_takeString 83 = .ok (.iconst 0, 1) := by decide +kernel
theorem d_Picture_takeString_84 : decode b_Picture_takeString 84 = .ok (.ireturn, 1) := by decide +kernel
theorem d_Picture_takeString_85 : decode b_Picture_takeString 85 = .ok (.aload_n 0, 1) := by decide +kernel
theorem d_Picture_takeString_86 : decode b_Picture_takeString 86 = .ok (.iload_n 3, 1) := by decide +kernel
theorem d_Picture_takeString_87 : decode b_Picture_takeString 87 = .ok (.putfield 60, 3) := by decide +kernel
theorem d_Picture_takeString_90 : decode b_Picture_takeString 90 = .ok (.aload_n 0, 1) := by decide +kernel
theorem d_Picture_takeString_91 : decode b_Picture_takeString 91 = .ok (.iload 4, 2) := by decide +kernel
theorem d_Picture_takeString_93 : decode b_Picture_takeString 93 = .ok (.putfield 63, 3) := by decide +kernel
theorem d_Picture_takeString_96 : decode b_Picture_takeString 96 = .ok (.iload 6, 2) := by decide +kernel
theorem d_Picture_takeString_98 : decode b_Picture_takeString 98 = .ok (.ireturn, 1) := by decide +kernel
abbrev b_Picture_takeFixedSign : ByteArray := prog_5_method_14_code
abbrev y_Picture_takeFixedSign : MethodName := ⟨"EditMoves$Picture", "takeFixedSign", "()I"⟩
def ws_Picture_takeFixedSign : List Cond := .code y_Picture_takeFixedSign b_Picture_takeFixedSign 1 (some .int) :: wAll
theorem d_Picture_takeFixedSign_0 : decode b_Picture_takeFixedSign 0 = .ok (.aload_n 0, 1) := by decide +kernel
theorem d_Picture_takeFixedSign_1 : decode b_Picture_takeFixedSign 1 = .ok (.bipush 43, 2) := by decide +kernel
theorem d_Picture_takeFixedSign_3 : decode b_Picture_takeFixedSign 3 = .ok (.invokevirtual 111, 3) := by decide +kernel
theorem d_Picture_takeFixedSign_6 : decode b_Picture_takeFixedSign 6 = .ok (.ifCond .eq 6, 3) := by decide +kernel
theorem d_Picture_takeFixedSign_9 : decode b_Picture_takeFixedSign 9 = .ok (.bipush 43, 2) := by decide +kernel
theorem d_Picture_takeFixedSign_11 : decode b_Picture_takeFixedSign 11 = .ok (.ireturn, 1) := by decide +kernel
theorem d_Picture_takeFixedSign_12 : decode b_Picture_takeFixedSign 12 = .ok (.aload_n 0, 1) := by decide +kernel
theorem d_Picture_takeFixedSign_13 : decode b_Picture_takeFixedSign 13 = .ok (.bipush 45, 2) := by decide +kernel
theorem d_Picture_takeFixedSign_15 : decode b_Picture_takeFixedSign 15 = .ok (.invokevirtual 111, 3) := by decide +kernel
theorem d_Picture_takeFixedSign_18 : decode b_Picture_takeFixedSign 18 = .ok (.ifCond .eq 8, 3) := by decide +kernel
theorem d_Picture_takeFixedSign_21 : decode b_Picture_takeFixedSign 21 = .ok (.bipush 45, 2) := by decide +kernel
theorem d_Picture_takeFixedSign_23 : decode b_Picture_takeFixedSign 23 = .ok (.goto 4, 3) := by decide +kernel
theorem d_Picture_takeFixedSign_26 : decode b_Picture_takeFixedSign 26 = .ok (.iconst 0, 1) := by decide +kernel
theorem d_Picture_takeFixedSign_27 : decode b_Picture_takeFixedSign 27 = .ok (.ireturn, 1) := by decide +kernel
abbrev b_Picture_isOfNumber : ByteArray := prog_5_method_13_code
abbrev y_Picture_isOfNumber : MethodName := ⟨"EditMoves$Picture", "isOfNumber", "(I)Z"⟩
def ws_Picture_isOfNumber : List Cond := .code y_Picture_isOfNumber b_Picture_isOfNumber 9 (some .boolean) :: wAll
theorem d_Picture_isOfNumber_0 : decode b_Picture_isOfNumber 0 = .ok (.aload_n 0, 1) := by decide +kernel
theorem d_Picture_isOfNumber_1 : decode b_Picture_isOfNumber 1 = .ok (.iconst 0, 1) := by decide +kernel
theorem d_Picture_isOfNumber_2 : decode b_Picture_isOfNumber 2 = .ok (.putfield 47, 3) := by decide +kernel
theorem d_Picture_isOfNumber_5 : decode b_Picture_isOfNumber 5 = .ok (.aload_n 0, 1) := by decide +kernel
theorem d_Picture_isOfNumber_6 : decode b_Picture_isOfNumber 6 = .ok (.invokevirtual 108, 3) := by decide +kernel
theorem d_Picture_isOfNumber_9 : decode b_Picture_isOfNumber 9 = .ok (.istore_n 2, 1) := by decide +kernel
theorem d_Picture_isOfNumber_10 : decode b_Picture_isOfNumber 10 = .ok (.aload_n 0, 1) := by decide +kernel
theorem d_Picture_isOfNumber_11 : decode b_Picture_isOfNumber 11 = .ok (.iload_n 1, 1) := by decide +kernel
theorem d_Picture_isOfNumber_12 : decode b_Picture_isOfNumber 12 = .ok (.invokevirtual 111, 3) := by decide +kernel
theorem d_Picture_isOfNumber_15 : decode b_Picture_isOfNumber 15 = .ok (.pop, 1) := by decide +kernel
theorem d_Picture_isOfNumber_16 : decode b_Picture_isOfNumber 16 = .ok (.aload_n 0, 1) := by decide +kernel
theorem d_Picture_isOfNumber_17 : decode b_Picture_isOfNumber 17 = .ok (.iload_n 2, 1) := by decide +kernel
theorem d_Picture_isOfNumber_18 : decode b_Picture_isOfNumber 18 = .ok (.iload_n 1, 1) := by decide +kernel
theorem d_Picture_isOfNumber_19 : decode b_Picture_isOfNumber 19 = .ok (.invokevirtual 114, 3) := by decide +kernel
theorem d_Picture_isOfNumber_22 : decode b_Picture_isOfNumber 22 = .ok (.istore_n 3, 1) := by decide +kernel
theorem d_Picture_isOfNumber_23 : decode b_Picture_isOfNumber 23 = .ok (.aload_n 0, 1) := by decide +kernel
theorem d_Picture_isOfNumber_24 : decode b_Picture_isOfNumber 24 = .ok (.bipush 57, 2) := by decide +kernel
theorem d_Picture_isOfNumber_26 : decode b_Picture_isOfNumber 26 = .ok (.invokevirtual 118, 3) := by decide +kernel
theorem d_Picture_isOfNumber_29 : decode b_Picture_isOfNumber 29 = .ok (.istore 4, 2) := by decide +kernel
theorem d_Picture_isOfNumber_31 : decode b_Picture_isOfNumber 31 = .ok (.iconst 0, 1) := by decide +kernel
theorem d_Picture_isOfNumber_32 : decode b_Picture_isOfNumber 32 = .ok (.istore 5, 2) := by decide +kernel
theorem d_Picture_isOfNumber_34 : decode b_Picture_isOfNumber 34 = .ok (.iconst 0, 1) := by decide +kernel
theorem d_Picture_isOfNumber_35 : decode b_Picture_isOfNumber 35 = .ok (.istore 6, 2) := by decide +kernel
theorem d_Picture_isOfNumber_37 : decode b_Picture_isOfNumber 37 = .ok (.aload_n 0, 1) := by decide +kernel
theorem d_Picture_isOfNumber_38 : decode b_Picture_isOfNumber 38 = .ok (.bipush 46, 2) := by decide +kernel
theorem d_Picture_isOfNumber_40 : decode b_Picture_isOfNumber 40 = .ok (.invokevirtual 111, 3) := by decide +kernel
theorem d_Picture_isOfNumber_43 : decode b_Picture_isOfNumber 43 = .ok (.ifCond .ne 12, 3) := by decide +kernel
theorem d_Picture_isOfNumber_46 : decode b_Picture_isOfNumber 46 = .ok (.aload_n 0, 1) := by decide +kernel
theorem d_Picture_isOfNumber_47 : decode b_Picture_isOfNumber 47 = .ok (.bipush 86, 2) := by decide +kernel
theorem d_Picture_isOfNumber_49 : decode b_Picture_isOfNumber 49 = .ok (.invokevirtual 111, 3) := by decide +kernel
theorem d_Picture_isOfNumber_52 : decode b_Picture_isOfNumber 52 = .ok (.ifCond .eq 34, 3) := by decide +kernel
theorem d_Picture_isOfNumber_55 : decode b_Picture_isOfNumber 55 = .ok (.iload 4, 2) := by decide +kernel
theorem d_Picture_isOfNumber_57 : decode b_Picture_isOfNumber 57 = .ok (.ifCond .ne 18, 3) := by decide +kernel
theorem d_Picture_isOfNumber_60 : decode b_Picture_isOfNumber 60 = .ok (.iload_n 3, 1) := by decide +kernel
theorem d_Picture_isOfNumber_61 : decode b_Picture_isOfNumber 61 = .ok (.ifCond .le 14, 3) := by decide +kernel
theorem d_Picture_isOfNumber_64 : decode b_Picture_isOfNumber 64 = .ok (.aload_n 0, 1) := by decide +kernel
theorem d_Picture_isOfNumber_65 : decode b_Picture_isOfNumber 65 = .ok (.aload_n 0, 1) := by decide +kernel
theorem d_Picture_isOfNumber_66 : decode b_Picture_isOfNumber 66 = .ok (.getfield 60, 3) := by decide +kernel
theorem d_Picture_isOfNumber_69 : decode b_Picture_isOfNumber 69 = .ok (.invokevirtual 118, 3) := by decide +kernel
theorem d_Picture_isOfNumber_72 : decode b_Picture_isOfNumber 72 = .ok (.goto 4, 3) := by decide +kernel
theorem d_Picture_isOfNumber_75 : decode b_Picture_isOfNumber 75 = .ok (.iconst 0, 1) := by decide +kernel
theorem d_Picture_isOfNumber_76 : decode b_Picture_isOfNumber 76 = .ok (.istore 5, 2) := by decide +kernel
theorem d_Picture_isOfNumber_78 : decode b_Picture_isOfNumber 78 = .ok (.aload_n 0, 1) := by decide +kernel
theorem d_Picture_isOfNumber_79 : decode b_Picture_isOfNumber 79 = .ok (.bipush 57, 2) := by decide +kernel
theorem d_Picture_isOfNumber_81 : decode b_Picture_isOfNumber 81 = .ok (.invokevirtual 118, 3) := by decide +kernel
theorem d_Picture_isOfNumber_84 : decode b_Picture_isOfNumber 84 = .ok (.istore 6, 2) := by decide +kernel
theorem d_Picture_isOfNumber_86 : decode b_Picture_isOfNumber 86 = .ok (.iload_n 2, 1) := by decide +kernel
theorem d_Picture_isOfNumber_87 : decode b_Picture_isOfNumber 87 = .ok (.ifCond .ne 21, 3) := by decide +kernel
theorem d_Picture_isOfNumber_90 : decode b_Picture_isOfNumber 90 = .ok (.aload_n 0, 1) := by decide +kernel
theorem d_Picture_isOfNumber_91 : decode b_Picture_isOfNumber 91 = .ok (.getfield 60, 3) := by decide +kernel
theorem d_Picture_isOfNumber_94 : decode b_Picture_isOfNumber 94 = .ok (.bipush 43, 2) := by decide +kernel
theorem d_Picture_isOfNumber_96 : decode b_Picture_isOfNumber 96 = .ok (.if_icmp .eq 12, 3) := by decide +kernel
theorem d_Picture_isOfNumber_99 : decode b_Picture_isOfNumber 99 = .ok (.aload_n 0, 1) := by decide +kernel
theorem d_Picture_isOfNumber_100 : decode b_Picture_isOfNumber 100 = .ok (.getfield 60, 3) := by decide +kernel
theorem d_Picture_isOfNumber_103 : decode b_Picture_isOfNumber 103 = .ok (.bipush 45, 2) := by decide +kernel
theorem d_Picture_isOfNumber_105 : decode b_Picture_isOfNumber 105 = .ok (.if_icmp .ne 7, 3) := by decide +kernel
theorem d_Picture_isOfNumber_108 : decode b_Picture_isOfNumber 108 = .ok (.iconst 1, 1) := by decide +kernel
theorem d_Picture_isOfNumber_109 : decode b_Picture_isOfNumber 109 = .ok (.goto 4, 3) := by decide +kernel
theorem d_Picture_isOfNumber_112 : decode b_Picture_isOfNumber 112 = .ok (.iconst 0, 1) := by decide +kernel
theorem d_Picture_isOfNumber_113 : decode b_Picture_isOfNumber 113 = .ok (.istore 7, 2) := by decide +kernel
theorem d_Picture_isOfNumber_115 : decode b_Picture_isOfNumber 115 = .ok (.iload 7, 2) := by decide +kernel
theorem d_Picture_isOfNumber_117 : decode b_Picture_isOfNumber 117 = .ok (.ifCond .ne 12, 3) := by decide +kernel
theorem d_Picture_isOfNumber_120 : decode b_Picture_isOfNumber 120 = .ok (.aload_n 0, 1) := by decide +kernel
theorem d_Picture_isOfNumber_121 : decode b_Picture_isOfNumber 121 = .ok (.invokevirtual 121, 3) := by decide +kernel
theorem d_Picture_isOfNumber_124 : decode b_Picture_isOfNumber 124 = .ok (.ifCond .ne 5, 3) := by decide +kernel
theorem d_Picture_isOfNumber_127 : decode b_Picture_isOfNumber 127 = .ok (.iconst 0, 1) := by decide +kernel
theorem d_Picture_isOfNumber_128 : decode b_Picture_isOfNumber 128 = .ok (.ireturn, 1) := by decide +kernel
theorem d_Picture_isOfNumber_129 : decode b_Picture_isOfNumber 129 = .ok (.aload_n 0, 1) := by decide +kernel
theorem d_Picture_isOfNumber_130 : decode b_Picture_isOfNumber 130 = .ok (.iload_n 3, 1) := by decide +kernel
theorem d_Picture_isOfNumber_131 : decode b_Picture_isOfNumber 131 = .ok (.aload_n 0, 1) := by decide +kernel
theorem d_Picture_isOfNumber_132 : decode b_Picture_isOfNumber 132 = .ok (.getfield 63, 3) := by decide +kernel
theorem d_Picture_isOfNumber_135 : decode b_Picture_isOfNumber 135 = .ok (.ifCond .eq 7, 3) := by decide +kernel
theorem d_Picture_isOfNumber_138 : decode b_Picture_isOfNumber 138 = .ok (.iconst 1, 1) := by decide +kernel
theorem d_Picture_isOfNumber_139 : decode b_Picture_isOfNumber 139 = .ok (.goto 4, 3) := by decide +kernel
theorem d_Picture_isOfNumber_142 : decode b_Picture_isOfNumber 142 = .ok (.iconst 0, 1) := by decide +kernel
theorem d_Picture_isOfNumber_143 : decode b_Picture_isOfNumber 143 = .ok (.isub, 1) := by decide +kernel
theorem d_Picture_isOfNumber_144 : decode b_Picture_isOfNumber 144 = .ok (.iload 4, 2) := by decide +kernel
theorem d_Picture_isOfNumber_146 : decode b_Picture_isOfNumber 146 = .ok (.iadd, 1) := by decide +kernel
theorem d_Picture_isOfNumber_147 : decode b_Picture_isOfNumber 147 = .ok (.putfield 50, 3) := by decide +kernel
theorem d_Picture_isOfNumber_150 : decode b_Picture_isOfNumber 150 = .ok (.aload_n 0, 1) := by decide +kernel
theorem d_Picture_isOfNumber_151 : decode b_Picture_isOfNumber 151 = .ok (.iload 5, 2) := by decide +kernel
theorem d_Picture_isOfNumber_153 : decode b_Picture_isOfNumber 153 = .ok (.iload 6, 2) := by decide +kernel
theorem d_Picture_isOfNumber_155 : decode b_Picture_isOfNumber 155 = .ok (.iadd, 1) := by decide +kernel
theorem d_Picture_isOfNumber_156 : decode b_Picture_isOfNumber 156 = .ok (.putfield 53, 3) := by decide +kernel
theorem d_Picture_isOfNumber_159 : decode b_Picture_isOfNumber 159 = .ok (.aload_n 0, 1) := by decide +kernel
theorem d_Picture_isOfNumber_160 : decode b_Picture_isOfNumber 160 = .ok (.iload 4, 2) := by decide +kernel
theorem d_Picture_isOfNumber_162 : decode b_Picture_isOfNumber 162 = .ok (.iload 6, 2) := by decide +kernel
theorem d_Picture_isOfNumber_164 : decode b_Picture_isOfNumber 164 = .ok (.iadd, 1) := by decide +kernel
theorem d_Picture_isOfNumber_165 : decode b_Picture_isOfNumber 165 = .ok (.ifCond .ne 7, 3) := by decide +kernel
theorem d_Picture_isOfNumber_168 : decode b_Picture_isOfNumber 168 = .ok (.iconst 1, 1) := by decide +kernel
theorem d_Picture_isOfNumber_169 : decode b_Picture_isOfNumber 169 = .ok (.goto 4, 3) := by decide +kernel
theorem d_Picture_isOfNumber_172 : decode b_Picture_isOfNumber 172 = .ok (.iconst 0, 1) := by decide +kernel
theorem d_Picture_isOfNumber_173 : decode b_Picture_isOfNumber 173 = .ok (.putfield 56, 3) := by decide +kernel
theorem d_Picture_isOfNumber_176 : decode b_Picture_isOfNumber 176 = .ok (.aload_n 0, 1) := by decide +kernel
theorem d_Picture_isOfNumber_177 : decode b_Picture_isOfNumber 177 = .ok (.getfield 50, 3) := by decide +kernel
theorem d_Picture_isOfNumber_180 : decode b_Picture_isOfNumber 180 = .ok (.aload_n 0, 1) := by decide +kernel
theorem d_Picture_isOfNumber_181 : decode b_Picture_isOfNumber 181 = .ok (.getfield 53, 3) := by decide +kernel
theorem d_Picture_isOfNumber_184 : decode b_Picture_isOfNumber 184 = .ok (.iadd, 1) := by decide +kernel
theorem d_Picture_isOfNumber_185 : decode b_Picture_isOfNumber 185 = .ok (.istore 8, 2) := by decide +kernel
theorem d_Picture_isOfNumber_187 : decode b_Picture_isOfNumber 187 = .ok (.aload_n 0, 1) := by decide +kernel
theorem d_Picture_isOfNumber_188 : decode b_Picture_isOfNumber 188 = .ok (.invokevirtual 124, 3) := by decide +kernel
theorem d_Picture_isOfNumber_191 : decode b_Picture_isOfNumber 191 = .ok (.ifCond .ne 20, 3) := by decide +kernel
theorem d_Picture_isOfNumber_194 : decode b_Picture_isOfNumber 194 = .ok (.iload 8, 2) := by decide +kernel
theorem d_Picture_isOfNumber_196 : decode b_Picture_isOfNumber 196 = .ok (.iconst 1, 1) := by decide +kernel
theorem d_Picture_isOfNumber_197 : decode b_Picture_isOfNumber 197 = .ok (.if_icmp .lt 14, 3) := by decide +kernel
theorem d_Picture_isOfNumber_200 : decode b_Picture_isOfNumber 200 = .ok (.iload 8, 2) := by decide +kernel
theorem d_Picture_isOfNumber_202 : decode b_Picture_isOfNumber 202 = .ok (.bipush 18, 2) := by decide +kernel
theorem d_Picture_isOfNumber_204 : decode b_Picture_isOfNumber 204 = .ok (.if_icmp .gt 7, 3) := by decide +kernel
theorem d_Picture_isOfNumber_207 : decode b_Picture_isOfNumber 207 = .ok (.iconst 1, 1) := by decide +kernel
theorem d_Picture_isOfNumber_208 : decode b_Picture_isOfNumber 208 = .ok (.goto 4, 3) := by decide +kernel
theorem d_Picture_isOfNumber_211 : decode b_Picture_isOfNumber 211 = .ok (.iconst 0, 1) := by decide +kernel
theorem d_Picture_isOfNumber_212 : decode b_Picture_isOfNumber 212 = .ok (.ireturn, 1) := by decide +kernel
abbrev b_Picture_read : ByteArray := prog_5_method_2_code
abbrev y_Picture_read : MethodName := ⟨"EditMoves$Picture", "read", "(LEditMoves$Line;I)V"⟩
def ws_Picture_read : List Cond := .code y_Picture_read b_Picture_read 4 none :: wAll
theorem d_Picture_read_0 : decode b_Picture_read 0 = .ok (.aload_n 0, 1) := by decide +kernel
theorem d_Picture_read_1 : decode b_Picture_read 1 = .ok (.invokevirtual 18, 3) := by decide +kernel
theorem d_Picture_read_4 : decode b_Picture_read 4 = .ok (.aload_n 0, 1) := by decide +kernel
theorem d_Picture_read_5 : decode b_Picture_read 5 = .ok (.aload_n 1, 1) := by decide +kernel
theorem d_Picture_read_6 : decode b_Picture_read 6 = .ok (.iload_n 2, 1) := by decide +kernel
theorem d_Picture_read_7 : decode b_Picture_read 7 = .ok (.invokevirtual 21, 3) := by decide +kernel
theorem d_Picture_read_10 : decode b_Picture_read 10 = .ok (.istore_n 3, 1) := by decide +kernel
theorem d_Picture_read_11 : decode b_Picture_read 11 = .ok (.iload_n 3, 1) := by decide +kernel
theorem d_Picture_read_12 : decode b_Picture_read 12 = .ok (.ifCond .eq 18, 3) := by decide +kernel
theorem d_Picture_read_15 : decode b_Picture_read 15 = .ok (.aload_n 0, 1) := by decide +kernel
theorem d_Picture_read_16 : decode b_Picture_read 16 = .ok (.invokevirtual 25, 3) := by decide +kernel
theorem d_Picture_read_19 : decode b_Picture_read 19 = .ok (.ifCond .eq 11, 3) := by decide +kernel
theorem d_Picture_read_22 : decode b_Picture_read 22 = .ok (.aload_n 0, 1) := by decide +kernel
theorem d_Picture_read_23 : decode b_Picture_read 23 = .ok (.iconst 2, 1) := by decide +kernel
theorem d_Picture_read_24 : decode b_Picture_read 24 = .ok (.putfield 29, 3) := by decide +kernel
theorem d_Picture_read_27 : decode b_Picture_read 27 = .ok (.goto 28, 3) := by decide +kernel
theorem d_Picture_read_30 : decode b_Picture_read 30 = .ok (.iload_n 3, 1) := by decide +kernel
theorem d_Picture_read_31 : decode b_Picture_read 31 = .ok (.ifCond .eq 19, 3) := by decide +kernel
theorem d_Picture_read_34 : decode b_Picture_read 34 = .ok (.aload_n 0, 1) := by decide +kernel
theorem d_Picture_read_35 : decode b_Picture_read 35 = .ok (.iload_n 2, 1) := by decide +kernel
theorem d_Picture_read_36 : decode b_Picture_read 36 = .ok (.invokevirtual 33, 3) := by decide +kernel
theorem d_Picture_read_39 : decode b_Picture_read 39 = .ok (.ifCond .eq 11, 3) := by decide +kernel
theorem d_Picture_read_42 : decode b_Picture_read 42 = .ok (.aload_n 0, 1) := by decide +kernel
theorem d_Picture_read_43 : decode b_Picture_read 43 = .ok (.iconst 1, 1) := by decide +kernel
theorem d_Picture_read_44 : decode b_Picture_read 44 = .ok (.putfield 29, 3) := by decide +kernel
theorem d_Picture_read_47 : decode b_Picture_read 47 = .ok (.goto 8, 3) := by decide +kernel
theorem d_Picture_read_50 : decode b_Picture_read 50 = .ok (.aload_n 0, 1) := by decide +kernel
theorem d_Picture_read_51 : decode b_Picture_read 51 = .ok (.invokevirtual 18, 3) := by decide +kernel
theorem d_Picture_read_54 : decode b_Picture_read 54 = .ok (.return_, 1) := by decide +kernel
theorem d_Picture_read_55 : decode b_Picture_read 55 = .ok (.aload_n 0, 1) := by decide +kernel
theorem d_Picture_read_56 : decode b_Picture_read 56 = .ok (.aload_n 0, 1) := by decide +kernel
theorem d_Picture_read_57 : decode b_Picture_read 57 = .ok (.invokevirtual 37, 3) := by decide +kernel
theorem d_Picture_read_60 : decode b_Picture_read 60 = .ok (.putfield 41, 3) := by decide +kernel
theorem d_Picture_read_63 : decode b_Picture_read 63 = .ok (.return_, 1) := by decide +kernel
abbrev b_Digits_digit : ByteArray := prog_2_method_3_code
abbrev y_Digits_digit : MethodName := ⟨"EditMoves$Digits", "digit", "(I)I"⟩
def ws_Digits_digit : List Cond := .code y_Digits_digit b_Digits_digit 2 (some .int) :: wAll
theorem d_Digits_digit_0 : decode b_Digits_digit 0 = .ok (.iload_n 1, 1) := by decide +kernel
theorem d_Digits_digit_1 : decode b_Digits_digit 1 = .ok (.ifCond .lt 21, 3) := by decide +kernel
theorem d_Digits_digit_4 : decode b_Digits_digit 4 = .ok (.iload_n 1, 1) := by decide +kernel
theorem d_Digits_digit_5 : decode b_Digits_digit 5 = .ok (.aload_n 0, 1) := by decide +kernel
theorem d_Digits_digit_6 : decode b_Digits_digit 6 = .ok (.getfield 9, 3) := by decide +kernel
theorem d_Digits_digit_9 : decode b_Digits_digit 9 = .ok (.arraylength, 1) := by decide +kernel
theorem d_Digits_digit_10 : decode b_Digits_digit 10 = .ok (.if_icmp .ge 12, 3) := by decide +kernel
theorem d_Digits_digit_13 : decode b_Digits_digit 13 = .ok (.aload_n 0, 1) := by decide +kernel
theorem d_Digits_digit_14 : decode b_Digits_digit 14 = .ok (.getfield 9, 3) := by decide +kernel
theorem d_Digits_digit_17 : decode b_Digits_digit 17 = .ok (.iload_n 1, 1) := by decide +kernel
theorem d_Digits_digit_18 : decode b_Digits_digit 18 = .ok (.iaload, 1) := by decide +kernel
theorem d_Digits_digit_19 : decode b_Digits_digit 19 = .ok (.goto 4, 3) := by decide +kernel
theorem d_Digits_digit_22 : decode b_Digits_digit 22 = .ok (.iconst 0, 1) := by decide +kernel
theorem d_Digits_digit_23 : decode b_Digits_digit 23 = .ok (.ireturn, 1) := by decide +kernel
abbrev b_Digits_clear : ByteArray := prog_2_method_4_code
abbrev y_Digits_clear : MethodName := ⟨"EditMoves$Digits", "clear", "()V"⟩
def ws_Digits_clear : List Cond := .code y_Digits_clear b_Digits_clear 2 none :: wAll
theorem d_Digits_clear_0 : decode b_Digits_clear 0 = .ok (.iconst 0, 1) := by decide +kernel
theorem d_Digits_clear_1 : decode b_Digits_clear 1 = .ok (.istore_n 1, 1) := by decide +kernel
theorem d_Digits_clear_2 : decode b_Digits_clear 2 = .ok (.iload_n 1, 1) := by decide +kernel
theorem d_Digits_clear_3 : decode b_Digits_clear 3 = .ok (.aload_n 0, 1) := by decide +kernel
theorem d_Digits_clear_4 : decode b_Digits_clear 4 = .ok (.getfield 9, 3) := by decide +kernel
theorem d_Digits_clear_7 : decode b_Digits_clear 7 = .ok (.arraylength, 1) := by decide +kernel
theorem d_Digits_clear_8 : decode b_Digits_clear 8 = .ok (.if_icmp .ge 16, 3) := by decide +kernel
theorem d_Digits_clear_11 : decode b_Digits_clear 11 = .ok (.aload_n 0, 1) := by decide +kernel
theorem d_Digits_clear_12 : decode b_Digits_clear 12 = .ok (.getfield 9, 3) := by decide +kernel
theorem d_Digits_clear_15 : decode b_Digits_clear 15 = .ok (.iload_n 1, 1) := by decide +kernel
theorem d_Digits_clear_16 : decode b_Digits_clear 16 = .ok (.iconst 0, 1) := by decide +kernel
theorem d_Digits_clear_17 : decode b_Digits_clear 17 = .ok (.iastore, 1) := by decide +kernel
theorem d_Digits_clear_18 : decode b_Digits_clear 18 = .ok (.iinc 1 1, 3) := by decide +kernel
theorem d_Digits_clear_21 : decode b_Digits_clear 21 = .ok (.goto (-19), 3) := by decide +kernel
theorem d_Digits_clear_24 : decode b_Digits_clear 24 = .ok (.aload_n 0, 1) := by decide +kernel
theorem d_Digits_clear_25 : decode b_Digits_clear 25 = .ok (.iconst 0, 1) := by decide +kernel
theorem d_Digits_clear_26 : decode b_Digits_clear 26 = .ok (.putfield 29, 3) := by decide +kernel
theorem d_Digits_clear_29 : decode b_Digits_clear 29 = .ok (.aload_n 0, 1) := by decide +kernel
theorem d_Digits_clear_30 : decode b_Digits_clear 30 = .ok (.iconst 0, 1) := by decide +kernel
theorem d_Digits_clear_31 : decode b_Digits_clear 31 = .ok (.putfield 33, 3) := by decide +kernel
theorem d_Digits_clear_34 : decode b_Digits_clear 34 = .ok (.aload_n 0, 1) := by decide +kernel
theorem d_Digits_clear_35 : decode b_Digits_clear 35 = .ok (.iconst 1, 1) := by decide +kernel
theorem d_Digits_clear_36 : decode b_Digits_clear 36 = .ok (.putfield 22, 3) := by decide +kernel
theorem d_Digits_clear_39 : decode b_Digits_clear 39 = .ok (.aload_n 0, 1) := by decide +kernel
theorem d_Digits_clear_40 : decode b_Digits_clear 40 = .ok (.iconst 0, 1) := by decide +kernel
theorem d_Digits_clear_41 : decode b_Digits_clear 41 = .ok (.putfield 26, 3) := by decide +kernel
theorem d_Digits_clear_44 : decode b_Digits_clear 44 = .ok (.return_, 1) := by decide +kernel
abbrev b_Digits_bringOne : ByteArray := prog_2_method_5_code
abbrev y_Digits_bringOne : MethodName := ⟨"EditMoves$Digits", "bringOne", "(III)V"⟩
def ws_Digits_bringOne : List Cond := .code y_Digits_bringOne b_Digits_bringOne 4 none :: wAll
theorem d_Digits_bringOne_0 : decode b_Digits_bringOne 0 = .ok (.iload_n 2, 1) := by decide +kernel
theorem d_Digits_bringOne_1 : decode b_Digits_bringOne 1 = .ok (.ifCond .lt 30, 3) := by decide +kernel
theorem d_Digits_bringOne_4 : decode b_Digits_bringOne 4 = .ok (.iload_n 2, 1) := by decide +kernel
theorem d_Digits_bringOne_5 : decode b_Digits_bringOne 5 = .ok (.iload_n 3, 1) := by decide +kernel
theorem d_Digits_bringOne_6 : decode b_Digits_bringOne 6 = .ok (.if_icmp .ge 25, 3) := by decide +kernel
theorem d_Digits_bringOne_9 : decode b_Digits_bringOne 9 = .ok (.iload_n 2, 1) := by decide +kernel
theorem d_Digits_bringOne_10 : decode b_Digits_bringOne 10 = .ok (.aload_n 0, 1) := by decide +kernel
theorem d_Digits_bringOne_11 : decode b_Digits_bringOne 11 = .ok (.getfield 9, 3) := by decide +kernel
theorem d_Digits_bringOne_14 : decode b_Digits_bringOne 14 = .ok (.arraylength, 1) := by decide +kernel
theorem d_Digits_bringOne_15 : decode b_Digits_bringOne 15 = .ok (.if_icmp .ge 16, 3) := by decide +kernel
theorem d_Digits_bringOne_18 : decode b_Digits_bringOne 18 = .ok (.aload_n 0, 1) := by decide +kernel
theorem d_Digits_bringOne_19 : decode b_Digits_bringOne 19 = .ok (.getfield 9, 3) := by decide +kernel
theorem d_Digits_bringOne_22 : decode b_Digits_bringOne 22 = .ok (.iload_n 2, 1) := by decide +kernel
theorem d_Digits_bringOne_23 : decode b_Digits_bringOne 23 = .ok (.iload_n 1, 1) := by decide +kernel
theorem d_Digits_bringOne_24 : decode b_Digits_bringOne 24 = .ok (.iastore, 1) := by decide +kernel
theorem d_Digits_bringOne_25 : decode b_Digits_bringOne 25 = .ok (.aload_n 0, 1) := by decide +kernel
theorem d_Digits_bringOne_26 : decode b_Digits_bringOne 26 = .ok (.iconst 0, 1) := by decide +kernel
theorem d_Digits_bringOne_27 : decode b_Digits_bringOne 27 = .ok (.putfield 22, 3) := by decide +kernel
theorem d_Digits_bringOne_30 : decode b_Digits_bringOne 30 = .ok (.return_, 1) := by decide +kernel
theorem d_Digits_bringOne_31 : decode b_Digits_bringOne 31 = .ok (.aload_n 0, 1) := by decide +kernel
theorem d_Digits_bringOne_32 : decode b_Digits_bringOne 32 = .ok (.dup, 1) := by decide +kernel
theorem d_Digits_bringOne_33 : decode b_Digits_bringOne 33 = .ok (.getfield 29, 3) := by decide +kernel
theorem d_Digits_bringOne_36 : decode b_Digits_bringOne 36 = .ok (.iconst 1, 1) := by decide +kernel
theorem d_Digits_bringOne_37 : decode b_Digits_bringOne 37 = .ok (.iadd, 1) := by decide +kernel
theorem d_Digits_bringOne_38 : decode b_Digits_bringOne 38 = .ok (.putfield 29, 3) := by decide +kernel
theorem d_Digits_bringOne_41 : decode b_Digits_bringOne 41 = .ok (.iload_n 2, 1) := by decide +kernel
theorem d_Digits_bringOne_42 : decode b_Digits_bringOne 42 = .ok (.ifCond .ge 8, 3) := by decide +kernel
theorem d_Digits_bringOne_45 : decode b_Digits_bringOne 45 = .ok (.aload_n 0, 1) := by decide +kernel
theorem d_Digits_bringOne_46 : decode b_Digits_bringOne 46 = .ok (.iconst 1, 1) := by decide +kernel
theorem d_Digits_bringOne_47 : decode b_Digits_bringOne 47 = .ok (.putfield 33, 3) := by decide +kernel
theorem d_Digits_bringOne_50 : decode b_Digits_bringOne 50 = .ok (.return_, 1) := by decide +kernel
abbrev b_Digits_bring : ByteArray := prog_2_method_2_code
abbrev y_Digits_bring : MethodName := ⟨"EditMoves$Digits", "bring", "(JIII)V"⟩
def ws_Digits_bring : List Cond := .code y_Digits_bring b_Digits_bring 10 none :: wAll
theorem d_Digits_bring_0 : decode b_Digits_bring 0 = .ok (.aload_n 0, 1) := by decide +kernel
theorem d_Digits_bring_1 : decode b_Digits_bring 1 = .ok (.invokevirtual 13, 3) := by decide +kernel
theorem d_Digits_bring_4 : decode b_Digits_bring 4 = .ok (.lload_n 1, 1) := by decide +kernel
theorem d_Digits_bring_5 : decode b_Digits_bring 5 = .ok (.lstore 6, 2) := by decide +kernel
theorem d_Digits_bring_7 : decode b_Digits_bring 7 = .ok (.iconst 0, 1) := by decide +kernel
theorem d_Digits_bring_8 : decode b_Digits_bring 8 = .ok (.istore 8, 2) := by decide +kernel
theorem d_Digits_bring_10 : decode b_Digits_bring 10 = .ok (.iload 8, 2) := by decide +kernel
theorem d_Digits_bring_12 : decode b_Digits_bring 12 = .ok (.bipush 19, 2) := by decide +kernel
theorem d_Digits_bring_14 : decode b_Digits_bring 14 = .ok (.if_icmp .ge 62, 3) := by decide +kernel
theorem d_Digits_bring_17 : decode b_Digits_bring 17 = .ok (.lload 6, 2) := by decide +kernel
theorem d_Digits_bring_19 : decode b_Digits_bring 19 = .ok (.ldc2_w 16, 3) := by decide +kernel
theorem d_Digits_bring_22 : decode b_Digits_bring 22 = .ok (.lrem, 1) := by decide +kernel
theorem d_Digits_bring_23 : decode b_Digits_bring 23 = .ok (.l2i, 1) := by decide +kernel
theorem d_Digits_bring_24 : decode b_Digits_bring 24 = .ok (.istore 9, 2) := by decide +kernel
theorem d_Digits_bring_26 : decode b_Digits_bring 26 = .ok (.lload 6, 2) := by decide +kernel
theorem d_Digits_bring_28 : decode b_Digits_bring 28 = .ok (.ldc2_w 16, 3) := by decide +kernel
theorem d_Digits_bring_31 : decode b_Digits_bring 31 = .ok (.ldiv, 1) := by decide +kernel
theorem d_Digits_bring_32 : decode b_Digits_bring 32 = .ok (.lstore 6, 2) := by decide +kernel
theorem d_Digits_bring_34 : decode b_Digits_bring 34 = .ok (.iload 9, 2) := by decide +kernel
theorem d_Digits_bring_36 : decode b_Digits_bring 36 = .ok (.ifCond .eq 34, 3) := by decide +kernel
theorem d_Digits_bring_39 : decode b_Digits_bring 39 = .ok (.aload_n 0, 1) := by decide +kernel
theorem d_Digits_bring_40 : decode b_Digits_bring 40 = .ok (.iload 9, 2) := by decide +kernel
theorem d_Digits_bring_42 : decode b_Digits_bring 42 = .ok (.ifCond .ge 9, 3) := by decide +kernel
theorem d_Digits_bring_45 : decode b_Digits_bring 45 = .ok (.iload 9, 2) := by decide +kernel
theorem d_Digits_bring_47 : decode b_Digits_bring 47 = .ok (.ineg, 1) := by decide +kernel
theorem d_Digits_bring_48 : decode b_Digits_bring 48 = .ok (.goto 5, 3) := by decide +kernel
theorem d_Digits_bring_51 : decode b_Digits_bring 51 = .ok (.iload 9, 2) := by decide +kernel
theorem d_Digits_bring_53 : decode b_Digits_bring 53 = .ok (.iload 4, 2) := by decide +kernel
theorem d_Digits_bring_55 : decode b_Digits_bring 55 = .ok (.iconst 1, 1) := by decide +kernel
theorem d_Digits_bring_56 : decode b_Digits_bring 56 = .ok (.isub, 1) := by decide +kernel
theorem d_Digits_bring_57 : decode b_Digits_bring 57 = .ok (.iload 8, 2) := by decide +kernel
theorem d_Digits_bring_59 : decode b_Digits_bring 59 = .ok (.iload_n 3, 1) := by decide +kernel
theorem d_Digits_bring_60 : decode b_Digits_bring 60 = .ok (.isub, 1) := by decide +kernel
theorem d_Digits_bring_61 : decode b_Digits_bring 61 = .ok (.isub, 1) := by decide +kernel
theorem d_Digits_bring_62 : decode b_Digits_bring 62 = .ok (.iload 4, 2) := by decide +kernel
theorem d_Digits_bring_64 : decode b_Digits_bring 64 = .ok (.iload 5, 2) := by decide +kernel
theorem d_Digits_bring_66 : decode b_Digits_bring 66 = .ok (.iadd, 1) := by decide +kernel
theorem d_Digits_bring_67 : decode b_Digits_bring 67 = .ok (.invokevirtual 18, 3) := by decide +kernel
theorem d_Digits_bring_70 : decode b_Digits_bring 70 = .ok (.iinc 8 1, 3) := by decide +kernel
theorem d_Digits_bring_73 : decode b_Digits_bring 73 = .ok (.goto (-63), 3) := by decide +kernel
theorem d_Digits_bring_76 : decode b_Digits_bring 76 = .ok (.aload_n 0, 1) := by decide +kernel
theorem d_Digits_bring_77 : decode b_Digits_bring 77 = .ok (.lload_n 1, 1) := by decide +kernel
theorem d_Digits_bring_78 : decode b_Digits_bring 78 = .ok (.lconst 0, 1) := by decide +kernel
theorem d_Digits_bring_79 : decode b_Digits_bring 79 = .ok (.lcmp, 1) := by decide +kernel
theorem d_Digits_bring_80 : decode b_Digits_bring 80 = .ok (.ifCond .ge 14, 3) := by decide +kernel
theorem d_Digits_bring_83 : decode b_Digits_bring 83 = .ok (.aload_n 0, 1) := by decide +kernel
theorem d_Digits_bring_84 : decode b_Digits_bring 84 = .ok (.getfield 22, 3) := by decide +kernel
theorem d_Digits_bring_87 : decode b_Digits_bring 87 = .ok (.ifCond .ne 7, 3) := by decide +kernel
theorem d_Digits_bring_90 : decode b_Digits_bring 90 = .ok (.iconst 1, 1) := by decide +kernel
theorem d_Digits_bring_91 : decode b_Digits_bring 91 = .ok (.goto 4, 3) := by decide +kernel
theorem d_Digits_bring_94 : decode b_Digits_bring 94 = .ok (.iconst 0, 1) := by decide +kernel
theorem d_Digits_bring_95 : decode b_Digits_bring 95 = .ok (.putfield 26, 3) := by decide +kernel
theorem d_Digits_bring_98 : decode b_Digits_bring 98 = .ok (.return_, 1) := by decide +kernel
abbrev b_Result_drop : ByteArray := prog_6_method_2_code
abbrev y_Result_drop : MethodName := ⟨"EditMoves$Result", "drop", "()V"⟩
def ws_Result_drop : List Cond := .code y_Result_drop b_Result_drop 1 none :: wAll
theorem d_Result_drop_0 : decode b_Result_drop 0 = .ok (.aload_n 0, 1) := by decide +kernel
theorem d_Result_drop_1 : decode b_Result_drop 1 = .ok (.iconst 0, 1) := by decide +kernel
theorem d_Result_drop_2 : decode b_Result_drop 2 = .ok (.putfield 21, 3) := by decide +kernel
theorem d_Result_drop_5 : decode b_Result_drop 5 = .ok (.aload_n 0, 1) := by decide +kernel
theorem d_Result_drop_6 : decode b_Result_drop 6 = .ok (.iconst 0, 1) := by decide +kernel
theorem d_Result_drop_7 : decode b_Result_drop 7 = .ok (.putfield 25, 3) := by decide +kernel
theorem d_Result_drop_10 : decode b_Result_drop 10 = .ok (.aload_n 0, 1) := by decide +kernel
theorem d_Result_drop_11 : decode b_Result_drop 11 = .ok (.iconst 0, 1) := by decide +kernel
theorem d_Result_drop_12 : decode b_Result_drop 12 = .ok (.putfield 28, 3) := by decide +kernel
theorem d_Result_drop_15 : decode b_Result_drop 15 = .ok (.return_, 1) := by decide +kernel
abbrev b_Result_put : ByteArray := prog_6_method_3_code
abbrev y_Result_put : MethodName := ⟨"EditMoves$Result", "put", "(IZ)V"⟩
def ws_Result_put : List Cond := .code y_Result_put b_Result_put 3 none :: wAll
theorem d_Result_put_0 : decode b_Result_put 0 = .ok (.aload_n 0, 1) := by decide +kernel
theorem d_Result_put_1 : decode b_Result_put 1 = .ok (.getfield 25, 3) := by decide +kernel
theorem d_Result_put_4 : decode b_Result_put 4 = .ok (.ifCond .lt 57, 3) := by decide +kernel
theorem d_Result_put_7 : decode b_Result_put 7 = .ok (.aload_n 0, 1) := by decide +kernel
theorem d_Result_put_8 : decode b_Result_put 8 = .ok (.getfield 25, 3) := by decide +kernel
theorem d_Result_put_11 : decode b_Result_put 11 = .ok (.aload_n 0, 1) := by decide +kernel
theorem d_Result_put_12 : decode b_Result_put 12 = .ok (.getfield 11, 3) := by decide +kernel
theorem d_Result_put_15 : decode b_Result_put 15 = .ok (.arraylength, 1) := by decide +kernel
theorem d_Result_put_16 : decode b_Result_put 16 = .ok (.if_icmp .ge 45, 3) := by decide +kernel
theorem d_Result_put_19 : decode b_Result_put 19 = .ok (.aload_n 0, 1) := by decide +kernel
theorem d_Result_put_20 : decode b_Result_put 20 = .ok (.getfield 25, 3) := by decide +kernel
theorem d_Result_put_23 : decode b_Result_put 23 = .ok (.aload_n 0, 1) := by decide +kernel
theorem d_Result_put_24 : decode b_Result_put 24 = .ok (.getfield 15, 3) := by decide +kernel
theorem d_Result_put_27 : decode b_Result_put 27 = .ok (.arraylength, 1) := by decide +kernel
theorem d_Result_put_28 : decode b_Result_put 28 = .ok (.if_icmp .ge 33, 3) := by decide +kernel
theorem d_Result_put_31 : decode b_Result_put 31 = .ok (.aload_n 0, 1) := by decide +kernel
theorem d_Result_put_32 : decode b_Result_put 32 = .ok (.getfield 11, 3) := by decide +kernel
theorem d_Result_put_35 : decode b_Result_put 35 = .ok (.aload_n 0, 1) := by decide +kernel
theorem d_Result_put_36 : decode b_Result_put 36 = .ok (.getfield 25, 3) := by decide +kernel
theorem d_Result_put_39 : decode b_Result_put 39 = .ok (.iload_n 1, 1) := by decide +kernel
theorem d_Result_put_40 : decode b_Result_put 40 = .ok (.iastore, 1) := by decide +kernel
theorem d_Result_put_41 : decode b_Result_put 41 = .ok (.aload_n 0, 1) := by decide +kernel
theorem d_Result_put_42 : decode b_Result_put 42 = .ok (.getfield 15, 3) := by decide +kernel
theorem d_Result_put_45 : decode b_Result_put 45 = .ok (.aload_n 0, 1) := by decide +kernel
theorem d_Result_put_46 : decode b_Result_put 46 = .ok (.getfield 25, 3) := by decide +kernel
theorem d_Result_put_49 : decode b_Result_put 49 = .ok (.iload_n 2, 1) := by decide +kernel
theorem d_Result_put_50 : decode b_Result_put 50 = .ok (.bastore, 1) := by decide +kernel
theorem d_Result_put_51 : decode b_Result_put 51 = .ok (.aload_n 0, 1) := by decide +kernel
theorem d_Result_put_52 : decode b_Result_put 52 = .ok (.dup, 1) := by decide +kernel
theorem d_Result_put_53 : decode b_Result_put 53 = .ok (.getfield 25, 3) := by decide +kernel
theorem d_Result_put_56 : decode b_Result_put 56 = .ok (.iconst 1, 1) := by decide +kernel
theorem d_Result_put_57 : decode b_Result_put 57 = .ok (.iadd, 1) := by decide +kernel
theorem d_Result_put_58 : decode b_Result_put 58 = .ok (.putfield 25, 3) := by decide +kernel
theorem d_Result_put_61 : decode b_Result_put 61 = .ok (.return_, 1) := by decide +kernel
abbrev b_Result_hide : ByteArray := prog_6_method_4_code
abbrev y_Result_hide : MethodName := ⟨"EditMoves$Result", "hide", "(I)V"⟩
def ws_Result_hide : List Cond := .code y_Result_hide b_Result_hide 2 none :: wAll
theorem d_Result_hide_0 : decode b_Result_hide 0 = .ok (.aload_n 0, 1) := by decide +kernel
theorem d_Result_hide_1 : decode b_Result_hide 1 = .ok (.iload_n 1, 1) := by decide +kernel
theorem d_Result_hide_2 : decode b_Result_hide 2 = .ok (.iconst 0, 1) := by decide +kernel
theorem d_Result_hide_3 : decode b_Result_hide 3 = .ok (.invokevirtual 31, 3) := by decide +kernel
theorem d_Result_hide_6 : decode b_Result_hide 6 = .ok (.aload_n 0, 1) := by decide +kernel
theorem d_Result_hide_7 : decode b_Result_hide 7 = .ok (.dup, 1) := by decide +kernel
theorem d_Result_hide_8 : decode b_Result_hide 8 = .ok (.getfield 28, 3) := by decide +kernel
theorem d_Result_hide_11 : decode b_Result_hide 11 = .ok (.iconst 1, 1) := by decide +kernel
theorem d_Result_hide_12 : decode b_Result_hide 12 = .ok (.iadd, 1) := by decide +kernel
theorem d_Result_hide_13 : decode b_Result_hide 13 = .ok (.putfield 28, 3) := by decide +kernel
theorem d_Result_hide_16 : decode b_Result_hide 16 = .ok (.return_, 1) := by decide +kernel
abbrev b_Result_replaceLast : ByteArray := prog_6_method_5_code
abbrev y_Result_replaceLast : MethodName := ⟨"EditMoves$Result", "replaceLast", "(I)V"⟩
def ws_Result_replaceLast : List Cond := .code y_Result_replaceLast b_Result_replaceLast 2 none :: wAll
theorem d_Result_replaceLast_0 : decode b_Result_replaceLast 0 = .ok (.aload_n 0, 1) := by decide +kernel
theorem d_Result_replaceLast_1 : decode b_Result_replaceLast 1 = .ok (.getfield 25, 3) := by decide +kernel
theorem d_Result_replaceLast_4 : decode b_Result_replaceLast 4 = .ok (.ifCond .le 27, 3) := by decide +kernel
theorem d_Result_replaceLast_7 : decode b_Result_replaceLast 7 = .ok (.aload_n 0, 1) := by decide +kernel
theorem d_Result_replaceLast_8 : decode b_Result_replaceLast 8 = .ok (.getfield 25, 3) := by decide +kernel
theorem d_Result_replaceLast_11 : decode b_Result_replaceLast 11 = .ok (.aload_n 0, 1) := by decide +kernel
theorem d_Result_replaceLast_12 : decode b_Result_replaceLast 12 = .ok (.getfield 11, 3) := by decide +kernel
theorem d_Result_replaceLast_15 : decode b_Result_replaceLast 15 = .ok (.arraylength, 1) := by decide +kernel
theorem d_Result_replaceLast_16 : decode b_Result_replaceLast 16 = .ok (.if_icmp .gt 15, 3) := by decide +kernel
theorem d_Result_replaceLast_19 : decode b_Result_replaceLast 19 = .ok (.aload_n 0, 1) := by decide +kernel
theorem d_Result_replaceLast_20 : decode b_Result_replaceLast 20 = .ok (.getfield 11, 3) := by decide +kernel
theorem d_Result_replaceLast_23 : decode b_Result_replaceLast 23 = .ok (.aload_n 0, 1) := by decide +kernel
theorem d_Result_replaceLast_24 : decode b_Result_replaceLast 24 = .ok (.getfield 25, 3) := by decide +kernel
theorem d_Result_replaceLast_27 : decode b_Result_replaceLast 27 = .ok (.iconst 1, 1) := by decide +kernel
theorem d_Result_replaceLast_28 : decode b_Result_replaceLast 28 = .ok (.isub, 1) := by decide +kernel
theorem d_Result_replaceLast_29 : decode b_Result_replaceLast 29 = .ok (.iload_n 1, 1) := by decide +kernel
theorem d_Result_replaceLast_30 : decode b_Result_replaceLast 30 = .ok (.iastore, 1) := by decide +kernel
theorem d_Result_replaceLast_31 : decode b_Result_replaceLast 31 = .ok (.return_, 1) := by decide +kernel
abbrev b_Result_character : ByteArray := prog_6_method_6_code
abbrev y_Result_character : MethodName := ⟨"EditMoves$Result", "character", "(I)I"⟩
def ws_Result_character : List Cond := .code y_Result_character b_Result_character 2 (some .int) :: wAll
theorem d_Result_character_0 : decode b_Result_character 0 = .ok (.iload_n 1, 1) := by decide +kernel
theorem d_Result_character_1 : decode b_Result_character 1 = .ok (.ifCond .lt 29, 3) := by decide +kernel
theorem d_Result_character_4 : decode b_Result_character 4 = .ok (.iload_n 1, 1) := by decide +kernel
theorem d_Result_character_5 : decode b_Result_character 5 = .ok (.aload_n 0, 1) := by decide +kernel
theorem d_Result_character_6 : decode b_Result_character 6 = .ok (.getfield 25, 3) := by decide +kernel
theorem d_Result_character_9 : decode b_Result_character 9 = .ok (.if_icmp .ge 21, 3) := by decide +kernel
theorem d_Result_character_12 : decode b_Result_character 12 = .ok (.iload_n 1, 1) := by decide +kernel
theorem d_Result_character_13 : decode b_Result_character 13 = .ok (.aload_n 0, 1) := by decide +kernel
theorem d_Result_character_14 : decode b_Result_character 14 = .ok (.getfield 11, 3) := by decide +kernel
theorem d_Result_character_17 : decode b_Result_character 17 = .ok (.arraylength, 1) := by decide +kernel
theorem d_Result_character_18 : decode b_Result_character 18 = .ok (.if_icmp .ge 12, 3) := by decide +kernel
theorem d_Result_character_21 : decode b_Result_character 21 = .ok (.aload_n 0, 1) := by decide +kernel
theorem d_Result_character_22 : decode b_Result_character 22 = .ok (.getfield 11, 3) := by decide +kernel
theorem d_Result_character_25 : decode b_Result_character 25 = .ok (.iload_n 1, 1) := by decide +kernel
theorem d_Result_character_26 : decode b_Result_character 26 = .ok (.iaload, 1) := by decide +kernel
theorem d_Result_character_27 : decode b_Result_character 27 = .ok (.goto 4, 3) := by decide +kernel
theorem d_Result_character_30 : decode b_Result_character 30 = .ok (.iconst (-1), 1) := by decide +kernel
theorem d_Result_character_31 : decode b_Result_character 31 = .ok (.ireturn, 1) := by decide +kernel
abbrev b_Result_wholeNumber : ByteArray := prog_6_method_7_code
abbrev y_Result_wholeNumber : MethodName := ⟨"EditMoves$Result", "wholeNumber", "()J"⟩
def ws_Result_wholeNumber : List Cond := .code y_Result_wholeNumber b_Result_wholeNumber 6 (some .long) :: wAll
theorem d_Result_wholeNumber_0 : decode b_Result_wholeNumber 0 = .ok (.lconst 0, 1) := by decide +kernel
theorem d_Result_wholeNumber_1 : decode b_Result_wholeNumber 1 = .ok (.lstore_n 1, 1) := by decide +kernel
theorem d_Result_wholeNumber_2 : decode b_Result_wholeNumber 2 = .ok (.iconst 0, 1) := by decide +kernel
theorem d_Result_wholeNumber_3 : decode b_Result_wholeNumber 3 = .ok (.istore_n 3, 1) := by decide +kernel
theorem d_Result_wholeNumber_4 : decode b_Result_wholeNumber 4 = .ok (.iconst 0, 1) := by decide +kernel
theorem d_Result_wholeNumber_5 : decode b_Result_wholeNumber 5 = .ok (.istore 4, 2) := by decide +kernel
theorem d_Result_wholeNumber_7 : decode b_Result_wholeNumber 7 = .ok (.iload 4, 2) := by decide +kernel
theorem d_Result_wholeNumber_9 : decode b_Result_wholeNumber 9 = .ok (.aload_n 0, 1) := by decide +kernel
theorem d_Result_wholeNumber_10 : decode b_Result_wholeNumber 10 = .ok (.getfield 25, 3) := by decide +kernel
theorem d_Result_wholeNumber_13 : decode b_Result_wholeNumber 13 = .ok (.if_icmp .ge 92, 3) := by decide +kernel
theorem d_Result_wholeNumber_16 : decode b_Result_wholeNumber 16 = .ok (.iload 4, 2) := by decide +kernel
theorem d_Result_wholeNumber_18 : decode b_Result_wholeNumber 18 = .ok (.aload_n 0, 1) := by decide +kernel
theorem d_Result_wholeNumber_19 : decode b_Result_wholeNumber 19 = .ok (.getfield 11, 3) := by decide +kernel
theorem d_Result_wholeNumber_22 : decode b_Result_wholeNumber 22 = .ok (.arraylength, 1) := by decide +kernel
theorem d_Result_wholeNumber_23 : decode b_Result_wholeNumber 23 = .ok (.if_icmp .ge 82, 3) := by decide +kernel
theorem d_Result_wholeNumber_26 : decode b_Result_wholeNumber 26 = .ok (.iload 4, 2) := by decide +kernel
theorem d_Result_wholeNumber_28 : decode b_Result_wholeNumber 28 = .ok (.aload_n 0, 1) := by decide +kernel
theorem d_Result_wholeNumber_29 : decode b_Result_wholeNumber 29 = .ok (.getfield 15, 3) := by decide +kernel
theorem d_Result_wholeNumber_32 : decode b_Result_wholeNumber 32 = .ok (.arraylength, 1) := by decide +kernel
theorem d_Result_wholeNumber_33 : decode b_Result_wholeNumber 33 = .ok (.if_icmp .ge 72, 3) := by decide +kernel
theorem d_Result_wholeNumber_36 : decode b_Result_wholeNumber 36 = .ok (.aload_n 0, 1) := by decide +kernel
theorem d_Result_wholeNumber_37 : decode b_Result_wholeNumber 37 = .ok (.getfield 11, 3) := by decide +kernel
theorem d_Result_wholeNumber_40 : decode b_Result_wholeNumber 40 = .ok (.iload 4, 2) := by decide +kernel
theorem d_Result_wholeNumber_42 : decode b_Result_wholeNumber 42 = .ok (.iaload, 1) := by decide +kernel
theorem d_Result_wholeNumber_43 : decode b_Result_wholeNumber 43 = .ok (.istore 5, 2) := by decide +kernel
theorem d_Result_wholeNumber_45 : decode b_Result_wholeNumber 45 = .ok (.aload_n 0, 1) := by decide +kernel
theorem d_Result_wholeNumber_46 : decode b_Result_wholeNumber 46 = .ok (.getfield 15, 3) := by decide +kernel
theorem d_Result_wholeNumber_49 : decode b_Result_wholeNumber 49 = .ok (.iload 4, 2) := by decide +kernel
theorem d_Result_wholeNumber_51 : decode b_Result_wholeNumber 51 = .ok (.baload, 1) := by decide +kernel
theorem d_Result_wholeNumber_52 : decode b_Result_wholeNumber 52 = .ok (.ifCond .eq 16, 3) := by decide +kernel
theorem d_Result_wholeNumber_55 : decode b_Result_wholeNumber 55 = .ok (.lload_n 1, 1) := by decide +kernel
theorem d_Result_wholeNumber_56 : decode b_Result_wholeNumber 56 = .ok (.ldc2_w 35, 3) := by decide +kernel
theorem d_Result_wholeNumber_59 : decode b_Result_wholeNumber 59 = .ok (.lmul, 1) := by decide +kernel
theorem d_Result_wholeNumber_60 : decode b_Result_wholeNumber 60 = .ok (.iload 5, 2) := by decide +kernel
theorem d_Result_wholeNumber_62 : decode b_Result_wholeNumber 62 = .ok (.bipush 48, 2) := by decide +kernel
theorem d_Result_wholeNumber_64 : decode b_Result_wholeNumber 64 = .ok (.isub, 1) := by decide +kernel
theorem d_Result_wholeNumber_65 : decode b_Result_wholeNumber 65 = .ok (.i2l, 1) := by decide +kernel
theorem d_Result_wholeNumber_66 : decode b_Result_wholeNumber 66 = .ok (.ladd, 1) := by decide +kernel
theorem d_Result_wholeNumber_67 : decode b_Result_wholeNumber 67 = .ok (.lstore_n 1, 1) := by decide +kernel
theorem d_Result_wholeNumber_68 : decode b_Result_wholeNumber 68 = .ok (.iload_n 3, 1) := by decide +kernel
theorem d_Result_wholeNumber_69 : decode b_Result_wholeNumber 69 = .ok (.ifCond .ne 24, 3) := by decide +kernel
theorem d_Result_wholeNumber_72 : decode b_Result_wholeNumber 72 = .ok (.iload 5, 2) := by decide +kernel
theorem d_Result_wholeNumber_74 : decode b_Result_wholeNumber 74 = .ok (.bipush 45, 2) := by decide +kernel
theorem d_Result_wholeNumber_76 : decode b_Result_wholeNumber 76 = .ok (.if_icmp .eq 17, 3) := by decide +kernel
theorem d_Result_wholeNumber_79 : decode b_Result_wholeNumber 79 = .ok (.iload 5, 2) := by decide +kernel
theorem d_Result_wholeNumber_81 : decode b_Result_wholeNumber 81 = .ok (.bipush 67, 2) := by decide +kernel
theorem d_Result_wholeNumber_83 : decode b_Result_wholeNumber 83 = .ok (.if_icmp .eq 10, 3) := by decide +kernel
theorem d_Result_wholeNumber_86 : decode b_Result_wholeNumber 86 = .ok (.iload 5, 2) := by decide +kernel
theorem d_Result_wholeNumber_88 : decode b_Result_wholeNumber 88 = .ok (.bipush 68, 2) := by decide +kernel
theorem d_Result_wholeNumber_90 : decode b_Result_wholeNumber 90 = .ok (.if_icmp .ne 7, 3) := by decide +kernel
theorem d_Result_wholeNumber_93 : decode b_Result_wholeNumber 93 = .ok (.iconst 1, 1) := by decide +kernel
theorem d_Result_wholeNumber_94 : decode b_Result_wholeNumber 94 = .ok (.goto 4, 3) := by decide +kernel
theorem d_Result_wholeNumber_97 : decode b_Result_wholeNumber 97 = .ok (.iconst 0, 1) := by decide +kernel
theorem d_Result_wholeNumber_98 : decode b_Result_wholeNumber 98 = .ok (.istore_n 3, 1) := by decide +kernel
theorem d_Result_wholeNumber_99 : decode b_Result_wholeNumber 99 = .ok (.iinc 4 1, 3) := by decide +kernel
theorem d_Result_wholeNumber_102 : decode b_Result_wholeNumber 102 = .ok (.goto (-95), 3) := by decide +kernel
theorem d_Result_wholeNumber_105 : decode b_Result_wholeNumber 105 = .ok (.iload_n 3, 1) := by decide +kernel
theorem d_Result_wholeNumber_106 : decode b_Result_wholeNumber 106 = .ok (.ifCond .eq 8, 3) := by decide +kernel
theorem d_Result_wholeNumber_109 : decode b_Result_wholeNumber 109 = .ok (.lload_n 1, 1) := by decide +kernel
theorem d_Result_wholeNumber_110 : decode b_Result_wholeNumber 110 = .ok (.lneg, 1) := by decide +kernel
theorem d_Result_wholeNumber_111 : decode b_Result_wholeNumber 111 = .ok (.goto 4, 3) := by decide +kernel
theorem d_Result_wholeNumber_114 : decode b_Result_wholeNumber 114 = .ok (.lload_n 1, 1) := by decide +kernel
theorem d_Result_wholeNumber_115 : decode b_Result_wholeNumber 115 = .ok (.lreturn, 1) := by decide +kernel
abbrev b_Editor_takeDigit : ByteArray := prog_3_method_11_code
abbrev y_Editor_takeDigit : MethodName := ⟨"EditMoves$Editor", "takeDigit", "()I"⟩
def ws_Editor_takeDigit : List Cond := .code y_Editor_takeDigit b_Editor_takeDigit 2 (some .int) :: wAll
theorem d_Editor_takeDigit_0 : decode b_Editor_takeDigit 0 = .ok (.aload_n 0, 1) := by decide +kernel
theorem d_Editor_takeDigit_1 : decode b_Editor_takeDigit 1 = .ok (.getfield 10, 3) := by decide +kernel
theorem d_Editor_takeDigit_4 : decode b_Editor_takeDigit 4 = .ok (.aload_n 0, 1) := by decide +kernel
theorem d_Editor_takeDigit_5 : decode b_Editor_takeDigit 5 = .ok (.getfield 51, 3) := by decide +kernel
theorem d_Editor_takeDigit_8 : decode b_Editor_takeDigit 8 = .ok (.invokevirtual 121, 3) := by decide +kernel
theorem d_Editor_takeDigit_11 : decode b_Editor_takeDigit 11 = .ok (.istore_n 1, 1) := by decide +kernel
theorem d_Editor_takeDigit_12 : decode b_Editor_takeDigit 12 = .ok (.aload_n 0, 1) := by decide +kernel
theorem d_Editor_takeDigit_13 : decode b_Editor_takeDigit 13 = .ok (.dup, 1) := by decide +kernel
theorem d_Editor_takeDigit_14 : decode b_Editor_takeDigit 14 = .ok (.getfield 51, 3) := by decide +kernel
theorem d_Editor_takeDigit_17 : decode b_Editor_takeDigit 17 = .ok (.iconst 1, 1) := by decide +kernel
theorem d_Editor_takeDigit_18 : decode b_Editor_takeDigit 18 = .ok (.iadd, 1) := by decide +kernel
theorem d_Editor_takeDigit_19 : decode b_Editor_takeDigit 19 = .ok (.putfield 51, 3) := by decide +kernel
theorem d_Editor_takeDigit_22 : decode b_Editor_takeDigit 22 = .ok (.iload_n 1, 1) := by decide +kernel
theorem d_Editor_takeDigit_23 : decode b_Editor_takeDigit 23 = .ok (.ireturn, 1) := by decide +kernel
abbrev b_Editor_signShown : ByteArray := prog_3_method_10_code
abbrev y_Editor_signShown : MethodName := ⟨"EditMoves$Editor", "signShown", "(I)I"⟩
def ws_Editor_signShown : List Cond := .code y_Editor_signShown b_Editor_signShown 2 (some .int) :: wAll
theorem d_Editor_signShown_0 : decode b_Editor_signShown 0 = .ok (.iload_n 1, 1) := by decide +kernel
theorem d_Editor_signShown_1 : decode b_Editor_signShown 1 = .ok (.bipush 43, 2) := by decide +kernel
theorem d_Editor_signShown_3 : decode b_Editor_signShown 3 = .ok (.if_icmp .ne 21, 3) := by decide +kernel
theorem d_Editor_signShown_6 : decode b_Editor_signShown 6 = .ok (.aload_n 0, 1) := by decide +kernel
theorem d_Editor_signShown_7 : decode b_Editor_signShown 7 = .ok (.getfield 10, 3) := by decide +kernel
theorem d_Editor_signShown_10 : decode b_Editor_signShown 10 = .ok (.getfield 118, 3) := by decide +kernel
theorem d_Editor_signShown_13 : decode b_Editor_signShown 13 = .ok (.ifCond .eq 8, 3) := by decide +kernel
theorem d_Editor_signShown_16 : decode b_Editor_signShown 16 = .ok (.bipush 45, 2) := by decide +kernel
theorem d_Editor_signShown_18 : decode b_Editor_signShown 18 = .ok (.goto 5, 3) := by decide +kernel
theorem d_Editor_signShown_21 : decode b_Editor_signShown 21 = .ok (.bipush 43, 2) := by decide +kernel
theorem d_Editor_signShown_23 : decode b_Editor_signShown 23 = .ok (.ireturn, 1) := by decide +kernel
theorem d_Editor_signShown_24 : decode b_Editor_signShown 24 = .ok (.iload_n 1, 1) := by decide +kernel
theorem d_Editor_signShown_25 : decode b_Editor_signShown 25 = .ok (.bipush 45, 2) := by decide +kernel
theorem d_Editor_signShown_27 : decode b_Editor_signShown 27 = .ok (.if_icmp .ne 21, 3) := by decide +kernel
theorem d_Editor_signShown_30 : decode b_Editor_signShown 30 = .ok (.aload_n 0, 1) := by decide +kernel
theorem d_Editor_signShown_31 : decode b_Editor_signShown 31 = .ok (.getfield 10, 3) := by decide +kernel
theorem d_Editor_signShown_34 : decode b_Editor_signShown 34 = .ok (.getfield 118, 3) := by decide +kernel
theorem d_Editor_signShown_37 : decode b_Editor_signShown 37 = .ok (.ifCond .eq 8, 3) := by decide +kernel
theorem d_Editor_signShown_40 : decode b_Editor_signShown 40 = .ok (.bipush 45, 2) := by decide +kernel
theorem d_Editor_signShown_42 : decode b_Editor_signShown 42 = .ok (.goto 5, 3) := by decide +kernel
theorem d_Editor_signShown_45 : decode b_Editor_signShown 45 = .ok (.bipush 32, 2) := by decide +kernel
theorem d_Editor_signShown_47 : decode b_Editor_signShown 47 = .ok (.ireturn, 1) := by decide +kernel
theorem d_Editor_signShown_48 : decode b_Editor_signShown 48 = .ok (.iload_n 1, 1) := by decide +kernel
theorem d_Editor_signShown_49 : decode b_Editor_signShown 49 = .ok (.ireturn, 1) := by decide +kernel
abbrev b_Editor_writePair : ByteArray := prog_3_method_9_code
abbrev y_Editor_writePair : MethodName := ⟨"EditMoves$Editor", "writePair", "(II)V"⟩
def ws_Editor_writePair : List Cond := .code y_Editor_writePair b_Editor_writePair 3 none :: wAll
theorem d_Editor_writePair_0 : decode b_Editor_writePair 0 = .ok (.aload_n 0, 1) := by decide +kernel
theorem d_Editor_writePair_1 : decode b_Editor_writePair 1 = .ok (.getfield 19, 3) := by decide +kernel
theorem d_Editor_writePair_4 : decode b_Editor_writePair 4 = .ok (.aload_n 0, 1) := by decide +kernel
theorem d_Editor_writePair_5 : decode b_Editor_writePair 5 = .ok (.getfield 10, 3) := by decide +kernel
theorem d_Editor_writePair_8 : decode b_Editor_writePair 8 = .ok (.getfield 118, 3) := by decide +kernel
theorem d_Editor_writePair_11 : decode b_Editor_writePair 11 = .ok (.ifCond .eq 7, 3) := by decide +kernel
theorem d_Editor_writePair_14 : decode b_Editor_writePair 14 = .ok (.iload_n 1, 1) := by decide +kernel
theorem d_Editor_writePair_15 : decode b_Editor_writePair 15 = .ok (.goto 5, 3) := by decide +kernel
theorem d_Editor_writePair_18 : decode b_Editor_writePair 18 = .ok (.bipush 32, 2) := by decide +kernel
theorem d_Editor_writePair_20 : decode b_Editor_writePair 20 = .ok (.iconst 0, 1) := by decide +kernel
theorem d_Editor_writePair_21 : decode b_Editor_writePair 21 = .ok (.invokevirtual 47, 3) := by decide +kernel
theorem d_Editor_writePair_24 : decode b_Editor_writePair 24 = .ok (.aload_n 0, 1) := by decide +kernel
theorem d_Editor_writePair_25 : decode b_Editor_writePair 25 = .ok (.getfield 19, 3) := by decide +kernel
theorem d_Editor_writePair_28 : decode b_Editor_writePair 28 = .ok (.aload_n 0, 1) := by decide +kernel
theorem d_Editor_writePair_29 : decode b_Editor_writePair 29 = .ok (.getfield 10, 3) := by decide +kernel
theorem d_Editor_writePair_32 : decode b_Editor_writePair 32 = .ok (.getfield 118, 3) := by decide +kernel
theorem d_Editor_writePair_35 : decode b_Editor_writePair 35 = .ok (.ifCond .eq 7, 3) := by decide +kernel
theorem d_Editor_writePair_38 : decode b_Editor_writePair 38 = .ok (.iload_n 2, 1) := by decide +kernel
theorem d_Editor_writePair_39 : decode b_Editor_writePair 39 = .ok (.goto 5, 3) := by decide +kernel
theorem d_Editor_writePair_42 : decode b_Editor_writePair 42 = .ok (.bipush 32, 2) := by decide +kernel
theorem d_Editor_writePair_44 : decode b_Editor_writePair 44 = .ok (.iconst 0, 1) := by decide +kernel
theorem d_Editor_writePair_45 : decode b_Editor_writePair 45 = .ok (.invokevirtual 47, 3) := by decide +kernel
theorem d_Editor_writePair_48 : decode b_Editor_writePair 48 = .ok (.return_, 1) := by decide +kernel
abbrev b_Editor_writePlainSign : ByteArray := prog_3_method_8_code
abbrev y_Editor_writePlainSign : MethodName := ⟨"EditMoves$Editor", "writePlainSign", "(I)V"⟩
def ws_Editor_writePlainSign : List Cond := .code y_Editor_writePlainSign b_Editor_writePlainSign 2 none :: wAll
theorem d_Editor_writePlainSign_0 : decode b_Editor_writePlainSign 0 = .ok (.iload_n 1, 1) := by decide +kernel
theorem d_Editor_writePlainSign_1 : decode b_Editor_writePlainSign 1 = .ok (.lookupswitch 107 #[(57, 51), (66, 72), (67, 85), (68, 96), (86, 69)], 51) := by decide +kernel
theorem d_Editor_writePlainSign_52 : decode b_Editor_writePlainSign 52 = .ok (.aload_n 0, 1) := by decide +kernel
theorem d_Editor_writePlainSign_53 : decode b_Editor_writePlainSign 53 = .ok (.getfield 19, 3) := by decide +kernel
theorem d_Editor_writePlainSign_56 : decode b_Editor_writePlainSign 56 = .ok (.bipush 48, 2) := by decide +kernel
theorem d_Editor_writePlainSign_58 : decode b_Editor_writePlainSign 58 = .ok (.aload_n 0, 1) := by decide +kernel
theorem d_Editor_writePlainSign_59 : decode b_Editor_writePlainSign 59 = .ok (.invokevirtual 104, 3) := by decide +kernel
theorem d_Editor_writePlainSign_62 : decode b_Editor_writePlainSign 62 = .ok (.iadd, 1) := by decide +kernel
theorem d_Editor_writePlainSign_63 : decode b_Editor_writePlainSign 63 = .ok (.iconst 1, 1) := by decide +kernel
theorem d_Editor_writePlainSign_64 : decode b_Editor_writePlainSign 64 = .ok (.invokevirtual 47, 3) := by decide +kernel
theorem d_Editor_writePlainSign_67 : decode b_Editor_writePlainSign 67 = .ok (.goto 54, 3) := by decide +kernel
theorem d_Editor_writePlainSign_70 : decode b_Editor_writePlainSign 70 = .ok (.goto 51, 3) := by decide +kernel
theorem d_Editor_writePlainSign_73 : decode b_Editor_writePlainSign 73 = .ok (.aload_n 0, 1) := by decide +kernel
theorem d_Editor_writePlainSign_74 : decode b_Editor_writePlainSign 74 = .ok (.getfield 19, 3) := by decide +kernel
theorem d_Editor_writePlainSign_77 : decode b_Editor_writePlainSign 77 = .ok (.bipush 32, 2) := by decide +kernel
theorem d_Editor_writePlainSign_79 : decode b_Editor_writePlainSign 79 = .ok (.iconst 0, 1) := by decide +kernel
theorem d_Editor_writePlainSign_80 : decode b_Editor_writePlainSign 80 = .ok (.invokevirtual 47, 3) := by decide +kernel
theorem d_Editor_writePlainSign_83 : decode b_Editor_writePlainSign 83 = .ok (.goto 38, 3) := by decide +kernel
theorem d_Editor_writePlainSign_86 : decode b_Editor_writePlainSign 86 = .ok (.aload_n 0, 1) := by decide +kernel
theorem d_Editor_writePlainSign_87 : decode b_Editor_writePlainSign 87 = .ok (.bipush 67, 2) := by decide +kernel
theorem d_Editor_writePlainSign_89 : decode b_Editor_writePlainSign 89 = .ok (.bipush 82, 2) := by decide +kernel
theorem d_Editor_writePlainSign_91 : decode b_Editor_writePlainSign 91 = .ok (.invokevirtual 114, 3) := by decide +kernel
theorem d_Editor_writePlainSign_94 : decode b_Editor_writePlainSign 94 = .ok (.goto 27, 3) := by decide +kernel
theorem d_Editor_writePlainSign_97 : decode b_Editor_writePlainSign 97 = .ok (.aload_n 0, 1) := by decide +kernel
theorem d_Editor_writePlainSign_98 : decode b_Editor_writePlainSign 98 = .ok (.bipush 68, 2) := by decide +kernel
theorem d_Editor_writePlainSign_100 : decode b_Editor_writePlainSign 100 = .ok (.bipush 66, 2) := by decide +kernel
theorem d_Editor_writePlainSign_102 : decode b_Editor_writePlainSign 102 = .ok (.invokevirtual 114, 3) := by decide +kernel
theorem d_Editor_writePlainSign_105 : decode b_Editor_writePlainSign 105 = .ok (.goto 16, 3) := by decide +kernel
theorem d_Editor_writePlainSign_108 : decode b_Editor_writePlainSign 108 = .ok (.aload_n 0, 1) := by decide +kernel
theorem d_Editor_writePlainSign_109 : decode b_Editor_writePlainSign 109 = .ok (.getfield 19, 3) := by decide +kernel
theorem d_Editor_writePlainSign_112 : decode b_Editor_writePlainSign 112 = .ok (.aload_n 0, 1) := by decide +kernel
theorem d_Editor_writePlainSign_113 : decode b_Editor_writePlainSign 113 = .ok (.iload_n 1, 1) := by decide +kernel
theorem d_Editor_writePlainSign_114 : decode b_Editor_writePlainSign 114 = .ok (.invokevirtual 108, 3) := by decide +kernel
theorem d_Editor_writePlainSign_117 : decode b_Editor_writePlainSign 117 = .ok (.iconst 0, 1) := by decide +kernel
theorem d_Editor_writePlainSign_118 : decode b_Editor_writePlainSign 118 = .ok (.invokevirtual 47, 3) := by decide +kernel
theorem d_Editor_writePlainSign_121 : decode b_Editor_writePlainSign 121 = .ok (.return_, 1) := by decide +kernel
abbrev b_Editor_endSuppressing : ByteArray := prog_3_method_7_code
abbrev y_Editor_endSuppressing : MethodName := ⟨"EditMoves$Editor", "endSuppressing", "(LEditMoves$Picture;)V"⟩
def ws_Editor_endSuppressing : List Cond := .code y_Editor_endSuppressing b_Editor_endSuppressing 2 none :: wAll
theorem d_Editor_endSuppressing_0 : decode b_Editor_endSuppressing 0 = .ok (.aload_n 0, 1) := by decide +kernel
theorem d_Editor_endSuppressing_1 : decode b_Editor_endSuppressing 1 = .ok (.getfield 58, 3) := by decide +kernel
theorem d_Editor_endSuppressing_4 : decode b_Editor_endSuppressing 4 = .ok (.ifCond .eq 25, 3) := by decide +kernel
theorem d_Editor_endSuppressing_7 : decode b_Editor_endSuppressing 7 = .ok (.aload_n 1, 1) := by decide +kernel
theorem d_Editor_endSuppressing_8 : decode b_Editor_endSuppressing 8 = .ok (.getfield 101, 3) := by decide +kernel
theorem d_Editor_endSuppressing_11 : decode b_Editor_endSuppressing 11 = .ok (.ifCond .eq 18, 3) := by decide +kernel
theorem d_Editor_endSuppressing_14 : decode b_Editor_endSuppressing 14 = .ok (.aload_n 0, 1) := by decide +kernel
theorem d_Editor_endSuppressing_15 : decode b_Editor_endSuppressing 15 = .ok (.getfield 19, 3) := by decide +kernel
theorem d_Editor_endSuppressing_18 : decode b_Editor_endSuppressing 18 = .ok (.aload_n 0, 1) := by decide +kernel
theorem d_Editor_endSuppressing_19 : decode b_Editor_endSuppressing 19 = .ok (.aload_n 1, 1) := by decide +kernel
theorem d_Editor_endSuppressing_20 : decode b_Editor_endSuppressing 20 = .ok (.getfield 61, 3) := by decide +kernel
theorem d_Editor_endSuppressing_23 : decode b_Editor_endSuppressing 23 = .ok (.invokevirtual 108, 3) := by decide +kernel
theorem d_Editor_endSuppressing_26 : decode b_Editor_endSuppressing 26 = .ok (.invokevirtual 111, 3) := by decide +kernel
theorem d_Editor_endSuppressing_29 : decode b_Editor_endSuppressing 29 = .ok (.aload_n 0, 1) := by decide +kernel
theorem d_Editor_endSuppressing_30 : decode b_Editor_endSuppressing 30 = .ok (.iconst 0, 1) := by decide +kernel
theorem d_Editor_endSuppressing_31 : decode b_Editor_endSuppressing 31 = .ok (.putfield 58, 3) := by decide +kernel
theorem d_Editor_endSuppressing_34 : decode b_Editor_endSuppressing 34 = .ok (.return_, 1) := by decide +kernel
abbrev b_Editor_writeStringSign : ByteArray := prog_3_method_6_code
abbrev y_Editor_writeStringSign : MethodName := ⟨"EditMoves$Editor", "writeStringSign", "(LEditMoves$Picture;)V"⟩
def ws_Editor_writeStringSign : List Cond := .code y_Editor_writeStringSign b_Editor_writeStringSign 3 none :: wAll
theorem d_Editor_writeStringSign_0 : decode b_Editor_writeStringSign 0 = .ok (.aload_n 0, 1) := by decide +kernel
theorem d_Editor_writeStringSign_1 : decode b_Editor_writeStringSign 1 = .ok (.getfield 54, 3) := by decide +kernel
theorem d_Editor_writeStringSign_4 : decode b_Editor_writeStringSign 4 = .ok (.ifCond .ne 32, 3) := by decide +kernel
theorem d_Editor_writeStringSign_7 : decode b_Editor_writeStringSign 7 = .ok (.aload_n 0, 1) := by decide +kernel
theorem d_Editor_writeStringSign_8 : decode b_Editor_writeStringSign 8 = .ok (.iconst 1, 1) := by decide +kernel
theorem d_Editor_writeStringSign_9 : decode b_Editor_writeStringSign 9 = .ok (.putfield 54, 3) := by decide +kernel
theorem d_Editor_writeStringSign_12 : decode b_Editor_writeStringSign 12 = .ok (.aload_n 0, 1) := by decide +kernel
theorem d_Editor_writeStringSign_13 : decode b_Editor_writeStringSign 13 = .ok (.iconst 1, 1) := by decide +kernel
theorem d_Editor_writeStringSign_14 : decode b_Editor_writeStringSign 14 = .ok (.putfield 58, 3) := by decide +kernel
theorem d_Editor_writeStringSign_17 : decode b_Editor_writeStringSign 17 = .ok (.aload_n 1, 1) := by decide +kernel
theorem d_Editor_writeStringSign_18 : decode b_Editor_writeStringSign 18 = .ok (.getfield 101, 3) := by decide +kernel
theorem d_Editor_writeStringSign_21 : decode b_Editor_writeStringSign 21 = .ok (.ifCond .eq 15, 3) := by decide +kernel
theorem d_Editor_writeStringSign_24 : decode b_Editor_writeStringSign 24 = .ok (.aload_n 0, 1) := by decide +kernel
theorem d_Editor_writeStringSign_25 : decode b_Editor_writeStringSign 25 = .ok (.getfield 19, 3) := by decide +kernel
theorem d_Editor_writeStringSign_28 : decode b_Editor_writeStringSign 28 = .ok (.aload_n 0, 1) := by decide +kernel
theorem d_Editor_writeStringSign_29 : decode b_Editor_writeStringSign 29 = .ok (.getfield 64, 3) := by decide +kernel
theorem d_Editor_writeStringSign_32 : decode b_Editor_writeStringSign 32 = .ok (.invokevirtual 84, 3) := by decide +kernel
theorem d_Editor_writeStringSign_35 : decode b_Editor_writeStringSign 35 = .ok (.return_, 1) := by decide +kernel
theorem d_Editor_writeStringSign_36 : decode b_Editor_writeStringSign 36 = .ok (.aload_n 0, 1) := by decide +kernel
theorem d_Editor_writeStringSign_37 : decode b_Editor_writeStringSign 37 = .ok (.invokevirtual 104, 3) := by decide +kernel
theorem d_Editor_writeStringSign_40 : decode b_Editor_writeStringSign 40 = .ok (.istore_n 2, 1) := by decide +kernel
theorem d_Editor_writeStringSign_41 : decode b_Editor_writeStringSign 41 = .ok (.aload_n 0, 1) := by decide +kernel
theorem d_Editor_writeStringSign_42 : decode b_Editor_writeStringSign 42 = .ok (.getfield 58, 3) := by decide +kernel
theorem d_Editor_writeStringSign_45 : decode b_Editor_writeStringSign 45 = .ok (.ifCond .eq 19, 3) := by decide +kernel
theorem d_Editor_writeStringSign_48 : decode b_Editor_writeStringSign 48 = .ok (.iload_n 2, 1) := by decide +kernel
theorem d_Editor_writeStringSign_49 : decode b_Editor_writeStringSign 49 = .ok (.ifCond .ne 15, 3) := by decide +kernel
theorem d_Editor_writeStringSign_52 : decode b_Editor_writeStringSign 52 = .ok (.aload_n 0, 1) := by decide +kernel
theorem d_Editor_writeStringSign_53 : decode b_Editor_writeStringSign 53 = .ok (.getfield 19, 3) := by decide +kernel
theorem d_Editor_writeStringSign_56 : decode b_Editor_writeStringSign 56 = .ok (.aload_n 0, 1) := by decide +kernel
theorem d_Editor_writeStringSign_57 : decode b_Editor_writeStringSign 57 = .ok (.getfield 64, 3) := by decide +kernel
theorem d_Editor_writeStringSign_60 : decode b_Editor_writeStringSign 60 = .ok (.invokevirtual 84, 3) := by decide +kernel
theorem d_Editor_writeStringSign_63 : decode b_Editor_writeStringSign 63 = .ok (.return_, 1) := by decide +kernel
theorem d_Editor_writeStringSign_64 : decode b_Editor_writeStringSign 64 = .ok (.aload_n 0, 1) := by decide +kernel
theorem d_Editor_writeStringSign_65 : decode b_Editor_writeStringSign 65 = .ok (.aload_n 1, 1) := by decide +kernel
theorem d_Editor_writeStringSign_66 : decode b_Editor_writeStringSign 66 = .ok (.invokevirtual 95, 3) := by decide +kernel
theorem d_Editor_writeStringSign_69 : decode b_Editor_writeStringSign 69 = .ok (.aload_n 0, 1) := by decide +kernel
theorem d_Editor_writeStringSign_70 : decode b_Editor_writeStringSign 70 = .ok (.getfield 19, 3) := by decide +kernel
theorem d_Editor_writeStringSign_73 : decode b_Editor_writeStringSign 73 = .ok (.bipush 48, 2) := by decide +kernel
theorem d_Editor_writeStringSign_75 : decode b_Editor_writeStringSign 75 = .ok (.iload_n 2, 1) := by decide +kernel
theorem d_Editor_writeStringSign_76 : decode b_Editor_writeStringSign 76 = .ok (.iadd, 1) := by decide +kernel
theorem d_Editor_writeStringSign_77 : decode b_Editor_writeStringSign 77 = .ok (.iconst 1, 1) := by decide +kernel
theorem d_Editor_writeStringSign_78 : decode b_Editor_writeStringSign 78 = .ok (.invokevirtual 47, 3) := by decide +kernel
theorem d_Editor_writeStringSign_81 : decode b_Editor_writeStringSign 81 = .ok (.return_, 1) := by decide +kernel
abbrev b_Editor_writeSign : ByteArray := prog_3_method_5_code
abbrev y_Editor_writeSign : MethodName := ⟨"EditMoves$Editor", "writeSign", "(LEditMoves$Picture;I)V"⟩
def ws_Editor_writeSign : List Cond := .code y_Editor_writeSign b_Editor_writeSign 3 none :: wAll
theorem d_Editor_writeSign_0 : decode b_Editor_writeSign 0 = .ok (.iload_n 2, 1) := by decide +kernel
theorem d_Editor_writeSign_1 : decode b_Editor_writeSign 1 = .ok (.aload_n 1, 1) := by decide +kernel
theorem d_Editor_writeSign_2 : decode b_Editor_writeSign 2 = .ok (.getfield 61, 3) := by decide +kernel
theorem d_Editor_writeSign_5 : decode b_Editor_writeSign 5 = .ok (.if_icmp .ne 11, 3) := by decide +kernel
theorem d_Editor_writeSign_8 : decode b_Editor_writeSign 8 = .ok (.aload_n 0, 1) := by decide +kernel
theorem d_Editor_writeSign_9 : decode b_Editor_writeSign 9 = .ok (.aload_n 1, 1) := by decide +kernel
theorem d_Editor_writeSign_10 : decode b_Editor_writeSign 10 = .ok (.invokevirtual 87, 3) := by decide +kernel
theorem d_Editor_writeSign_13 : decode b_Editor_writeSign 13 = .ok (.goto 41, 3) := by decide +kernel
theorem d_Editor_writeSign_16 : decode b_Editor_writeSign 16 = .ok (.aload_n 0, 1) := by decide +kernel
theorem d_Editor_writeSign_17 : decode b_Editor_writeSign 17 = .ok (.getfield 58, 3) := by decide +kernel
theorem d_Editor_writeSign_20 : decode b_Editor_writeSign 20 = .ok (.ifCond .eq 24, 3) := by decide +kernel
theorem d_Editor_writeSign_23 : decode b_Editor_writeSign 23 = .ok (.iload_n 2, 1) := by decide +kernel
theorem d_Editor_writeSign_24 : decode b_Editor_writeSign 24 = .ok (.invokestatic 91, 3) := by decide +kernel
theorem d_Editor_writeSign_27 : decode b_Editor_writeSign 27 = .ok (.ifCond .eq 17, 3) := by decide +kernel
theorem d_Editor_writeSign_30 : decode b_Editor_writeSign 30 = .ok (.aload_n 0, 1) := by decide +kernel
theorem d_Editor_writeSign_31 : decode b_Editor_writeSign 31 = .ok (.getfield 19, 3) := by decide +kernel
theorem d_Editor_writeSign_34 : decode b_Editor_writeSign 34 = .ok (.aload_n 0, 1) := by decide +kernel
theorem d_Editor_writeSign_35 : decode b_Editor_writeSign 35 = .ok (.getfield 64, 3) := by decide +kernel
theorem d_Editor_writeSign_38 : decode b_Editor_writeSign 38 = .ok (.invokevirtual 84, 3) := by decide +kernel
theorem d_Editor_writeSign_41 : decode b_Editor_writeSign 41 = .ok (.goto 13, 3) := by decide +kernel
theorem d_Editor_writeSign_44 : decode b_Editor_writeSign 44 = .ok (.aload_n 0, 1) := by decide +kernel
theorem d_Editor_writeSign_45 : decode b_Editor_writeSign 45 = .ok (.aload_n 1, 1) := by decide +kernel
theorem d_Editor_writeSign_46 : decode b_Editor_writeSign 46 = .ok (.invokevirtual 95, 3) := by decide +kernel
theorem d_Editor_writeSign_49 : decode b_Editor_writeSign 49 = .ok (.aload_n 0, 1) := by decide +kernel
theorem d_Editor_writeSign_50 : decode b_Editor_writeSign 50 = .ok (.iload_n 2, 1) := by decide +kernel
theorem d_Editor_writeSign_51 : decode b_Editor_writeSign 51 = .ok (.invokevirtual 98, 3) := by decide +kernel
theorem d_Editor_writeSign_54 : decode b_Editor_writeSign 54 = .ok (.return_, 1) := by decide +kernel
abbrev b_Editor_hideSign : ByteArray := prog_3_method_4_code
abbrev y_Editor_hideSign : MethodName := ⟨"EditMoves$Editor", "hideSign", "(I)V"⟩
def ws_Editor_hideSign : List Cond := .code y_Editor_hideSign b_Editor_hideSign 3 none :: wAll
theorem d_Editor_hideSign_0 : decode b_Editor_hideSign 0 = .ok (.aload_n 0, 1) := by decide +kernel
theorem d_Editor_hideSign_1 : decode b_Editor_hideSign 1 = .ok (.getfield 64, 3) := by decide +kernel
theorem d_Editor_hideSign_4 : decode b_Editor_hideSign 4 = .ok (.bipush 42, 2) := by decide +kernel
theorem d_Editor_hideSign_6 : decode b_Editor_hideSign 6 = .ok (.if_icmp .ne 20, 3) := by decide +kernel
theorem d_Editor_hideSign_9 : decode b_Editor_hideSign 9 = .ok (.iload_n 1, 1) := by decide +kernel
theorem d_Editor_hideSign_10 : decode b_Editor_hideSign 10 = .ok (.bipush 46, 2) := by decide +kernel
theorem d_Editor_hideSign_12 : decode b_Editor_hideSign 12 = .ok (.if_icmp .ne 14, 3) := by decide +kernel
theorem d_Editor_hideSign_15 : decode b_Editor_hideSign 15 = .ok (.aload_n 0, 1) := by decide +kernel
theorem d_Editor_hideSign_16 : decode b_Editor_hideSign 16 = .ok (.getfield 19, 3) := by decide +kernel
theorem d_Editor_hideSign_19 : decode b_Editor_hideSign 19 = .ok (.bipush 46, 2) := by decide +kernel
theorem d_Editor_hideSign_21 : decode b_Editor_hideSign 21 = .ok (.iconst 0, 1) := by decide +kernel
theorem d_Editor_hideSign_22 : decode b_Editor_hideSign 22 = .ok (.invokevirtual 47, 3) := by decide +kernel
theorem d_Editor_hideSign_25 : decode b_Editor_hideSign 25 = .ok (.return_, 1) := by decide +kernel
theorem d_Editor_hideSign_26 : decode b_Editor_hideSign 26 = .ok (.iconst 0, 1) := by decide +kernel
theorem d_Editor_hideSign_27 : decode b_Editor_hideSign 27 = .ok (.istore_n 2, 1) := by decide +kernel
theorem d_Editor_hideSign_28 : decode b_Editor_hideSign 28 = .ok (.iload_n 2, 1) := by decide +kernel
theorem d_Editor_hideSign_29 : decode b_Editor_hideSign 29 = .ok (.iload_n 1, 1) := by decide +kernel
theorem d_Editor_hideSign_30 : decode b_Editor_hideSign 30 = .ok (.invokestatic 81, 3) := by decide +kernel
theorem d_Editor_hideSign_33 : decode b_Editor_hideSign 33 = .ok (.if_icmp .ge 20, 3) := by decide +kernel
theorem d_Editor_hideSign_36 : decode b_Editor_hideSign 36 = .ok (.aload_n 0, 1) := by decide +kernel
theorem d_Editor_hideSign_37 : decode b_Editor_hideSign 37 = .ok (.getfield 19, 3) := by decide +kernel
theorem d_Editor_hideSign_40 : decode b_Editor_hideSign 40 = .ok (.aload_n 0, 1) := by decide +kernel
theorem d_Editor_hideSign_41 : decode b_Editor_hideSign 41 = .ok (.getfield 64, 3) := by decide +kernel
theorem d_Editor_hideSign_44 : decode b_Editor_hideSign 44 = .ok (.invokevirtual 84, 3) := by decide +kernel
theorem d_Editor_hideSign_47 : decode b_Editor_hideSign 47 = .ok (.iinc 2 1, 3) := by decide +kernel
theorem d_Editor_hideSign_50 : decode b_Editor_hideSign 50 = .ok (.goto (-22), 3) := by decide +kernel
theorem d_Editor_hideSign_53 : decode b_Editor_hideSign 53 = .ok (.return_, 1) := by decide +kernel
abbrev b_Editor_writeAmount : ByteArray := prog_3_method_3_code
abbrev y_Editor_writeAmount : MethodName := ⟨"EditMoves$Editor", "writeAmount", "(LEditMoves$Picture;Z)V"⟩
def ws_Editor_writeAmount : List Cond := .code y_Editor_writeAmount b_Editor_writeAmount 8 none :: wAll
theorem d_Editor_writeAmount_0 : decode b_Editor_writeAmount 0 = .ok (.aload_n 0, 1) := by decide +kernel
theorem d_Editor_writeAmount_1 : decode b_Editor_writeAmount 1 = .ok (.getfield 19, 3) := by decide +kernel
theorem d_Editor_writeAmount_4 : decode b_Editor_writeAmount 4 = .ok (.iconst 1, 1) := by decide +kernel
theorem d_Editor_writeAmount_5 : decode b_Editor_writeAmount 5 = .ok (.putfield 25, 3) := by decide +kernel
theorem d_Editor_writeAmount_8 : decode b_Editor_writeAmount 8 = .ok (.aload_n 0, 1) := by decide +kernel
theorem d_Editor_writeAmount_9 : decode b_Editor_writeAmount 9 = .ok (.iconst 0, 1) := by decide +kernel
theorem d_Editor_writeAmount_10 : decode b_Editor_writeAmount 10 = .ok (.putfield 51, 3) := by decide +kernel
theorem d_Editor_writeAmount_13 : decode b_Editor_writeAmount 13 = .ok (.aload_n 0, 1) := by decide +kernel
theorem d_Editor_writeAmount_14 : decode b_Editor_writeAmount 14 = .ok (.iconst 0, 1) := by decide +kernel
theorem d_Editor_writeAmount_15 : decode b_Editor_writeAmount 15 = .ok (.putfield 54, 3) := by decide +kernel
theorem d_Editor_writeAmount_18 : decode b_Editor_writeAmount 18 = .ok (.aload_n 0, 1) := by decide +kernel
theorem d_Editor_writeAmount_19 : decode b_Editor_writeAmount 19 = .ok (.iconst 0, 1) := by decide +kernel
theorem d_Editor_writeAmount_20 : decode b_Editor_writeAmount 20 = .ok (.putfield 58, 3) := by decide +kernel
theorem d_Editor_writeAmount_23 : decode b_Editor_writeAmount 23 = .ok (.aload_n 1, 1) := by decide +kernel
theorem d_Editor_writeAmount_24 : decode b_Editor_writeAmount 24 = .ok (.getfield 61, 3) := by decide +kernel
theorem d_Editor_writeAmount_27 : decode b_Editor_writeAmount 27 = .ok (.bipush 42, 2) := by decide +kernel
theorem d_Editor_writeAmount_29 : decode b_Editor_writeAmount 29 = .ok (.if_icmp .ne 7, 3) := by decide +kernel
theorem d_Editor_writeAmount_32 : decode b_Editor_writeAmount 32 = .ok (.iconst 1, 1) := by decide +kernel
theorem d_Editor_writeAmount_33 : decode b_Editor_writeAmount 33 = .ok (.goto 4, 3) := by decide +kernel
theorem d_Editor_writeAmount_36 : decode b_Editor_writeAmount 36 = .ok (.iconst 0, 1) := by decide +kernel
theorem d_Editor_writeAmount_37 : decode b_Editor_writeAmount 37 = .ok (.istore_n 3, 1) := by decide +kernel
theorem d_Editor_writeAmount_38 : decode b_Editor_writeAmount 38 = .ok (.aload_n 0, 1) := by decide +kernel
theorem d_Editor_writeAmount_39 : decode b_Editor_writeAmount 39 = .ok (.iload_n 3, 1) := by decide +kernel
theorem d_Editor_writeAmount_40 : decode b_Editor_writeAmount 40 = .ok (.ifCond .eq 8, 3) := by decide +kernel
theorem d_Editor_writeAmount_43 : decode b_Editor_writeAmount 43 = .ok (.bipush 42, 2) := by decide +kernel
theorem d_Editor_writeAmount_45 : decode b_Editor_writeAmount 45 = .ok (.goto 5, 3) := by decide +kernel
theorem d_Editor_writeAmount_48 : decode b_Editor_writeAmount 48 = .ok (.bipush 32, 2) := by decide +kernel
theorem d_Editor_writeAmount_50 : decode b_Editor_writeAmount 50 = .ok (.putfield 64, 3) := by decide +kernel
theorem d_Editor_writeAmount_53 : decode b_Editor_writeAmount 53 = .ok (.aload_n 0, 1) := by decide +kernel
theorem d_Editor_writeAmount_54 : decode b_Editor_writeAmount 54 = .ok (.getfield 10, 3) := by decide +kernel
theorem d_Editor_writeAmount_57 : decode b_Editor_writeAmount 57 = .ok (.getfield 67, 3) := by decide +kernel
theorem d_Editor_writeAmount_60 : decode b_Editor_writeAmount 60 = .ok (.ifCond .eq 22, 3) := by decide +kernel
theorem d_Editor_writeAmount_63 : decode b_Editor_writeAmount 63 = .ok (.aload_n 1, 1) := by decide +kernel
theorem d_Editor_writeAmount_64 : decode b_Editor_writeAmount 64 = .ok (.getfield 70, 3) := by decide +kernel
theorem d_Editor_writeAmount_67 : decode b_Editor_writeAmount 67 = .ok (.ifCond .ne 11, 3) := by decide +kernel
theorem d_Editor_writeAmount_70 : decode b_Editor_writeAmount 70 = .ok (.iload_n 2, 1) := by decide +kernel
theorem d_Editor_writeAmount_71 : decode b_Editor_writeAmount 71 = .ok (.ifCond .eq 11, 3) := by decide +kernel
theorem d_Editor_writeAmount_74 : decode b_Editor_writeAmount 74 = .ok (.iload_n 3, 1) := by decide +kernel
theorem d_Editor_writeAmount_75 : decode b_Editor_writeAmount 75 = .ok (.ifCond .ne 7, 3) := by decide +kernel
theorem d_Editor_writeAmount_78 : decode b_Editor_writeAmount 78 = .ok (.iconst 1, 1) := by decide +kernel
theorem d_Editor_writeAmount_79 : decode b_Editor_writeAmount 79 = .ok (.goto 4, 3) := by decide +kernel
theorem d_Editor_writeAmount_82 : decode b_Editor_writeAmount 82 = .ok (.iconst 0, 1) := by decide +kernel
theorem d_Editor_writeAmount_83 : decode b_Editor_writeAmount 83 = .ok (.istore 4, 2) := by decide +kernel
theorem d_Editor_writeAmount_85 : decode b_Editor_writeAmount 85 = .ok (.iconst 0, 1) := by decide +kernel
theorem d_Editor_writeAmount_86 : decode b_Editor_writeAmount 86 = .ok (.istore 5, 2) := by decide +kernel
theorem d_Editor_writeAmount_88 : decode b_Editor_writeAmount 88 = .ok (.iload 5, 2) := by decide +kernel
theorem d_Editor_writeAmount_90 : decode b_Editor_writeAmount 90 = .ok (.aload_n 1, 1) := by decide +kernel
theorem d_Editor_writeAmount_91 : decode b_Editor_writeAmount 91 = .ok (.getfield 29, 3) := by decide +kernel
theorem d_Editor_writeAmount_94 : decode b_Editor_writeAmount 94 = .ok (.if_icmp .ge 58, 3) := by decide +kernel
theorem d_Editor_writeAmount_97 : decode b_Editor_writeAmount 97 = .ok (.aload_n 1, 1) := by decide +kernel
theorem d_Editor_writeAmount_98 : decode b_Editor_writeAmount 98 = .ok (.iload 5, 2) := by decide +kernel
theorem d_Editor_writeAmount_100 : decode b_Editor_writeAmount 100 = .ok (.invokevirtual 32, 3) := by decide +kernel
theorem d_Editor_writeAmount_103 : decode b_Editor_writeAmount 103 = .ok (.istore 6, 2) := by decide +kernel
theorem d_Editor_writeAmount_105 : decode b_Editor_writeAmount 105 = .ok (.iconst 0, 1) := by decide +kernel
theorem d_Editor_writeAmount_106 : decode b_Editor_writeAmount 106 = .ok (.istore 7, 2) := by decide +kernel
theorem d_Editor_writeAmount_108 : decode b_Editor_writeAmount 108 = .ok (.iload 7, 2) := by decide +kernel
theorem d_Editor_writeAmount_110 : decode b_Editor_writeAmount 110 = .ok (.aload_n 1, 1) := by decide +kernel
theorem d_Editor_writeAmount_111 : decode b_Editor_writeAmount 111 = .ok (.iload 5, 2) := by decide +kernel
theorem d_Editor_writeAmount_113 : decode b_Editor_writeAmount 113 = .ok (.invokevirtual 36, 3) := by decide +kernel
theorem d_Editor_writeAmount_116 : decode b_Editor_writeAmount 116 = .ok (.if_icmp .ge 30, 3) := by decide +kernel
theorem d_Editor_writeAmount_119 : decode b_Editor_writeAmount 119 = .ok (.iload 4, 2) := by decide +kernel
theorem d_Editor_writeAmount_121 : decode b_Editor_writeAmount 121 = .ok (.ifCond .eq 12, 3) := by decide +kernel
theorem d_Editor_writeAmount_124 : decode b_Editor_writeAmount 124 = .ok (.aload_n 0, 1) := by decide +kernel
theorem d_Editor_writeAmount_125 : decode b_Editor_writeAmount 125 = .ok (.iload 6, 2) := by decide +kernel
theorem d_Editor_writeAmount_127 : decode b_Editor_writeAmount 127 = .ok (.invokevirtual 73, 3) := by decide +kernel
theorem d_Editor_writeAmount_130 : decode b_Editor_writeAmount 130 = .ok (.goto 10, 3) := by decide +kernel
theorem d_Editor_writeAmount_133 : decode b_Editor_writeAmount 133 = .ok (.aload_n 0, 1) := by decide +kernel
theorem d_Editor_writeAmount_134 : decode b_Editor_writeAmount 134 = .ok (.aload_n 1, 1) := by decide +kernel
theorem d_Editor_writeAmount_135 : decode b_Editor_writeAmount 135 = .ok (.iload 6, 2) := by decide +kernel
theorem d_Editor_writeAmount_137 : decode b_Editor_writeAmount 137 = .ok (.invokevirtual 77, 3) := by decide +kernel
theorem d_Editor_writeAmount_140 : decode b_Editor_writeAmount 140 = .ok (.iinc 7 1, 3) := by decide +kernel
theorem d_Editor_writeAmount_143 : decode b_Editor_writeAmount 143 = .ok (.goto (-35), 3) := by decide +kernel
theorem d_Editor_writeAmount_146 : decode b_Editor_writeAmount 146 = .ok (.iinc 5 1, 3) := by decide +kernel
theorem d_Editor_writeAmount_149 : decode b_Editor_writeAmount 149 = .ok (.goto (-61), 3) := by decide +kernel
theorem d_Editor_writeAmount_152 : decode b_Editor_writeAmount 152 = .ok (.return_, 1) := by decide +kernel
abbrev b_Editor_writeLine : ByteArray := prog_3_method_2_code
abbrev y_Editor_writeLine : MethodName := ⟨"EditMoves$Editor", "writeLine", "(LEditMoves$Picture;LEditMoves$Line;)I"⟩
def ws_Editor_writeLine : List Cond := .code y_Editor_writeLine b_Editor_writeLine 7 (some .int) :: wAll
theorem d_Editor_writeLine_0 : decode b_Editor_writeLine 0 = .ok (.aload_n 0, 1) := by decide +kernel
theorem d_Editor_writeLine_1 : decode b_Editor_writeLine 1 = .ok (.getfield 19, 3) := by decide +kernel
theorem d_Editor_writeLine_4 : decode b_Editor_writeLine 4 = .ok (.iconst 2, 1) := by decide +kernel
theorem d_Editor_writeLine_5 : decode b_Editor_writeLine 5 = .ok (.putfield 25, 3) := by decide +kernel
theorem d_Editor_writeLine_8 : decode b_Editor_writeLine 8 = .ok (.iconst 0, 1) := by decide +kernel
theorem d_Editor_writeLine_9 : decode b_Editor_writeLine 9 = .ok (.istore_n 3, 1) := by decide +kernel
theorem d_Editor_writeLine_10 : decode b_Editor_writeLine 10 = .ok (.iconst 0, 1) := by decide +kernel
theorem d_Editor_writeLine_11 : decode b_Editor_writeLine 11 = .ok (.istore 4, 2) := by decide +kernel
theorem d_Editor_writeLine_13 : decode b_Editor_writeLine 13 = .ok (.iload 4, 2) := by decide +kernel
theorem d_Editor_writeLine_15 : decode b_Editor_writeLine 15 = .ok (.aload_n 1, 1) := by decide +kernel
theorem d_Editor_writeLine_16 : decode b_Editor_writeLine 16 = .ok (.getfield 29, 3) := by decide +kernel
theorem d_Editor_writeLine_19 : decode b_Editor_writeLine 19 = .ok (.if_icmp .ge 98, 3) := by decide +kernel
theorem d_Editor_writeLine_22 : decode b_Editor_writeLine 22 = .ok (.aload_n 1, 1) := by decide +kernel
theorem d_Editor_writeLine_23 : decode b_Editor_writeLine 23 = .ok (.iload 4, 2) := by decide +kernel
theorem d_Editor_writeLine_25 : decode b_Editor_writeLine 25 = .ok (.invokevirtual 32, 3) := by decide +kernel
theorem d_Editor_writeLine_28 : decode b_Editor_writeLine 28 = .ok (.istore 5, 2) := by decide +kernel
theorem d_Editor_writeLine_30 : decode b_Editor_writeLine 30 = .ok (.iconst 0, 1) := by decide +kernel
theorem d_Editor_writeLine_31 : decode b_Editor_writeLine 31 = .ok (.istore 6, 2) := by decide +kernel
theorem d_Editor_writeLine_33 : decode b_Editor_writeLine 33 = .ok (.iload 6, 2) := by decide +kernel
theorem d_Editor_writeLine_35 : decode b_Editor_writeLine 35 = .ok (.aload_n 1, 1) := by decide +kernel
theorem d_Editor_writeLine_36 : decode b_Editor_writeLine 36 = .ok (.iload 4, 2) := by decide +kernel
theorem d_Editor_writeLine_38 : decode b_Editor_writeLine 38 = .ok (.invokevirtual 36, 3) := by decide +kernel
theorem d_Editor_writeLine_41 : decode b_Editor_writeLine 41 = .ok (.if_icmp .ge 70, 3) := by decide +kernel
theorem d_Editor_writeLine_44 : decode b_Editor_writeLine 44 = .ok (.iload 5, 2) := by decide +kernel
theorem d_Editor_writeLine_46 : decode b_Editor_writeLine 46 = .ok (.bipush 88, 2) := by decide +kernel
theorem d_Editor_writeLine_48 : decode b_Editor_writeLine 48 = .ok (.if_icmp .ne 35, 3) := by decide +kernel
theorem d_Editor_writeLine_51 : decode b_Editor_writeLine 51 = .ok (.aload_n 0, 1) := by decide +kernel
theorem d_Editor_writeLine_52 : decode b_Editor_writeLine 52 = .ok (.getfield 19, 3) := by decide +kernel
theorem d_Editor_writeLine_55 : decode b_Editor_writeLine 55 = .ok (.iload_n 3, 1) := by decide +kernel
theorem d_Editor_writeLine_56 : decode b_Editor_writeLine 56 = .ok (.aload_n 2, 1) := by decide +kernel
theorem d_Editor_writeLine_57 : decode b_Editor_writeLine 57 = .ok (.getfield 39, 3) := by decide +kernel
theorem d_Editor_writeLine_60 : decode b_Editor_writeLine 60 = .ok (.if_icmp .ge 11, 3) := by decide +kernel
theorem d_Editor_writeLine_63 : decode b_Editor_writeLine 63 = .ok (.aload_n 2, 1) := by decide +kernel
theorem d_Editor_writeLine_64 : decode b_Editor_writeLine 64 = .ok (.iload_n 3, 1) := by decide +kernel
theorem d_Editor_writeLine_65 : decode b_Editor_writeLine 65 = .ok (.invokevirtual 44, 3) := by decide +kernel
theorem d_Editor_writeLine_68 : decode b_Editor_writeLine 68 = .ok (.goto 5, 3) := by decide +kernel
theorem d_Editor_writeLine_71 : decode b_Editor_writeLine 71 = .ok (.bipush 32, 2) := by decide +kernel
theorem d_Editor_writeLine_73 : decode b_Editor_writeLine 73 = .ok (.iconst 0, 1) := by decide +kernel
theorem d_Editor_writeLine_74 : decode b_Editor_writeLine 74 = .ok (.invokevirtual 47, 3) := by decide +kernel
theorem d_Editor_writeLine_77 : decode b_Editor_writeLine 77 = .ok (.iinc 3 1, 3) := by decide +kernel
theorem d_Editor_writeLine_80 : decode b_Editor_writeLine 80 = .ok (.goto 25, 3) := by decide +kernel
theorem d_Editor_writeLine_83 : decode b_Editor_writeLine 83 = .ok (.aload_n 0, 1) := by decide +kernel
theorem d_Editor_writeLine_84 : decode b_Editor_writeLine 84 = .ok (.getfield 19, 3) := by decide +kernel
theorem d_Editor_writeLine_87 : decode b_Editor_writeLine 87 = .ok (.iload 5, 2) := by decide +kernel
theorem d_Editor_writeLine_89 : decode b_Editor_writeLine 89 = .ok (.bipush 66, 2) := by decide +kernel
theorem d_Editor_writeLine_91 : decode b_Editor_writeLine 91 = .ok (.if_icmp .ne 8, 3) := by decide +kernel
theorem d_Editor_writeLine_94 : decode b_Editor_writeLine 94 = .ok (.bipush 32, 2) := by decide +kernel
theorem d_Editor_writeLine_96 : decode b_Editor_writeLine 96 = .ok (.goto 5, 3) := by decide +kernel
theorem d_Editor_writeLine_99 : decode b_Editor_writeLine 99 = .ok (.iload 5, 2) := by decide +kernel
theorem d_Editor_writeLine_101 : decode b_Editor_writeLine 101 = .ok (.iconst 0, 1) := by decide +kernel
theorem d_Editor_writeLine_102 : decode b_Editor_writeLine 102 = .ok (.invokevirtual 47, 3) := by decide +kernel
theorem d_Editor_writeLine_105 : decode b_Editor_writeLine 105 = .ok (.iinc 6 1, 3) := by decide +kernel
theorem d_Editor_writeLine_108 : decode b_Editor_writeLine 108 = .ok (.goto (-75), 3) := by decide +kernel
theorem d_Editor_writeLine_111 : decode b_Editor_writeLine 111 = .ok (.iinc 4 1, 3) := by decide +kernel
theorem d_Editor_writeLine_114 : decode b_Editor_writeLine 114 = .ok (.goto (-101), 3) := by decide +kernel
theorem d_Editor_writeLine_117 : decode b_Editor_writeLine 117 = .ok (.iload_n 3, 1) := by decide +kernel
theorem d_Editor_writeLine_118 : decode b_Editor_writeLine 118 = .ok (.aload_n 2, 1) := by decide +kernel
theorem d_Editor_writeLine_119 : decode b_Editor_writeLine 119 = .ok (.getfield 39, 3) := by decide +kernel
theorem d_Editor_writeLine_122 : decode b_Editor_writeLine 122 = .ok (.if_icmp .ge 12, 3) := by decide +kernel
theorem d_Editor_writeLine_125 : decode b_Editor_writeLine 125 = .ok (.aload_n 2, 1) := by decide +kernel
theorem d_Editor_writeLine_126 : decode b_Editor_writeLine 126 = .ok (.getfield 39, 3) := by decide +kernel
theorem d_Editor_writeLine_129 : decode b_Editor_writeLine 129 = .ok (.iload_n 3, 1) := by decide +kernel
theorem d_Editor_writeLine_130 : decode b_Editor_writeLine 130 = .ok (.isub, 1) := by decide +kernel
theorem d_Editor_writeLine_131 : decode b_Editor_writeLine 131 = .ok (.goto 4, 3) := by decide +kernel
theorem d_Editor_writeLine_134 : decode b_Editor_writeLine 134 = .ok (.iconst 0, 1) := by decide +kernel
theorem d_Editor_writeLine_135 : decode b_Editor_writeLine 135 = .ok (.ireturn, 1) := by decide +kernel
abbrev b_EditMoves_mayBeCurrency : ByteArray := prog_1_method_17_code
abbrev y_EditMoves_mayBeCurrency : MethodName := ⟨"EditMoves", "mayBeCurrency", "(I)Z"⟩
def ws_EditMoves_mayBeCurrency : List Cond := .code y_EditMoves_mayBeCurrency b_EditMoves_mayBeCurrency 2 (some .boolean) :: wAll
theorem d_EditMoves_mayBeCurrency_0 : decode b_EditMoves_mayBeCurrency 0 = .ok (.iload_n 0, 1) := by decide +kernel
theorem d_EditMoves_mayBeCurrency_1 : decode b_EditMoves_mayBeCurrency 1 = .ok (.bipush 32, 2) := by decide +kernel
theorem d_EditMoves_mayBeCurrency_3 : decode b_EditMoves_mayBeCurrency 3 = .ok (.if_icmp .le 16, 3) := by decide +kernel
theorem d_EditMoves_mayBeCurrency_6 : decode b_EditMoves_mayBeCurrency 6 = .ok (.iload_n 0, 1) := by decide +kernel
theorem d_EditMoves_mayBeCurrency_7 : decode b_EditMoves_mayBeCurrency 7 = .ok (.bipush 126, 2) := by decide +kernel
theorem d_EditMoves_mayBeCurrency_9 : decode b_EditMoves_mayBeCurrency 9 = .ok (.if_icmp .gt 10, 3) := by decide +kernel
theorem d_EditMoves_mayBeCurrency_12 : decode b_EditMoves_mayBeCurrency 12 = .ok (.iload_n 0, 1) := by decide +kernel
theorem d_EditMoves_mayBeCurrency_13 : decode b_EditMoves_mayBeCurrency 13 = .ok (.invokestatic 140, 3) := by decide +kernel
theorem d_EditMoves_mayBeCurrency_16 : decode b_EditMoves_mayBeCurrency 16 = .ok (.ifCond .eq 5, 3) := by decide +kernel
theorem d_EditMoves_mayBeCurrency_19 : decode b_EditMoves_mayBeCurrency 19 = .ok (.iconst 0, 1) := by decide +kernel
theorem d_EditMoves_mayBeCurrency_20 : decode b_EditMoves_mayBeCurrency 20 = .ok (.ireturn, 1) := by decide +kernel
theorem d_EditMoves_mayBeCurrency_21 : decode b_EditMoves_mayBeCurrency 21 = .ok (.iload_n 0, 1) := by decide +kernel
theorem d_EditMoves_mayBeCurrency_22 : decode b_EditMoves_mayBeCurrency 22 = .ok (.invokestatic 143, 3) := by decide +kernel
theorem d_EditMoves_mayBeCurrency_25 : decode b_EditMoves_mayBeCurrency 25 = .ok (.istore_n 1, 1) := by decide +kernel
theorem d_EditMoves_mayBeCurrency_26 : decode b_EditMoves_mayBeCurrency 26 = .ok (.iload_n 1, 1) := by decide +kernel
theorem d_EditMoves_mayBeCurrency_27 : decode b_EditMoves_mayBeCurrency 27 = .ok (.bipush 65, 2) := by decide +kernel
theorem d_EditMoves_mayBeCurrency_29 : decode b_EditMoves_mayBeCurrency 29 = .ok (.if_icmp .lt 9, 3) := by decide +kernel
theorem d_EditMoves_mayBeCurrency_32 : decode b_EditMoves_mayBeCurrency 32 = .ok (.iload_n 1, 1) := by decide +kernel
theorem d_EditMoves_mayBeCurrency_33 : decode b_EditMoves_mayBeCurrency 33 = .ok (.bipush 90, 2) := by decide +kernel
theorem d_EditMoves_mayBeCurrency_35 : decode b_EditMoves_mayBeCurrency 35 = .ok (.if_icmp .le 17, 3) := by decide +kernel
theorem d_EditMoves_mayBeCurrency_38 : decode b_EditMoves_mayBeCurrency 38 = .ok (.ldc 146, 2) := by decide +kernel
theorem d_EditMoves_mayBeCurrency_40 : decode b_EditMoves_mayBeCurrency 40 = .ok (.iload_n 0, 1) := by decide +kernel
theorem d_EditMoves_mayBeCurrency_41 : decode b_EditMoves_mayBeCurrency 41 = .ok (.i2c, 1) := by decide +kernel
theorem d_EditMoves_mayBeCurrency_42 : decode b_EditMoves_mayBeCurrency 42 = .ok (.invokevirtual 148, 3) := by decide +kernel
theorem d_EditMoves_mayBeCurrency_45 : decode b_EditMoves_mayBeCurrency 45 = .ok (.ifCond .ge 7, 3) := by decide +kernel
theorem d_EditMoves_mayBeCurrency_48 : decode b_EditMoves_mayBeCurrency 48 = .ok (.iconst 1, 1) := by decide +kernel
theorem d_EditMoves_mayBeCurrency_49 : decode b_EditMoves_mayBeCurrency 49 = .ok (.goto 4, 3) := by decide +kernel
theorem d_EditMoves_mayBeCurrency_52 : decode b_EditMoves_mayBeCurrency 52 = .ok (.iconst 0, 1) := by decide +kernel
theorem d_EditMoves_mayBeCurrency_53 : decode b_EditMoves_mayBeCurrency 53 = .ok (.ireturn, 1) := by decide +kernel
abbrev b_EditMoves_picture : ByteArray := prog_1_method_2_code
abbrev y_EditMoves_picture : MethodName := ⟨"EditMoves", "picture", "(I)V"⟩
def ws_EditMoves_picture : List Cond := .code y_EditMoves_picture b_EditMoves_picture 2 none :: wAll
theorem d_EditMoves_picture_0 : decode b_EditMoves_picture 0 = .ok (.iload_n 1, 1) := by decide +kernel
theorem d_EditMoves_picture_1 : decode b_EditMoves_picture 1 = .ok (.ifCond .ne 13, 3) := by decide +kernel
theorem d_EditMoves_picture_4 : decode b_EditMoves_picture 4 = .ok (.aload_n 0, 1) := by decide +kernel
theorem d_EditMoves_picture_5 : decode b_EditMoves_picture 5 = .ok (.getfield 10, 3) := by decide +kernel
theorem d_EditMoves_picture_8 : decode b_EditMoves_picture 8 = .ok (.invokevirtual 37, 3) := by decide +kernel
theorem d_EditMoves_picture_11 : decode b_EditMoves_picture 11 = .ok (.goto 26, 3) := by decide +kernel
theorem d_EditMoves_picture_14 : decode b_EditMoves_picture 14 = .ok (.aload_n 0, 1) := by decide +kernel
theorem d_EditMoves_picture_15 : decode b_EditMoves_picture 15 = .ok (.getfield 10, 3) := by decide +kernel
theorem d_EditMoves_picture_18 : decode b_EditMoves_picture 18 = .ok (.iload_n 1, 1) := by decide +kernel
theorem d_EditMoves_picture_19 : decode b_EditMoves_picture 19 = .ok (.ifCond .le 13, 3) := by decide +kernel
theorem d_EditMoves_picture_22 : decode b_EditMoves_picture 22 = .ok (.iload_n 1, 1) := by decide +kernel
theorem d_EditMoves_picture_23 : decode b_EditMoves_picture 23 = .ok (.bipush 126, 2) := by decide +kernel
theorem d_EditMoves_picture_25 : decode b_EditMoves_picture 25 = .ok (.if_icmp .gt 7, 3) := by decide +kernel
theorem d_EditMoves_picture_28 : decode b_EditMoves_picture 28 = .ok (.iload_n 1, 1) := by decide +kernel
theorem d_EditMoves_picture_29 : decode b_EditMoves_picture 29 = .ok (.goto 5, 3) := by decide +kernel
theorem d_EditMoves_picture_32 : decode b_EditMoves_picture 32 = .ok (.bipush 127, 2) := by decide +kernel
theorem d_EditMoves_picture_34 : decode b_EditMoves_picture 34 = .ok (.invokevirtual 40, 3) := by decide +kernel
theorem d_EditMoves_picture_37 : decode b_EditMoves_picture 37 = .ok (.return_, 1) := by decide +kernel
abbrev b_EditMoves_value : ByteArray := prog_1_method_3_code
abbrev y_EditMoves_value : MethodName := ⟨"EditMoves", "value", "(JI)I"⟩
def ws_EditMoves_value : List Cond := .code y_EditMoves_value b_EditMoves_value 4 (some .int) :: wAll
theorem d_EditMoves_value_0 : decode b_EditMoves_value 0 = .ok (.iload_n 3, 1) := by decide +kernel
theorem d_EditMoves_value_1 : decode b_EditMoves_value 1 = .ok (.ifCond .lt 9, 3) := by decide +kernel
theorem d_EditMoves_value_4 : decode b_EditMoves_value 4 = .ok (.iload_n 3, 1) := by decide +kernel
theorem d_EditMoves_value_5 : decode b_EditMoves_value 5 = .ok (.bipush 18, 2) := by decide +kernel
theorem d_EditMoves_value_7 : decode b_EditMoves_value 7 = .ok (.if_icmp .le 5, 3) := by decide +kernel
theorem d_EditMoves_value_10 : decode b_EditMoves_value 10 = .ok (.iconst 0, 1) := by decide +kernel
theorem d_EditMoves_value_11 : decode b_EditMoves_value 11 = .ok (.ireturn, 1) := by decide +kernel
theorem d_EditMoves_value_12 : decode b_EditMoves_value 12 = .ok (.aload_n 0, 1) := by decide +kernel
theorem d_EditMoves_value_13 : decode b_EditMoves_value 13 = .ok (.lload_n 1, 1) := by decide +kernel
theorem d_EditMoves_value_14 : decode b_EditMoves_value 14 = .ok (.putfield 44, 3) := by decide +kernel
theorem d_EditMoves_value_17 : decode b_EditMoves_value 17 = .ok (.aload_n 0, 1) := by decide +kernel
theorem d_EditMoves_value_18 : decode b_EditMoves_value 18 = .ok (.iload_n 3, 1) := by decide +kernel
theorem d_EditMoves_value_19 : decode b_EditMoves_value 19 = .ok (.putfield 48, 3) := by decide +kernel
theorem d_EditMoves_value_22 : decode b_EditMoves_value 22 = .ok (.iconst 1, 1) := by decide +kernel
theorem d_EditMoves_value_23 : decode b_EditMoves_value 23 = .ok (.ireturn, 1) := by decide +kernel
abbrev b_EditMoves_text : ByteArray := prog_1_method_4_code
abbrev y_EditMoves_text : MethodName := ⟨"EditMoves", "text", "(I)V"⟩
def ws_EditMoves_text : List Cond := .code y_EditMoves_text b_EditMoves_text 2 none :: wAll
theorem d_EditMoves_text_0 : decode b_EditMoves_text 0 = .ok (.iload_n 1, 1) := by decide +kernel
theorem d_EditMoves_text_1 : decode b_EditMoves_text 1 = .ok (.bipush 32, 2) := by decide +kernel
theorem d_EditMoves_text_3 : decode b_EditMoves_text 3 = .ok (.if_icmp .lt 20, 3) := by decide +kernel
theorem d_EditMoves_text_6 : decode b_EditMoves_text 6 = .ok (.iload_n 1, 1) := by decide +kernel
theorem d_EditMoves_text_7 : decode b_EditMoves_text 7 = .ok (.bipush 126, 2) := by decide +kernel
theorem d_EditMoves_text_9 : decode b_EditMoves_text 9 = .ok (.if_icmp .gt 14, 3) := by decide +kernel
theorem d_EditMoves_text_12 : decode b_EditMoves_text 12 = .ok (.aload_n 0, 1) := by decide +kernel
theorem d_EditMoves_text_13 : decode b_EditMoves_text 13 = .ok (.getfield 16, 3) := by decide +kernel
theorem d_EditMoves_text_16 : decode b_EditMoves_text 16 = .ok (.iload_n 1, 1) := by decide +kernel
theorem d_EditMoves_text_17 : decode b_EditMoves_text 17 = .ok (.invokevirtual 40, 3) := by decide +kernel
theorem d_EditMoves_text_20 : decode b_EditMoves_text 20 = .ok (.goto 10, 3) := by decide +kernel
theorem d_EditMoves_text_23 : decode b_EditMoves_text 23 = .ok (.aload_n 0, 1) := by decide +kernel
theorem d_EditMoves_text_24 : decode b_EditMoves_text 24 = .ok (.getfield 16, 3) := by decide +kernel
theorem d_EditMoves_text_27 : decode b_EditMoves_text 27 = .ok (.invokevirtual 37, 3) := by decide +kernel
theorem d_EditMoves_text_30 : decode b_EditMoves_text 30 = .ok (.return_, 1) := by decide +kernel
abbrev b_EditMoves_editLine : ByteArray := prog_1_method_15_code
abbrev y_EditMoves_editLine : MethodName := ⟨"EditMoves", "editLine", "()I"⟩
def ws_EditMoves_editLine : List Cond := .code y_EditMoves_editLine b_EditMoves_editLine 1 (some .int) :: wAll
theorem d_EditMoves_editLine_0 : decode b_EditMoves_editLine 0 = .ok (.aload_n 0, 1) := by decide +kernel
theorem d_EditMoves_editLine_1 : decode b_EditMoves_editLine 1 = .ok (.aload_n 0, 1) := by decide +kernel
theorem d_EditMoves_editLine_2 : decode b_EditMoves_editLine 2 = .ok (.getfield 29, 3) := by decide +kernel
theorem d_EditMoves_editLine_5 : decode b_EditMoves_editLine 5 = .ok (.aload_n 0, 1) := by decide +kernel
theorem d_EditMoves_editLine_6 : decode b_EditMoves_editLine 6 = .ok (.getfield 22, 3) := by decide +kernel
theorem d_EditMoves_editLine_9 : decode b_EditMoves_editLine 9 = .ok (.aload_n 0, 1) := by decide +kernel
theorem d_EditMoves_editLine_10 : decode b_EditMoves_editLine 10 = .ok (.getfield 16, 3) := by decide +kernel
theorem d_EditMoves_editLine_13 : decode b_EditMoves_editLine 13 = .ok (.invokevirtual 115, 3) := by decide +kernel
theorem d_EditMoves_editLine_16 : decode b_EditMoves_editLine 16 = .ok (.putfield 60, 3) := by decide +kernel
theorem d_EditMoves_editLine_19 : decode b_EditMoves_editLine 19 = .ok (.aload_n 0, 1) := by decide +kernel
theorem d_EditMoves_editLine_20 : decode b_EditMoves_editLine 20 = .ok (.getfield 29, 3) := by decide +kernel
theorem d_EditMoves_editLine_23 : decode b_EditMoves_editLine 23 = .ok (.getfield 51, 3) := by decide +kernel
theorem d_EditMoves_editLine_26 : decode b_EditMoves_editLine 26 = .ok (.getfield 119, 3) := by decide +kernel
theorem d_EditMoves_editLine_29 : decode b_EditMoves_editLine 29 = .ok (.ireturn, 1) := by decide +kernel
abbrev b_EditMoves_editAmount : ByteArray := prog_1_method_16_code
abbrev y_EditMoves_editAmount : MethodName := ⟨"EditMoves", "editAmount", "()I"⟩
def ws_EditMoves_editAmount : List Cond := .code y_EditMoves_editAmount b_EditMoves_editAmount 2 (some .int) :: wAll
theorem d_EditMoves_editAmount_0 : decode b_EditMoves_editAmount 0 = .ok (.aload_n 0, 1) := by decide +kernel
theorem d_EditMoves_editAmount_1 : decode b_EditMoves_editAmount 1 = .ok (.getfield 29, 3) := by decide +kernel
theorem d_EditMoves_editAmount_4 : decode b_EditMoves_editAmount 4 = .ok (.getfield 122, 3) := by decide +kernel
theorem d_EditMoves_editAmount_7 : decode b_EditMoves_editAmount 7 = .ok (.astore_n 1, 1) := by decide +kernel
theorem d_EditMoves_editAmount_8 : decode b_EditMoves_editAmount 8 = .ok (.aload_n 1, 1) := by decide +kernel
theorem d_EditMoves_editAmount_9 : decode b_EditMoves_editAmount 9 = .ok (.aload_n 0, 1) := by decide +kernel
theorem d_EditMoves_editAmount_10 : decode b_EditMoves_editAmount 10 = .ok (.getfield 44, 3) := by decide +kernel
theorem d_EditMoves_editAmount_13 : decode b_EditMoves_editAmount 13 = .ok (.aload_n 0, 1) := by decide +kernel
theorem d_EditMoves_editAmount_14 : decode b_EditMoves_editAmount 14 = .ok (.getfield 48, 3) := by decide +kernel
theorem d_EditMoves_editAmount_17 : decode b_EditMoves_editAmount 17 = .ok (.aload_n 0, 1) := by decide +kernel
theorem d_EditMoves_editAmount_18 : decode b_EditMoves_editAmount 18 = .ok (.getfield 22, 3) := by decide +kernel
theorem d_EditMoves_editAmount_21 : decode b_EditMoves_editAmount 21 = .ok (.getfield 106, 3) := by decide +kernel
theorem d_EditMoves_editAmount_24 : decode b_EditMoves_editAmount 24 = .ok (.aload_n 0, 1) := by decide +kernel
theorem d_EditMoves_editAmount_25 : decode b_EditMoves_editAmount 25 = .ok (.getfield 22, 3) := by decide +kernel
theorem d_EditMoves_editAmount_28 : decode b_EditMoves_editAmount 28 = .ok (.getfield 109, 3) := by decide +kernel
theorem d_EditMoves_editAmount_31 : decode b_EditMoves_editAmount 31 = .ok (.invokevirtual 126, 3) := by decide +kernel
theorem d_EditMoves_editAmount_34 : decode b_EditMoves_editAmount 34 = .ok (.aload_n 0, 1) := by decide +kernel
theorem d_EditMoves_editAmount_35 : decode b_EditMoves_editAmount 35 = .ok (.aload_n 1, 1) := by decide +kernel
theorem d_EditMoves_editAmount_36 : decode b_EditMoves_editAmount 36 = .ok (.getfield 132, 3) := by decide +kernel
theorem d_EditMoves_editAmount_39 : decode b_EditMoves_editAmount 39 = .ok (.putfield 60, 3) := by decide +kernel
theorem d_EditMoves_editAmount_42 : decode b_EditMoves_editAmount 42 = .ok (.aload_n 0, 1) := by decide +kernel
theorem d_EditMoves_editAmount_43 : decode b_EditMoves_editAmount 43 = .ok (.getfield 100, 3) := by decide +kernel
theorem d_EditMoves_editAmount_46 : decode b_EditMoves_editAmount 46 = .ok (.ifCond .eq 12, 3) := by decide +kernel
theorem d_EditMoves_editAmount_49 : decode b_EditMoves_editAmount 49 = .ok (.aload_n 1, 1) := by decide +kernel
theorem d_EditMoves_editAmount_50 : decode b_EditMoves_editAmount 50 = .ok (.getfield 133, 3) := by decide +kernel
theorem d_EditMoves_editAmount_53 : decode b_EditMoves_editAmount 53 = .ok (.ifCond .eq 5, 3) := by decide +kernel
theorem d_EditMoves_editAmount_56 : decode b_EditMoves_editAmount 56 = .ok (.iconst (-1), 1) := by decide +kernel
theorem d_EditMoves_editAmount_57 : decode b_EditMoves_editAmount 57 = .ok (.ireturn, 1) := by decide +kernel
theorem d_EditMoves_editAmount_58 : decode b_EditMoves_editAmount 58 = .ok (.aload_n 0, 1) := by decide +kernel
theorem d_EditMoves_editAmount_59 : decode b_EditMoves_editAmount 59 = .ok (.getfield 29, 3) := by decide +kernel
theorem d_EditMoves_editAmount_62 : decode b_EditMoves_editAmount 62 = .ok (.aload_n 0, 1) := by decide +kernel
theorem d_EditMoves_editAmount_63 : decode b_EditMoves_editAmount 63 = .ok (.getfield 22, 3) := by decide +kernel
theorem d_EditMoves_editAmount_66 : decode b_EditMoves_editAmount 66 = .ok (.aload_n 0, 1) := by decide +kernel
theorem d_EditMoves_editAmount_67 : decode b_EditMoves_editAmount 67 = .ok (.getfield 96, 3) := by decide +kernel
theorem d_EditMoves_editAmount_70 : decode b_EditMoves_editAmount 70 = .ok (.invokevirtual 136, 3) := by decide +kernel
theorem d_EditMoves_editAmount_73 : decode b_EditMoves_editAmount 73 = .ok (.aload_n 0, 1) := by decide +kernel
theorem d_EditMoves_editAmount_74 : decode b_EditMoves_editAmount 74 = .ok (.getfield 29, 3) := by decide +kernel
theorem d_EditMoves_editAmount_77 : decode b_EditMoves_editAmount 77 = .ok (.getfield 51, 3) := by decide +kernel
theorem d_EditMoves_editAmount_80 : decode b_EditMoves_editAmount 80 = .ok (.getfield 119, 3) := by decide +kernel
theorem d_EditMoves_editAmount_83 : decode b_EditMoves_editAmount 83 = .ok (.ireturn, 1) := by decide +kernel
abbrev b_EditMoves_edit : ByteArray := prog_1_method_5_code
abbrev y_EditMoves_edit : MethodName := ⟨"EditMoves", "edit", "()I"⟩
def ws_EditMoves_edit : List Cond := .code y_EditMoves_edit b_EditMoves_edit 1 (some .int) :: wAll
theorem d_EditMoves_edit_0 : decode b_EditMoves_edit 0 = .ok (.aload_n 0, 1) := by decide +kernel
theorem d_EditMoves_edit_1 : decode b_EditMoves_edit 1 = .ok (.getfield 29, 3) := by decide +kernel
theorem d_EditMoves_edit_4 : decode b_EditMoves_edit 4 = .ok (.getfield 51, 3) := by decide +kernel
theorem d_EditMoves_edit_7 : decode b_EditMoves_edit 7 = .ok (.invokevirtual 55, 3) := by decide +kernel
theorem d_EditMoves_edit_10 : decode b_EditMoves_edit 10 = .ok (.aload_n 0, 1) := by decide +kernel
theorem d_EditMoves_edit_11 : decode b_EditMoves_edit 11 = .ok (.iconst 0, 1) := by decide +kernel
theorem d_EditMoves_edit_12 : decode b_EditMoves_edit 12 = .ok (.putfield 60, 3) := by decide +kernel
theorem d_EditMoves_edit_15 : decode b_EditMoves_edit 15 = .ok (.aload_n 0, 1) := by decide +kernel
theorem d_EditMoves_edit_16 : decode b_EditMoves_edit 16 = .ok (.getfield 22, 3) := by decide +kernel
theorem d_EditMoves_edit_19 : decode b_EditMoves_edit 19 = .ok (.aload_n 0, 1) := by decide +kernel
theorem d_EditMoves_edit_20 : decode b_EditMoves_edit 20 = .ok (.getfield 10, 3) := by decide +kernel
theorem d_EditMoves_edit_23 : decode b_EditMoves_edit 23 = .ok (.aload_n 0, 1) := by decide +kernel
theorem d_EditMoves_edit_24 : decode b_EditMoves_edit 24 = .ok (.getfield 33, 3) := by decide +kernel
theorem d_EditMoves_edit_27 : decode b_EditMoves_edit 27 = .ok (.invokevirtual 63, 3) := by decide +kernel
theorem d_EditMoves_edit_30 : decode b_EditMoves_edit 30 = .ok (.aload_n 0, 1) := by decide +kernel
theorem d_EditMoves_edit_31 : decode b_EditMoves_edit 31 = .ok (.getfield 22, 3) := by decide +kernel
theorem d_EditMoves_edit_34 : decode b_EditMoves_edit 34 = .ok (.getfield 67, 3) := by decide +kernel
theorem d_EditMoves_edit_37 : decode b_EditMoves_edit 37 = .ok (.ifCond .eq 16, 3) := by decide +kernel
theorem d_EditMoves_edit_40 : decode b_EditMoves_edit 40 = .ok (.aload_n 0, 1) := by decide +kernel
theorem d_EditMoves_edit_41 : decode b_EditMoves_edit 41 = .ok (.getfield 22, 3) := by decide +kernel
theorem d_EditMoves_edit_44 : decode b_EditMoves_edit 44 = .ok (.getfield 70, 3) := by decide +kernel
theorem d_EditMoves_edit_47 : decode b_EditMoves_edit 47 = .ok (.sipush 200, 3) := by decide +kernel
theorem d_EditMoves_edit_50 : decode b_EditMoves_edit 50 = .ok (.if_icmp .le 6, 3) := by decide +kernel
theorem d_EditMoves_edit_53 : decode b_EditMoves_edit 53 = .ok (.bipush (-2), 2) := by decide +kernel
theorem d_EditMoves_edit_55 : decode b_EditMoves_edit 55 = .ok (.ireturn, 1) := by decide +kernel
theorem d_EditMoves_edit_56 : decode b_EditMoves_edit 56 = .ok (.aload_n 0, 1) := by decide +kernel
theorem d_EditMoves_edit_57 : decode b_EditMoves_edit 57 = .ok (.getfield 22, 3) := by decide +kernel
theorem d_EditMoves_edit_60 : decode b_EditMoves_edit 60 = .ok (.getfield 67, 3) := by decide +kernel
theorem d_EditMoves_edit_63 : decode b_EditMoves_edit 63 = .ok (.iconst 2, 1) := by decide +kernel
theorem d_EditMoves_edit_64 : decode b_EditMoves_edit 64 = .ok (.if_icmp .ne 10, 3) := by decide +kernel
theorem d_EditMoves_edit_67 : decode b_EditMoves_edit 67 = .ok (.aload_n 0, 1) := by decide +kernel
theorem d_EditMoves_edit_68 : decode b_EditMoves_edit 68 = .ok (.invokevirtual 73, 3) := by decide +kernel
theorem d_EditMoves_edit_71 : decode b_EditMoves_edit 71 = .ok (.goto 7, 3) := by decide +kernel
theorem d_EditMoves_edit_74 : decode b_EditMoves_edit 74 = .ok (.aload_n 0, 1) := by decide +kernel
theorem d_EditMoves_edit_75 : decode b_EditMoves_edit 75 = .ok (.invokevirtual 77, 3) := by decide +kernel
theorem d_EditMoves_edit_78 : decode b_EditMoves_edit 78 = .ok (.ireturn, 1) := by decide +kernel
abbrev b_EditMoves_at : ByteArray := prog_1_method_6_code
abbrev y_EditMoves_at : MethodName := ⟨"EditMoves", "at", "(I)I"⟩
def ws_EditMoves_at : List Cond := .code y_EditMoves_at b_EditMoves_at 2 (some .int) :: wAll
theorem d_EditMoves_at_0 : decode b_EditMoves_at 0 = .ok (.aload_n 0, 1) := by decide +kernel
theorem d_EditMoves_at_1 : decode b_EditMoves_at 1 = .ok (.getfield 29, 3) := by decide +kernel
theorem d_EditMoves_at_4 : decode b_EditMoves_at 4 = .ok (.getfield 51, 3) := by decide +kernel
theorem d_EditMoves_at_7 : decode b_EditMoves_at 7 = .ok (.iload_n 1, 1) := by decide +kernel
theorem d_EditMoves_at_8 : decode b_EditMoves_at 8 = .ok (.invokevirtual 80, 3) := by decide +kernel
theorem d_EditMoves_at_11 : decode b_EditMoves_at 11 = .ok (.ireturn, 1) := by decide +kernel
abbrev b_EditMoves_back : ByteArray := prog_1_method_7_code
abbrev y_EditMoves_back : MethodName := ⟨"EditMoves", "back", "()I"⟩
def ws_EditMoves_back : List Cond := .code y_EditMoves_back b_EditMoves_back 1 (some .int) :: wAll
theorem d_EditMoves_back_0 : decode b_EditMoves_back 0 = .ok (.aload_n 0, 1) := by decide +kernel
theorem d_EditMoves_back_1 : decode b_EditMoves_back 1 = .ok (.getfield 29, 3) := by decide +kernel
theorem d_EditMoves_back_4 : decode b_EditMoves_back 4 = .ok (.getfield 51, 3) := by decide +kernel
theorem d_EditMoves_back_7 : decode b_EditMoves_back 7 = .ok (.getfield 84, 3) := by decide +kernel
theorem d_EditMoves_back_10 : decode b_EditMoves_back 10 = .ok (.iconst 1, 1) := by decide +kernel
theorem d_EditMoves_back_11 : decode b_EditMoves_back 11 = .ok (.if_icmp .eq 5, 3) := by decide +kernel
theorem d_EditMoves_back_14 : decode b_EditMoves_back 14 = .ok (.iconst 0, 1) := by decide +kernel
theorem d_EditMoves_back_15 : decode b_EditMoves_back 15 = .ok (.ireturn, 1) := by decide +kernel
theorem d_EditMoves_back_16 : decode b_EditMoves_back 16 = .ok (.aload_n 0, 1) := by decide +kernel
theorem d_EditMoves_back_17 : decode b_EditMoves_back 17 = .ok (.aload_n 0, 1) := by decide +kernel
theorem d_EditMoves_back_18 : decode b_EditMoves_back 18 = .ok (.getfield 29, 3) := by decide +kernel
theorem d_EditMoves_back_21 : decode b_EditMoves_back 21 = .ok (.getfield 51, 3) := by decide +kernel
theorem d_EditMoves_back_24 : decode b_EditMoves_back 24 = .ok (.invokevirtual 85, 3) := by decide +kernel
theorem d_EditMoves_back_27 : decode b_EditMoves_back 27 = .ok (.putfield 89, 3) := by decide +kernel
theorem d_EditMoves_back_30 : decode b_EditMoves_back 30 = .ok (.iconst 1, 1) := by decide +kernel
theorem d_EditMoves_back_31 : decode b_EditMoves_back 31 = .ok (.ireturn, 1) := by decide +kernel
abbrev b_EditMoves_number : ByteArray := prog_1_method_8_code
abbrev y_EditMoves_number : MethodName := ⟨"EditMoves", "number", "()J"⟩
def ws_EditMoves_number : List Cond := .code y_EditMoves_number b_EditMoves_number 1 (some .long) :: wAll
theorem d_EditMoves_number_0 : decode b_EditMoves_number 0 = .ok (.aload_n 0, 1) := by decide +kernel
theorem d_EditMoves_number_1 : decode b_EditMoves_number 1 = .ok (.getfield 89, 3) := by decide +kernel
theorem d_EditMoves_number_4 : decode b_EditMoves_number 4 = .ok (.lreturn, 1) := by decide +kernel
abbrev b_EditMoves_currency : ByteArray := prog_1_method_9_code
abbrev y_EditMoves_currency : MethodName := ⟨"EditMoves", "currency", "(IZ)I"⟩
def ws_EditMoves_currency : List Cond := .code y_EditMoves_currency b_EditMoves_currency 4 (some .int) :: wAll
theorem d_EditMoves_currency_0 : decode b_EditMoves_currency 0 = .ok (.iload_n 1, 1) := by decide +kernel
theorem d_EditMoves_currency_1 : decode b_EditMoves_currency 1 = .ok (.invokestatic 92, 3) := by decide +kernel
theorem d_EditMoves_currency_4 : decode b_EditMoves_currency 4 = .ok (.ifCond .ne 5, 3) := by decide +kernel
theorem d_EditMoves_currency_7 : decode b_EditMoves_currency 7 = .ok (.iconst (-1), 1) := by decide +kernel
theorem d_EditMoves_currency_8 : decode b_EditMoves_currency 8 = .ok (.ireturn, 1) := by decide +kernel
theorem d_EditMoves_currency_9 : decode b_EditMoves_currency 9 = .ok (.aload_n 0, 1) := by decide +kernel
theorem d_EditMoves_currency_10 : decode b_EditMoves_currency 10 = .ok (.getfield 33, 3) := by decide +kernel
theorem d_EditMoves_currency_13 : decode b_EditMoves_currency 13 = .ok (.istore_n 3, 1) := by decide +kernel
theorem d_EditMoves_currency_14 : decode b_EditMoves_currency 14 = .ok (.aload_n 0, 1) := by decide +kernel
theorem d_EditMoves_currency_15 : decode b_EditMoves_currency 15 = .ok (.iload_n 1, 1) := by decide +kernel
theorem d_EditMoves_currency_16 : decode b_EditMoves_currency 16 = .ok (.putfield 33, 3) := by decide +kernel
theorem d_EditMoves_currency_19 : decode b_EditMoves_currency 19 = .ok (.iload_n 3, 1) := by decide +kernel
theorem d_EditMoves_currency_20 : decode b_EditMoves_currency 20 = .ok (.ireturn, 1) := by decide +kernel
abbrev b_EditMoves_zero : ByteArray := prog_1_method_10_code
abbrev y_EditMoves_zero : MethodName := ⟨"EditMoves", "zero", "(Z)Z"⟩
def ws_EditMoves_zero : List Cond := .code y_EditMoves_zero b_EditMoves_zero 3 (some .boolean) :: wAll
theorem d_EditMoves_zero_0 : decode b_EditMoves_zero 0 = .ok (.aload_n 0, 1) := by decide +kernel
theorem d_EditMoves_zero_1 : decode b_EditMoves_zero 1 = .ok (.getfield 96, 3) := by decide +kernel
theorem d_EditMoves_zero_4 : decode b_EditMoves_zero 4 = .ok (.istore_n 2, 1) := by decide +kernel
theorem d_EditMoves_zero_5 : decode b_EditMoves_zero 5 = .ok (.aload_n 0, 1) := by decide +kernel
theorem d_EditMoves_zero_6 : decode b_EditMoves_zero 6 = .ok (.iload_n 1, 1) := by decide +kernel
theorem d_EditMoves_zero_7 : decode b_EditMoves_zero 7 = .ok (.putfield 96, 3) := by decide +kernel
theorem d_EditMoves_zero_10 : decode b_EditMoves_zero 10 = .ok (.iload_n 2, 1) := by decide +kernel
theorem d_EditMoves_zero_11 : decode b_EditMoves_zero 11 = .ok (.ireturn, 1) := by decide +kernel
abbrev b_EditMoves_size : ByteArray := prog_1_method_11_code
abbrev y_EditMoves_size : MethodName := ⟨"EditMoves", "size", "(Z)Z"⟩
def ws_EditMoves_size : List Cond := .code y_EditMoves_size b_EditMoves_size 3 (some .boolean) :: wAll
theorem d_EditMoves_size_0 : decode b_EditMoves_size 0 = .ok (.aload_n 0, 1) := by decide +kernel
theorem d_EditMoves_size_1 : decode b_EditMoves_size 1 = .ok (.getfield 100, 3) := by decide +kernel
theorem d_EditMoves_size_4 : decode b_EditMoves_size 4 = .ok (.istore_n 2, 1) := by decide +kernel
theorem d_EditMoves_size_5 : decode b_EditMoves_size 5 = .ok (.aload_n 0, 1) := by decide +kernel
theorem d_EditMoves_size_6 : decode b_EditMoves_size 6 = .ok (.iload_n 1, 1) := by decide +kernel
theorem d_EditMoves_size_7 : decode b_EditMoves_size 7 = .ok (.putfield 100, 3) := by decide +kernel
theorem d_EditMoves_size_10 : decode b_EditMoves_size 10 = .ok (.iload_n 2, 1) := by decide +kernel
theorem d_EditMoves_size_11 : decode b_EditMoves_size 11 = .ok (.ireturn, 1) := by decide +kernel
abbrev b_EditMoves_suppressed : ByteArray := prog_1_method_12_code
abbrev y_EditMoves_suppressed : MethodName := ⟨"EditMoves", "suppressed", "()I"⟩
def ws_EditMoves_suppressed : List Cond := .code y_EditMoves_suppressed b_EditMoves_suppressed 1 (some .int) :: wAll
theorem d_EditMoves_suppressed_0 : decode b_EditMoves_suppressed 0 = .ok (.aload_n 0, 1) := by decide +kernel
theorem d_EditMoves_suppressed_1 : decode b_EditMoves_suppressed 1 = .ok (.getfield 29, 3) := by decide +kernel
theorem d_EditMoves_suppressed_4 : decode b_EditMoves_suppressed 4 = .ok (.getfield 51, 3) := by decide +kernel
theorem d_EditMoves_suppressed_7 : decode b_EditMoves_suppressed 7 = .ok (.getfield 103, 3) := by decide +kernel
theorem d_EditMoves_suppressed_10 : decode b_EditMoves_suppressed 10 = .ok (.ireturn, 1) := by decide +kernel
abbrev b_EditMoves_cut : ByteArray := prog_1_method_13_code
abbrev y_EditMoves_cut : MethodName := ⟨"EditMoves", "cut", "()I"⟩
def ws_EditMoves_cut : List Cond := .code y_EditMoves_cut b_EditMoves_cut 1 (some .int) :: wAll
theorem d_EditMoves_cut_0 : decode b_EditMoves_cut 0 = .ok (.aload_n 0, 1) := by decide +kernel
theorem d_EditMoves_cut_1 : decode b_EditMoves_cut 1 = .ok (.getfield 60, 3) := by decide +kernel
theorem d_EditMoves_cut_4 : decode b_EditMoves_cut 4 = .ok (.ireturn, 1) := by decide +kernel
abbrev b_EditMoves_told : ByteArray := prog_1_method_14_code
abbrev y_EditMoves_told : MethodName := ⟨"EditMoves", "told", "(I)I"⟩
def ws_EditMoves_told : List Cond := .code y_EditMoves_told b_EditMoves_told 2 (some .int) :: wAll
theorem d_EditMoves_told_0 : decode b_EditMoves_told 0 = .ok (.aload_n 0, 1) := by decide +kernel
theorem d_EditMoves_told_1 : decode b_EditMoves_told 1 = .ok (.getfield 22, 3) := by decide +kernel
theorem d_EditMoves_told_4 : decode b_EditMoves_told 4 = .ok (.aload_n 0, 1) := by decide +kernel
theorem d_EditMoves_told_5 : decode b_EditMoves_told 5 = .ok (.getfield 10, 3) := by decide +kernel
theorem d_EditMoves_told_8 : decode b_EditMoves_told 8 = .ok (.aload_n 0, 1) := by decide +kernel
theorem d_EditMoves_told_9 : decode b_EditMoves_told 9 = .ok (.getfield 33, 3) := by decide +kernel
theorem d_EditMoves_told_12 : decode b_EditMoves_told 12 = .ok (.invokevirtual 63, 3) := by decide +kernel
theorem d_EditMoves_told_15 : decode b_EditMoves_told 15 = .ok (.iload_n 1, 1) := by decide +kernel
theorem d_EditMoves_told_16 : decode b_EditMoves_told 16 = .ok (.tableswitch 84 0 4 #[36, 44, 52, 60, 68], 36) := by decide +kernel
theorem d_EditMoves_told_52 : decode b_EditMoves_told 52 = .ok (.aload_n 0, 1) := by decide +kernel
theorem d_EditMoves_told_53 : decode b_EditMoves_told 53 = .ok (.getfield 22, 3) := by decide +kernel
theorem d_EditMoves_told_56 : decode b_EditMoves_told 56 = .ok (.getfield 67, 3) := by decide +kernel
theorem d_EditMoves_told_59 : decode b_EditMoves_told 59 = .ok (.ireturn, 1) := by decide +kernel
theorem d_EditMoves_told_60 : decode b_EditMoves_told 60 = .ok (.aload_n 0, 1) := by decide +kernel
theorem d_EditMoves_told_61 : decode b_EditMoves_told 61 = .ok (.getfield 22, 3) := by decide +kernel
theorem d_EditMoves_told_64 : decode b_EditMoves_told 64 = .ok (.getfield 106, 3) := by decide +kernel
theorem d_EditMoves_told_67 : decode b_EditMoves_told 67 = .ok (.ireturn, 1) := by decide +kernel
theorem d_EditMoves_told_68 : decode b_EditMoves_told 68 = .ok (.aload_n 0, 1) := by decide +kernel
theorem d_EditMoves_told_69 : decode b_EditMoves_told 69 = .ok (.getfield 22, 3) := by decide +kernel
theorem d_EditMoves_told_72 : decode b_EditMoves_told 72 = .ok (.getfield 109, 3) := by decide +kernel
theorem d_EditMoves_told_75 : decode b_EditMoves_told 75 = .ok (.ireturn, 1) := by decide +kernel
theorem d_EditMoves_told_76 : decode b_EditMoves_told 76 = .ok (.aload_n 0, 1) := by decide +kernel
theorem d_EditMoves_told_77 : decode b_EditMoves_told 77 = .ok (.getfield 22, 3) := by decide +kernel
theorem d_EditMoves_told_80 : decode b_EditMoves_told 80 = .ok (.getfield 70, 3) := by decide +kernel
theorem d_EditMoves_told_83 : decode b_EditMoves_told 83 = .ok (.ireturn, 1) := by decide +kernel
theorem d_EditMoves_told_84 : decode b_EditMoves_told 84 = .ok (.aload_n 0, 1) := by decide +kernel
theorem d_EditMoves_told_85 : decode b_EditMoves_told 85 = .ok (.getfield 22, 3) := by decide +kernel
theorem d_EditMoves_told_88 : decode b_EditMoves_told 88 = .ok (.getfield 112, 3) := by decide +kernel
theorem d_EditMoves_told_91 : decode b_EditMoves_told 91 = .ok (.ifCond .eq 7, 3) := by decide +kernel
theorem d_EditMoves_told_94 : decode b_EditMoves_told 94 = .ok (.iconst 1, 1) := by decide +kernel
theorem d_EditMoves_told_95 : decode b_EditMoves_told 95 = .ok (.goto 4, 3) := by decide +kernel
theorem d_EditMoves_told_98 : decode b_EditMoves_told 98 = .ok (.iconst 0, 1) := by decide +kernel
theorem d_EditMoves_told_99 : decode b_EditMoves_told 99 = .ok (.ireturn, 1) := by decide +kernel
theorem d_EditMoves_told_100 : decode b_EditMoves_told 100 = .ok (.iconst (-1), 1) := by decide +kernel
theorem d_EditMoves_told_101 : decode b_EditMoves_told 101 = .ok (.ireturn, 1) := by decide +kernel
