theorem tw_19 : (.methodLink "EditMoves" 1 ⟨"java/lang/Object", "<init>", "()V"⟩ : Cond) ∈ wAll := wA_t 19 (by decide +kernel) rfl
theorem tw_20 : (.instanceMethod ⟨"java/lang/Object", "<init>", "()V"⟩ : Cond) ∈ wAll := wA_t 20 (by decide +kernel) rfl
theorem tw_21 : (.code ⟨"java/lang/Object", "<init>", "()V"⟩ object_method_1_code 1 none : Cond) ∈ wAll := wA_t 21 (by decide +kernel) rfl
theorem tw_22 : (.classLink "EditMoves" 7 "EditMoves$Line" : Cond) ∈ wAll := wA_t 22 (by decide +kernel) rfl
theorem tw_23 : (.instantiable "EditMoves$Line" 2 : Cond) ∈ wAll := wA_t 23 (by decide +kernel) rfl
theorem tw_24 : (.methodLink "EditMoves" 9 ⟨"EditMoves$Line", "<init>", "()V"⟩ : Cond) ∈ wAll := wA_t 24 (by decide +kernel) rfl
theorem tw_25 : (.instanceMethod ⟨"EditMoves$Line", "<init>", "()V"⟩ : Cond) ∈ wAll := wA_t 25 (by decide +kernel) rfl
theorem tw_26 : (.code ⟨"EditMoves$Line", "<init>", "()V"⟩ prog_4_method_1_code 1 none : Cond) ∈ wAll := wA_t 26 (by decide +kernel) rfl
theorem tw_27 : (.methodLink "EditMoves$Line" 1 ⟨"java/lang/Object", "<init>", "()V"⟩ : Cond) ∈ wAll := wA_t 27 (by decide +kernel) rfl
theorem tw_37 : (.arrayClass .int : Cond) ∈ wAll := wA_t 37 (by decide +kernel) rfl
theorem tw_38 : (.classLink "EditMoves" 19 "EditMoves$Picture" : Cond) ∈ wAll := wA_t 38 (by decide +kernel) rfl
theorem tw_39 : (.instantiable "EditMoves$Picture" 11 : Cond) ∈ wAll := wA_t 39 (by decide +kernel) rfl
theorem tw_40 : (.methodLink "EditMoves" 21 ⟨"EditMoves$Picture", "<init>", "()V"⟩ : Cond) ∈ wAll := wA_t 40 (by decide +kernel) rfl
theorem tw_41 : (.instanceMethod ⟨"EditMoves$Picture", "<init>", "()V"⟩ : Cond) ∈ wAll := wA_t 41 (by decide +kernel) rfl
theorem tw_42 : (.code ⟨"EditMoves$Picture", "<init>", "()V"⟩ prog_5_method_1_code 1 none : Cond) ∈ wAll := wA_t 42 (by decide +kernel) rfl
theorem tw_43 : (.methodLink "EditMoves$Picture" 1 ⟨"java/lang/Object", "<init>", "()V"⟩ : Cond) ∈ wAll := wA_t 43 (by decide +kernel) rfl
theorem tw_87 : (.classLink "EditMoves" 26 "EditMoves$Editor" : Cond) ∈ wAll := wA_t 87 (by decide +kernel) rfl
theorem tw_88 : (.instantiable "EditMoves$Editor" 6 : Cond) ∈ wAll := wA_t 88 (by decide +kernel) rfl
theorem tw_89 : (.methodLink "EditMoves" 28 ⟨"EditMoves$Editor", "<init>", "()V"⟩ : Cond) ∈ wAll := wA_t 89 (by decide +kernel) rfl
theorem tw_90 : (.instanceMethod ⟨"EditMoves$Editor", "<init>", "()V"⟩ : Cond) ∈ wAll := wA_t 90 (by decide +kernel) rfl
theorem tw_91 : (.code ⟨"EditMoves$Editor", "<init>", "()V"⟩ prog_3_method_1_code 1 none : Cond) ∈ wAll := wA_t 91 (by decide +kernel) rfl
theorem tw_92 : (.methodLink "EditMoves$Editor" 1 ⟨"java/lang/Object", "<init>", "()V"⟩ : Cond) ∈ wAll := wA_t 92 (by decide +kernel) rfl
theorem tw_93 : (.classLink "EditMoves$Editor" 7 "EditMoves$Digits" : Cond) ∈ wAll := wA_t 93 (by decide +kernel) rfl
theorem tw_94 : (.instantiable "EditMoves$Digits" 5 : Cond) ∈ wAll := wA_t 94 (by decide +kernel) rfl
theorem tw_95 : (.methodLink "EditMoves$Editor" 9 ⟨"EditMoves$Digits", "<init>", "()V"⟩ : Cond) ∈ wAll := wA_t 95 (by decide +kernel) rfl
theorem tw_96 : (.instanceMethod ⟨"EditMoves$Digits", "<init>", "()V"⟩ : Cond) ∈ wAll := wA_t 96 (by decide +kernel) rfl
theorem tw_97 : (.code ⟨"EditMoves$Digits", "<init>", "()V"⟩ prog_2_method_1_code 1 none : Cond) ∈ wAll := wA_t 97 (by decide +kernel) rfl
theorem tw_98 : (.methodLink "EditMoves$Digits" 1 ⟨"java/lang/Object", "<init>", "()V"⟩ : Cond) ∈ wAll := wA_t 98 (by decide +kernel) rfl
theorem tw_119 : (.classLink "EditMoves$Editor" 16 "EditMoves$Result" : Cond) ∈ wAll := wA_t 119 (by decide +kernel) rfl
theorem tw_120 : (.instantiable "EditMoves$Result" 5 : Cond) ∈ wAll := wA_t 120 (by decide +kernel) rfl
theorem tw_121 : (.methodLink "EditMoves$Editor" 18 ⟨"EditMoves$Result", "<init>", "()V"⟩ : Cond) ∈ wAll := wA_t 121 (by decide +kernel) rfl
theorem tw_122 : (.instanceMethod ⟨"EditMoves$Result", "<init>", "()V"⟩ : Cond) ∈ wAll := wA_t 122 (by decide +kernel) rfl
theorem tw_123 : (.code ⟨"EditMoves$Result", "<init>", "()V"⟩ prog_6_method_1_code 1 none : Cond) ∈ wAll := wA_t 123 (by decide +kernel) rfl
theorem tw_124 : (.methodLink "EditMoves$Result" 3 ⟨"java/lang/Object", "<init>", "()V"⟩ : Cond) ∈ wAll := wA_t 124 (by decide +kernel) rfl
theorem tw_145 : (.arrayClass .boolean : Cond) ∈ wAll := wA_t 145 (by decide +kernel) rfl
theorem tw_537 : (.methodLink "EditMovesModel" 1 ⟨"java/lang/Object", "<init>", "()V"⟩ : Cond) ∈ wAll := wA_t 537 (by decide +kernel) rfl
abbrev b_Line_init : ByteArray := prog_4_method_1_code
abbrev y_Line_init : MethodName := ⟨"EditMoves$Line", "<init>", "()V"⟩
def ws_Line_init : List Cond := .code y_Line_init b_Line_init 1 none :: wAll
theorem d_Line_init_0 : decode b_Line_init 0 = .ok (.aload_n 0, 1) := by decide +kernel
theorem d_Line_init_1 : decode b_Line_init 1 = .ok (.invokespecial 1, 3) := by decide +kernel
theorem d_Line_init_4 : decode b_Line_init 4 = .ok (.aload_n 0, 1) := by decide +kernel
theorem d_Line_init_5 : decode b_Line_init 5 = .ok (.bipush 60, 2) := by decide +kernel
theorem d_Line_init_7 : decode b_Line_init 7 = .ok (.newarray .int, 2) := by decide +kernel
theorem d_Line_init_9 : decode b_Line_init 9 = .ok (.putfield 9, 3) := by decide +kernel
theorem d_Line_init_12 : decode b_Line_init 12 = .ok (.return_, 1) := by decide +kernel
abbrev b_Picture_init : ByteArray := prog_5_method_1_code
abbrev y_Picture_init : MethodName := ⟨"EditMoves$Picture", "<init>", "()V"⟩
def ws_Picture_init : List Cond := .code y_Picture_init b_Picture_init 1 none :: wAll
theorem d_Picture_init_0 : decode b_Picture_init 0 = .ok (.aload_n 0, 1) := by decide +kernel
theorem d_Picture_init_1 : decode b_Picture_init 1 = .ok (.invokespecial 1, 3) := by decide +kernel
theorem d_Picture_init_4 : decode b_Picture_init 4 = .ok (.aload_n 0, 1) := by decide +kernel
theorem d_Picture_init_5 : decode b_Picture_init 5 = .ok (.bipush 60, 2) := by decide +kernel
theorem d_Picture_init_7 : decode b_Picture_init 7 = .ok (.newarray .int, 2) := by decide +kernel
theorem d_Picture_init_9 : decode b_Picture_init 9 = .ok (.putfield 9, 3) := by decide +kernel
theorem d_Picture_init_12 : decode b_Picture_init 12 = .ok (.aload_n 0, 1) := by decide +kernel
theorem d_Picture_init_13 : decode b_Picture_init 13 = .ok (.bipush 60, 2) := by decide +kernel
theorem d_Picture_init_15 : decode b_Picture_init 15 = .ok (.newarray .int, 2) := by decide +kernel
theorem d_Picture_init_17 : decode b_Picture_init 17 = .ok (.putfield 15, 3) := by decide +kernel
theorem d_Picture_init_20 : decode b_Picture_init 20 = .ok (.return_, 1) := by decide +kernel
abbrev b_Digits_init : ByteArray := prog_2_method_1_code
abbrev y_Digits_init : MethodName := ⟨"EditMoves$Digits", "<init>", "()V"⟩
def ws_Digits_init : List Cond := .code y_Digits_init b_Digits_init 1 none :: wAll
theorem d_Digits_init_0 : decode b_Digits_init 0 = .ok (.aload_n 0, 1) := by decide +kernel
theorem d_Digits_init_1 : decode b_Digits_init 1 = .ok (.invokespecial 1, 3) := by decide +kernel
theorem d_Digits_init_4 : decode b_Digits_init 4 = .ok (.aload_n 0, 1) := by decide +kernel
theorem d_Digits_init_5 : decode b_Digits_init 5 = .ok (.bipush 18, 2) := by decide +kernel
theorem d_Digits_init_7 : decode b_Digits_init 7 = .ok (.newarray .int, 2) := by decide +kernel
theorem d_Digits_init_9 : decode b_Digits_init 9 = .ok (.putfield 9, 3) := by decide +kernel
theorem d_Digits_init_12 : decode b_Digits_init 12 = .ok (.return_, 1) := by decide +kernel
abbrev b_Result_init : ByteArray := prog_6_method_1_code
abbrev y_Result_init : MethodName := ⟨"EditMoves$Result", "<init>", "()V"⟩
def ws_Result_init : List Cond := .code y_Result_init b_Result_init 1 none :: wAll
theorem d_Result_init_0 : decode b_Result_init 0 = .ok (.aload_n 0, 1) := by decide +kernel
theorem d_Result_init_1 : decode b_Result_init 1 = .ok (.invokespecial 3, 3) := by decide +kernel
theorem d_Result_init_4 : decode b_Result_init 4 = .ok (.aload_n 0, 1) := by decide +kernel
theorem d_Result_init_5 : decode b_Result_init 5 = .ok (.sipush 200, 3) := by decide +kernel
theorem d_Result_init_8 : decode b_Result_init 8 = .ok (.newarray .int, 2) := by decide +kernel
theorem d_Result_init_10 : decode b_Result_init 10 = .ok (.putfield 11, 3) := by decide +kernel
theorem d_Result_init_13 : decode b_Result_init 13 = .ok (.aload_n 0, 1) := by decide +kernel
theorem d_Result_init_14 : decode b_Result_init 14 = .ok (.sipush 200, 3) := by decide +kernel
theorem d_Result_init_17 : decode b_Result_init 17 = .ok (.newarray .boolean, 2) := by decide +kernel
theorem d_Result_init_19 : decode b_Result_init 19 = .ok (.putfield 15, 3) := by decide +kernel
theorem d_Result_init_22 : decode b_Result_init 22 = .ok (.return_, 1) := by decide +kernel
abbrev b_Editor_init : ByteArray := prog_3_method_1_code
abbrev y_Editor_init : MethodName := ⟨"EditMoves$Editor", "<init>", "()V"⟩
def ws_Editor_init : List Cond := .code y_Editor_init b_Editor_init 1 none :: wAll
theorem d_Editor_init_0 : decode b_Editor_init 0 = .ok (.aload_n 0, 1) := by decide +kernel
theorem d_Editor_init_1 : decode b_Editor_init 1 = .ok (.invokespecial 1, 3) := by decide +kernel
theorem d_Editor_init_4 : decode b_Editor_init 4 = .ok (.aload_n 0, 1) := by decide +kernel
theorem d_Editor_init_5 : decode b_Editor_init 5 = .ok (.new 7, 3) := by decide +kernel
theorem d_Editor_init_8 : decode b_Editor_init 8 = .ok (.dup, 1) := by decide +kernel
theorem d_Editor_init_9 : decode b_Editor_init 9 = .ok (.invokespecial 9, 3) := by decide +kernel
theorem d_Editor_init_12 : decode b_Editor_init 12 = .ok (.putfield 10, 3) := by decide +kernel
theorem d_Editor_init_15 : decode b_Editor_init 15 = .ok (.aload_n 0, 1) := by decide +kernel
theorem d_Editor_init_16 : decode b_Editor_init 16 = .ok (.new 16, 3) := by decide +kernel
theorem d_Editor_init_19 : decode b_Editor_init 19 = .ok (.dup, 1) := by decide +kernel
theorem d_Editor_init_20 : decode b_Editor_init 20 = .ok (.invokespecial 18, 3) := by decide +kernel
theorem d_Editor_init_23 : decode b_Editor_init 23 = .ok (.putfield 19, 3) := by decide +kernel
theorem d_Editor_init_26 : decode b_Editor_init 26 = .ok (.return_, 1) := by decide +kernel
abbrev b_EditMoves_init : ByteArray := prog_1_method_1_code
abbrev y_EditMoves_init : MethodName := ⟨"EditMoves", "<init>", "()V"⟩
def ws_EditMoves_init : List Cond := .code y_EditMoves_init b_EditMoves_init 1 none :: wAll
theorem d_EditMoves_init_0 : decode b_EditMoves_init 0 = .ok (.aload_n 0, 1) := by decide +kernel
theorem d_EditMoves_init_1 : decode b_EditMoves_init 1 = .ok (.invokespecial 1, 3) := by decide +kernel
theorem d_EditMoves_init_4 : decode b_EditMoves_init 4 = .ok (.aload_n 0, 1) := by decide +kernel
theorem d_EditMoves_init_5 : decode b_EditMoves_init 5 = .ok (.new 7, 3) := by decide +kernel
theorem d_EditMoves_init_8 : decode b_EditMoves_init 8 = .ok (.dup, 1) := by decide +kernel
theorem d_EditMoves_init_9 : decode b_EditMoves_init 9 = .ok (.invokespecial 9, 3) := by decide +kernel
theorem d_EditMoves_init_12 : decode b_EditMoves_init 12 = .ok (.putfield 10, 3) := by decide +kernel
theorem d_EditMoves_init_15 : decode b_EditMoves_init 15 = .ok (.aload_n 0, 1) := by decide +kernel
theorem d_EditMoves_init_16 : decode b_EditMoves_init 16 = .ok (.new 7, 3) := by decide +kernel
theorem d_EditMoves_init_19 : decode b_EditMoves_init 19 = .ok (.dup, 1) := by decide +kernel
theorem d_EditMoves_init_20 : decode b_EditMoves_init 20 = .ok (.invokespecial 9, 3) := by decide +kernel
theorem d_EditMoves_init_23 : decode b_EditMoves_init 23 = .ok (.putfield 16, 3) := by decide +kernel
theorem d_EditMoves_init_26 : decode b_EditMoves_init 26 = .ok (.aload_n 0, 1) := by decide +kernel
theorem d_EditMoves_init_27 : decode b_EditMoves_init 27 = .ok (.new 19, 3) := by decide +kernel
theorem d_EditMoves_init_30 : decode b_EditMoves_init 30 = .ok (.dup, 1) := by decide +kernel
theorem d_EditMoves_init_31 : decode b_EditMoves_init 31 = .ok (.invokespecial 21, 3) := by decide +kernel
theorem d_EditMoves_init_34 : decode b_EditMoves_init 34 = .ok (.putfield 22, 3) := by decide +kernel
theorem d_EditMoves_init_37 : decode b_EditMoves_init 37 = .ok (.aload_n 0, 1) := by decide +kernel
theorem d_EditMoves_init_38 : decode b_EditMoves_init 38 = .ok (.new 26, 3) := by decide +kernel
theorem d_EditMoves_init_41 : decode b_EditMoves_init 41 = .ok (.dup, 1) := by decide +kernel
theorem d_EditMoves_init_42 : decode b_EditMoves_init 42 = .ok (.invokespecial 28, 3) := by decide +kernel
theorem d_EditMoves_init_45 : decode b_EditMoves_init 45 = .ok (.putfield 29, 3) := by decide +kernel
theorem d_EditMoves_init_48 : decode b_EditMoves_init 48 = .ok (.aload_n 0, 1) := by decide +kernel
theorem d_EditMoves_init_49 : decode b_EditMoves_init 49 = .ok (.bipush 36, 2) := by decide +kernel
theorem d_EditMoves_init_51 : decode b_EditMoves_init 51 = .ok (.putfield 33, 3) := by decide +kernel
theorem d_EditMoves_init_54 : decode b_EditMoves_init 54 = .ok (.return_, 1) := by decide +kernel
abbrev b_EditMovesModel_init : ByteArray := prog_8_method_1_code
abbrev y_EditMovesModel_init : MethodName := ⟨"EditMovesModel", "<init>", "()V"⟩
def ws_EditMovesModel_init : List Cond := .code y_EditMovesModel_init b_EditMovesModel_init 1 none :: wAll
theorem d_EditMovesModel_init_0 : decode b_EditMovesModel_init 0 = .ok (.aload_n 0, 1) := by decide +kernel
theorem d_EditMovesModel_init_1 : decode b_EditMovesModel_init 1 = .ok (.invokespecial 1, 3) := by decide +kernel
theorem d_EditMovesModel_init_4 : decode b_EditMovesModel_init 4 = .ok (.aload_n 0, 1) := by decide +kernel
theorem d_EditMovesModel_init_5 : decode b_EditMovesModel_init 5 = .ok (.bipush 60, 2) := by decide +kernel
theorem d_EditMovesModel_init_7 : decode b_EditMovesModel_init 7 = .ok (.newarray .int, 2) := by decide +kernel
theorem d_EditMovesModel_init_9 : decode b_EditMovesModel_init 9 = .ok (.putfield 7, 3) := by decide +kernel
theorem d_EditMovesModel_init_12 : decode b_EditMovesModel_init 12 = .ok (.aload_n 0, 1) := by decide +kernel
theorem d_EditMovesModel_init_13 : decode b_EditMovesModel_init 13 = .ok (.bipush 60, 2) := by decide +kernel
theorem d_EditMovesModel_init_15 : decode b_EditMovesModel_init 15 = .ok (.newarray .int, 2) := by decide +kernel
theorem d_EditMovesModel_init_17 : decode b_EditMovesModel_init 17 = .ok (.putfield 13, 3) := by decide +kernel
theorem d_EditMovesModel_init_20 : decode b_EditMovesModel_init 20 = .ok (.aload_n 0, 1) := by decide +kernel
theorem d_EditMovesModel_init_21 : decode b_EditMovesModel_init 21 = .ok (.bipush 36, 2) := by decide +kernel
theorem d_EditMovesModel_init_23 : decode b_EditMovesModel_init 23 = .ok (.putfield 16, 3) := by decide +kernel
theorem d_EditMovesModel_init_26 : decode b_EditMovesModel_init 26 = .ok (.aload_n 0, 1) := by decide +kernel
theorem d_EditMovesModel_init_27 : decode b_EditMovesModel_init 27 = .ok (.sipush 1400, 3) := by decide +kernel
theorem d_EditMovesModel_init_30 : decode b_EditMovesModel_init 30 = .ok (.newarray .int, 2) := by decide +kernel
theorem d_EditMovesModel_init_32 : decode b_EditMovesModel_init 32 = .ok (.putfield 20, 3) := by decide +kernel
theorem d_EditMovesModel_init_35 : decode b_EditMovesModel_init 35 = .ok (.aload_n 0, 1) := by decide +kernel
theorem d_EditMovesModel_init_36 : decode b_EditMovesModel_init 36 = .ok (.sipush 200, 3) := by decide +kernel
theorem d_EditMovesModel_init_39 : decode b_EditMovesModel_init 39 = .ok (.newarray .int, 2) := by decide +kernel
theorem d_EditMovesModel_init_41 : decode b_EditMovesModel_init 41 = .ok (.putfield 23, 3) := by decide +kernel
theorem d_EditMovesModel_init_44 : decode b_EditMovesModel_init 44 = .ok (.aload_n 0, 1) := by decide +kernel
theorem d_EditMovesModel_init_45 : decode b_EditMovesModel_init 45 = .ok (.iconst (-1), 1) := by decide +kernel
theorem d_EditMovesModel_init_46 : decode b_EditMovesModel_init 46 = .ok (.putfield 26, 3) := by decide +kernel
theorem d_EditMovesModel_init_49 : decode b_EditMovesModel_init 49 = .ok (.aload_n 0, 1) := by decide +kernel
theorem d_EditMovesModel_init_50 : decode b_EditMovesModel_init 50 = .ok (.bipush 18, 2) := by decide +kernel
theorem d_EditMovesModel_init_52 : decode b_EditMovesModel_init 52 = .ok (.newarray .int, 2) := by decide +kernel
theorem d_EditMovesModel_init_54 : decode b_EditMovesModel_init 54 = .ok (.putfield 29, 3) := by decide +kernel
theorem d_EditMovesModel_init_57 : decode b_EditMovesModel_init 57 = .ok (.aload_n 0, 1) := by decide +kernel
theorem d_EditMovesModel_init_58 : decode b_EditMovesModel_init 58 = .ok (.bipush 40, 2) := by decide +kernel
theorem d_EditMovesModel_init_60 : decode b_EditMovesModel_init 60 = .ok (.newarray .int, 2) := by decide +kernel
theorem d_EditMovesModel_init_62 : decode b_EditMovesModel_init 62 = .ok (.putfield 32, 3) := by decide +kernel
theorem d_EditMovesModel_init_65 : decode b_EditMovesModel_init 65 = .ok (.aload_n 0, 1) := by decide +kernel
theorem d_EditMovesModel_init_66 : decode b_EditMovesModel_init 66 = .ok (.bipush 18, 2) := by decide +kernel
theorem d_EditMovesModel_init_68 : decode b_EditMovesModel_init 68 = .ok (.newarray .int, 2) := by decide +kernel
theorem d_EditMovesModel_init_70 : decode b_EditMovesModel_init 70 = .ok (.putfield 35, 3) := by decide +kernel
theorem d_EditMovesModel_init_73 : decode b_EditMovesModel_init 73 = .ok (.return_, 1) := by decide +kernel
abbrev rm_Line_init : Room := { frames := 1, cells := 1, slots := 60, locals := 12 }
set_option maxHeartbeats 4000000 in
set_option maxRecDepth 100000 in
theorem c_Line_init (l : Launch) (dC : Nat → ClassId) (dI : Nat → Nat → Nat) (cI cZ : ClassId) (z : zT) (h_t sz : Nat) : Met l y_Line_init ws_Line_init rm_Line_init (wP (dC, dI) vwCl [(cI, .int), (cZ, .boolean)] z [.ref h_t] [(h_t, .inr (2, [.null, .int 0]))] sz) (va_Qv (fun (_ : Nat) => True) (fun u t => va_P (dC, dI) vwCl [(h_t, .inr (2, [.ref u, .int 0])), (u, .inl (cI, 60, .inl (fun _ => 0)))] t.heap ∧ va_K (dC, dI) vwCl [(cI, .int), (cZ, .boolean)] t ∧ va_D (va_A [(h_t, .inr (2, [.null, .int 0]))] sz) [(h_t, .inr (2, [.ref u, .int 0])), (u, .inl (cI, 60, .inl (fun _ => 0)))]) (va_A [(h_t, .inr (2, [.null, .int 0]))] sz)) 1 60 (va_A [(h_t, .inr (2, [.null, .int 0]))] sz) := by
  refine Met.ofW (cc := b_Line_init) (maxL := 1) (ret := none) (by decide) rfl ?_
  intro p e s m args below meth c s₁ B hml hv
  obtain ⟨rfl, hsz, hP, hK, hD0, hZ⟩ := hv
  have hx := B.exec
  have hb := B.bytes
  have hr := B.returns
  have hts := atoms_spec (ws := ws_Line_init) B.pre
  have hown : s.vm.findClass RX2 = some m.cls := findClass_of_methodNamed B.named
  have hlocks := B.notSynchronized
  have hin : meth.name = "<init>" := (name_of_methodNamed B.named B.method).1
  subst hsz
  have hD := hD0.self (sz := s.heap.size)
  generalize hAe : va_A [(h_t, .inr (2, [.null, .int 0]))] s.heap.size = A at hD hZ ⊢
  have hA : ∀ q : Nat, s.heap.size ≤ q → A q := fun q h => by rw [← hAe]; exact Or.inr h
  have hS : va_S A s.heap s.heap [] := va_S.rf
  have hP : va_P (dC, dI) vwCl [(h_t, .inr (2, [.null, .int 0]))] s.heap := hP
  have hl := lv_entry [.ref h_t] (n := 1) (Nat.le_of_ble_eq_true rfl)
  rw [lg_entry_eq]
  generalize (lg_sl [.ref h_t] ++ List.replicate (1 - (lg_sl [.ref h_t]).length) Slot.unset).toArray = ls at hl ⊢
  have hl : lv_has ls 1 [(0, .ref h_t)] := hl
  refine lv_aload_n hx hb d_Line_init_0 rfl (lv_at hl 0 rfl) ?_
  refine W.objInit hx hb hown (hts _ (List.mem_cons_of_mem _ tw_27)) (hts _ (List.mem_cons_of_mem _ tw_20)) (hts _ (List.mem_cons_of_mem _ tw_21)) rfl (by rw [hml]; exact hl.1) rfl d_Line_init_1 (Nat.le_of_ble_eq_true rfl) (Nat.le_of_ble_eq_true rfl) ?_
  refine W.eq (g2 := F0 m 4 ls []) rfl ?_
  refine lv_aload_n hx hb d_Line_init_4 rfl (lv_at hl 0 rfl) ?_
  refine lv_bipush (v := (60)) hx hb d_Line_init_5 (by decide) ?_
  refine va_newa (atype := .int) (ty := .int) (a0 := (60, .inl (fun _ => 0))) (N' := 60) hx hb (hts _ (List.mem_cons_of_mem _ tw_37)) rfl hK hP hD hS hA (fun cA => rfl) (by decide) (by decide) (by decide) (Nat.le_of_ble_eq_true rfl) (Nat.le_of_ble_eq_true rfl) d_Line_init_7 (fun h_t_row cA H hK1 hP hD hS => ?_)
  obtain rfl := (wsame_i hK1 0 2 rfl rfl).symm
  have hP : va_P (dC, dI) vwCl [(h_t, .inr (2, [.null, .int 0])), (h_t_row, .inl (cI, 60, .inl (fun _ => 0)))] H := hP
  have hD : va_D A [(h_t, .inr (2, [.null, .int 0])), (h_t_row, .inl (cI, 60, .inl (fun _ => 0)))] := hD
  refine W.widen (k := 1) (n := 60) (by decide) (by decide) ?_
  refine va_putF (D := (dC, dI)) (ci := 2) (v := .ref h_t_row) (ty := tyX2 0) (C := RX2) (T := TX2) (N := 2) hx hb hts (fun w h => List.mem_cons_of_mem _ (tu_2 w h)) tyX2 tyX2_ok nmX2 hown hK hP hD hS 0 rfl rfl 0 (by decide) (hts _ (List.mem_cons_of_mem _ tw_28)) (fun _ h9 => h9) rfl hin rfl (tyX2_ok 0 (by decide)) rfl rfl (Nat.le_of_ble_eq_true rfl) d_Line_init_9 (fun H locs hP hD hS => ?_)
  have hP : va_P (dC, dI) vwCl [(h_t, .inr (2, [.ref h_t_row, .int 0])), (h_t_row, .inl (cI, 60, .inl (fun _ => 0)))] H := hP
  have hD : va_D A [(h_t, .inr (2, [.ref h_t_row, .int 0])), (h_t_row, .inl (cI, 60, .inl (fun _ => 0)))] := hD
  have hP9 := hP.sub (ws' := [(h_t, .inr (2, [.ref h_t_row, .int 0])), (h_t_row, .inl (cI, 60, .inl (fun _ => 0)))]) [0, 1] rfl
  have hD9 := hD.sub (ws' := [(h_t, .inr (2, [.ref h_t_row, .int 0])), (h_t_row, .inl (cI, 60, .inl (fun _ => 0)))]) [0, 1] (by decide) rfl
  exact W.vret hx hb hr (fun t ht hW => ⟨⟨h_t_row, rfl, trivial, by rw [ht]; exact hP9, va_K.moved hW.alike hK, hD9⟩, hS.F ht⟩) hS.2.2 d_Line_init_12
abbrev rm_Picture_init : Room := { frames := 1, cells := 2, slots := 120, locals := 12 }
set_option maxHeartbeats 4000000 in
set_option maxRecDepth 100000 in
theorem c_Picture_init (l : Launch) (dC : Nat → ClassId) (dI : Nat → Nat → Nat) (cI cZ : ClassId) (z : zT) (h_t sz : Nat) : Met l y_Picture_init ws_Picture_init rm_Picture_init (wP (dC, dI) vwCl [(cI, .int), (cZ, .boolean)] z [.ref h_t] [(h_t, .inr (3, [.null, .null, .int 0, .int 0, .int 0, .int 0, .int 0, .int 0, .int 0, .int 0, .int 0]))] sz) (va_Qv (fun (_ : Nat × Nat) => True) (fun u t => va_P (dC, dI) vwCl [(h_t, .inr (3, [.ref u.1, .ref u.2, .int 0, .int 0, .int 0, .int 0, .int 0, .int 0, .int 0, .int 0, .int 0])), (u.1, .inl (cI, 60, .inl (fun _ => 0))), (u.2, .inl (cI, 60, .inl (fun _ => 0)))] t.heap ∧ va_K (dC, dI) vwCl [(cI, .int), (cZ, .boolean)] t ∧ va_D (va_A [(h_t, .inr (3, [.null, .null, .int 0, .int 0, .int 0, .int 0, .int 0, .int 0, .int 0, .int 0, .int 0]))] sz) [(h_t, .inr (3, [.ref u.1, .ref u.2, .int 0, .int 0, .int 0, .int 0, .int 0, .int 0, .int 0, .int 0, .int 0])), (u.1, .inl (cI, 60, .inl (fun _ => 0))), (u.2, .inl (cI, 60, .inl (fun _ => 0)))]) (va_A [(h_t, .inr (3, [.null, .null, .int 0, .int 0, .int 0, .int 0, .int 0, .int 0, .int 0, .int 0, .int 0]))] sz)) 2 120 (va_A [(h_t, .inr (3, [.null, .null, .int 0, .int 0, .int 0, .int 0, .int 0, .int 0, .int 0, .int 0, .int 0]))] sz) := by
  refine Met.ofW (cc := b_Picture_init) (maxL := 1) (ret := none) (by decide) rfl ?_
  intro p e s m args below meth c s₁ B hml hv
  obtain ⟨rfl, hsz, hP, hK, hD0, hZ⟩ := hv
  have hx := B.exec
  have hb := B.bytes
  have hr := B.returns
  have hts := atoms_spec (ws := ws_Picture_init) B.pre
  have hown : s.vm.findClass RX3 = some m.cls := findClass_of_methodNamed B.named
  have hlocks := B.notSynchronized
  have hin : meth.name = "<init>" := (name_of_methodNamed B.named B.method).1
  subst hsz
  have hD := hD0.self (sz := s.heap.size)
  generalize hAe : va_A [(h_t, .inr (3, [.null, .null, .int 0, .int 0, .int 0, .int 0, .int 0, .int 0, .int 0, .int 0, .int 0]))] s.heap.size = A at hD hZ ⊢
  have hA : ∀ q : Nat, s.heap.size ≤ q → A q := fun q h => by rw [← hAe]; exact Or.inr h
  have hS : va_S A s.heap s.heap [] := va_S.rf
  have hP : va_P (dC, dI) vwCl [(h_t, .inr (3, [.null, .null, .int 0, .int 0, .int 0, .int 0, .int 0, .int 0, .int 0, .int 0, .int 0]))] s.heap := hP
  have hl := lv_entry [.ref h_t] (n := 1) (Nat.le_of_ble_eq_true rfl)
  rw [lg_entry_eq]
  generalize (lg_sl [.ref h_t] ++ List.replicate (1 - (lg_sl [.ref h_t]).length) Slot.unset).toArray = ls at hl ⊢
  have hl : lv_has ls 1 [(0, .ref h_t)] := hl
  refine lv_aload_n hx hb d_Picture_init_0 rfl (lv_at hl 0 rfl) ?_
  refine W.objInit hx hb hown (hts _ (List.mem_cons_of_mem _ tw_43)) (hts _ (List.mem_cons_of_mem _ tw_20)) (hts _ (List.mem_cons_of_mem _ tw_21)) rfl (by rw [hml]; exact hl.1) rfl d_Picture_init_1 (Nat.le_of_ble_eq_true rfl) (Nat.le_of_ble_eq_true rfl) ?_
  refine W.eq (g2 := F0 m 4 ls []) rfl ?_
  refine lv_aload_n hx hb d_Picture_init_4 rfl (lv_at hl 0 rfl) ?_
  refine lv_bipush (v := (60)) hx hb d_Picture_init_5 (by decide) ?_
  refine va_newa (atype := .int) (ty := .int) (a0 := (60, .inl (fun _ => 0))) (N' := 60) hx hb (hts _ (List.mem_cons_of_mem _ tw_37)) rfl hK hP hD hS hA (fun cA => rfl) (by decide) (by decide) (by decide) (Nat.le_of_ble_eq_true rfl) (Nat.le_of_ble_eq_true rfl) d_Picture_init_7 (fun h_t_signs cA H hK1 hP hD hS => ?_)
  obtain rfl := (wsame_i hK1 0 2 rfl rfl).symm
  have hP : va_P (dC, dI) vwCl [(h_t, .inr (3, [.null, .null, .int 0, .int 0, .int 0, .int 0, .int 0, .int 0, .int 0, .int 0, .int 0])), (h_t_signs, .inl (cI, 60, .inl (fun _ => 0)))] H := hP
  have hD : va_D A [(h_t, .inr (3, [.null, .null, .int 0, .int 0, .int 0, .int 0, .int 0, .int 0, .int 0, .int 0, .int 0])), (h_t_signs, .inl (cI, 60, .inl (fun _ => 0)))] := hD
  refine W.widen (k := 1) (n := 60) (by decide) (by decide) ?_
  refine va_putF (D := (dC, dI)) (ci := 3) (v := .ref h_t_signs) (ty := tyX3 0) (C := RX3) (T := TX3) (N := 11) hx hb hts (fun w h => List.mem_cons_of_mem _ (tu_3 w h)) tyX3 tyX3_ok nmX3 hown hK hP hD hS 0 rfl rfl 0 (by decide) (hts _ (List.mem_cons_of_mem _ tw_44)) (fun _ h9 => h9) rfl hin rfl (tyX3_ok 0 (by decide)) rfl rfl (Nat.le_of_ble_eq_true rfl) d_Picture_init_9 (fun H locs hP hD hS => ?_)
  have hP : va_P (dC, dI) vwCl [(h_t, .inr (3, [.ref h_t_signs, .null, .int 0, .int 0, .int 0, .int 0, .int 0, .int 0, .int 0, .int 0, .int 0])), (h_t_signs, .inl (cI, 60, .inl (fun _ => 0)))] H := hP
  have hD : va_D A [(h_t, .inr (3, [.ref h_t_signs, .null, .int 0, .int 0, .int 0, .int 0, .int 0, .int 0, .int 0, .int 0, .int 0])), (h_t_signs, .inl (cI, 60, .inl (fun _ => 0)))] := hD
  refine lv_aload_n hx hb d_Picture_init_12 rfl (lv_at hl 0 rfl) ?_
  refine lv_bipush (v := (60)) hx hb d_Picture_init_13 (by decide) ?_
  refine va_newa (atype := .int) (ty := .int) (a0 := (60, .inl (fun _ => 0))) (N' := 60) hx hb (hts _ (List.mem_cons_of_mem _ tw_37)) rfl hK hP hD hS hA (fun cA => rfl) (by decide) (by decide) (by decide) (Nat.le_of_ble_eq_true rfl) (Nat.le_of_ble_eq_true rfl) d_Picture_init_15 (fun h_t_counts cA H hK1 hP hD hS => ?_)
  obtain rfl := (wsame_i hK1 0 2 rfl rfl).symm
  have hP : va_P (dC, dI) vwCl [(h_t, .inr (3, [.ref h_t_signs, .null, .int 0, .int 0, .int 0, .int 0, .int 0, .int 0, .int 0, .int 0, .int 0])), (h_t_signs, .inl (cI, 60, .inl (fun _ => 0))), (h_t_counts, .inl (cI, 60, .inl (fun _ => 0)))] H := hP
  have hD : va_D A [(h_t, .inr (3, [.ref h_t_signs, .null, .int 0, .int 0, .int 0, .int 0, .int 0, .int 0, .int 0, .int 0, .int 0])), (h_t_signs, .inl (cI, 60, .inl (fun _ => 0))), (h_t_counts, .inl (cI, 60, .inl (fun _ => 0)))] := hD
  refine W.widen (k := 2) (n := 120) (by decide) (by decide) ?_
  refine va_putF (D := (dC, dI)) (ci := 3) (v := .ref h_t_counts) (ty := tyX3 1) (C := RX3) (T := TX3) (N := 11) hx hb hts (fun w h => List.mem_cons_of_mem _ (tu_3 w h)) tyX3 tyX3_ok nmX3 hown hK hP hD hS 0 rfl rfl 1 (by decide) (hts _ (List.mem_cons_of_mem _ tw_45)) (fun _ h9 => h9) rfl hin rfl (tyX3_ok 1 (by decide)) rfl rfl (Nat.le_of_ble_eq_true rfl) d_Picture_init_17 (fun H locs hP hD hS => ?_)
  have hP : va_P (dC, dI) vwCl [(h_t, .inr (3, [.ref h_t_signs, .ref h_t_counts, .int 0, .int 0, .int 0, .int 0, .int 0, .int 0, .int 0, .int 0, .int 0])), (h_t_signs, .inl (cI, 60, .inl (fun _ => 0))), (h_t_counts, .inl (cI, 60, .inl (fun _ => 0)))] H := hP
  have hD : va_D A [(h_t, .inr (3, [.ref h_t_signs, .ref h_t_counts, .int 0, .int 0, .int 0, .int 0, .int 0, .int 0, .int 0, .int 0, .int 0])), (h_t_signs, .inl (cI, 60, .inl (fun _ => 0))), (h_t_counts, .inl (cI, 60, .inl (fun _ => 0)))] := hD
  have hP9 := hP.sub (ws' := [(h_t, .inr (3, [.ref h_t_signs, .ref h_t_counts, .int 0, .int 0, .int 0, .int 0, .int 0, .int 0, .int 0, .int 0, .int 0])), (h_t_signs, .inl (cI, 60, .inl (fun _ => 0))), (h_t_counts, .inl (cI, 60, .inl (fun _ => 0)))]) [0, 1, 2] rfl
  have hD9 := hD.sub (ws' := [(h_t, .inr (3, [.ref h_t_signs, .ref h_t_counts, .int 0, .int 0, .int 0, .int 0, .int 0, .int 0, .int 0, .int 0, .int 0])), (h_t_signs, .inl (cI, 60, .inl (fun _ => 0))), (h_t_counts, .inl (cI, 60, .inl (fun _ => 0)))]) [0, 1, 2] (by decide) rfl
  exact W.vret hx hb hr (fun t ht hW => ⟨⟨(h_t_signs, h_t_counts), rfl, trivial, by rw [ht]; exact hP9, va_K.moved hW.alike hK, hD9⟩, hS.F ht⟩) hS.2.2 d_Picture_init_20
abbrev rm_Digits_init : Room := { frames := 1, cells := 1, slots := 18, locals := 12 }
set_option maxHeartbeats 4000000 in
set_option maxRecDepth 100000 in
theorem c_Digits_init (l : Launch) (dC : Nat → ClassId) (dI : Nat → Nat → Nat) (cI cZ : ClassId) (z : zT) (h_t sz : Nat) : Met l y_Digits_init ws_Digits_init rm_Digits_init (wP (dC, dI) vwCl [(cI, .int), (cZ, .boolean)] z [.ref h_t] [(h_t, .inr (0, [.null, .int 0, .int 0, .int 0, .int 0]))] sz) (va_Qv (fun (_ : Nat) => True) (fun u t => va_P (dC, dI) vwCl [(h_t, .inr (0, [.ref u, .int 0, .int 0, .int 0, .int 0])), (u, .inl (cI, 18, .inl (fun _ => 0)))] t.heap ∧ va_K (dC, dI) vwCl [(cI, .int), (cZ, .boolean)] t ∧ va_D (va_A [(h_t, .inr (0, [.null, .int 0, .int 0, .int 0, .int 0]))] sz) [(h_t, .inr (0, [.ref u, .int 0, .int 0, .int 0, .int 0])), (u, .inl (cI, 18, .inl (fun _ => 0)))]) (va_A [(h_t, .inr (0, [.null, .int 0, .int 0, .int 0, .int 0]))] sz)) 1 18 (va_A [(h_t, .inr (0, [.null, .int 0, .int 0, .int 0, .int 0]))] sz) := by
  refine Met.ofW (cc := b_Digits_init) (maxL := 1) (ret := none) (by decide) rfl ?_
  intro p e s m args below meth c s₁ B hml hv
  obtain ⟨rfl, hsz, hP, hK, hD0, hZ⟩ := hv
  have hx := B.exec
  have hb := B.bytes
  have hr := B.returns
  have hts := atoms_spec (ws := ws_Digits_init) B.pre
  have hown : s.vm.findClass RX0 = some m.cls := findClass_of_methodNamed B.named
  have hlocks := B.notSynchronized
  have hin : meth.name = "<init>" := (name_of_methodNamed B.named B.method).1
  subst hsz
  have hD := hD0.self (sz := s.heap.size)
  generalize hAe : va_A [(h_t, .inr (0, [.null, .int 0, .int 0, .int 0, .int 0]))] s.heap.size = A at hD hZ ⊢
  have hA : ∀ q : Nat, s.heap.size ≤ q → A q := fun q h => by rw [← hAe]; exact Or.inr h
  have hS : va_S A s.heap s.heap [] := va_S.rf
  have hP : va_P (dC, dI) vwCl [(h_t, .inr (0, [.null, .int 0, .int 0, .int 0, .int 0]))] s.heap := hP
  have hl := lv_entry [.ref h_t] (n := 1) (Nat.le_of_ble_eq_true rfl)
  rw [lg_entry_eq]
  generalize (lg_sl [.ref h_t] ++ List.replicate (1 - (lg_sl [.ref h_t]).length) Slot.unset).toArray = ls at hl ⊢
  have hl : lv_has ls 1 [(0, .ref h_t)] := hl
  refine lv_aload_n hx hb d_Digits_init_0 rfl (lv_at hl 0 rfl) ?_
  refine W.objInit hx hb hown (hts _ (List.mem_cons_of_mem _ tw_98)) (hts _ (List.mem_cons_of_mem _ tw_20)) (hts _ (List.mem_cons_of_mem _ tw_21)) rfl (by rw [hml]; exact hl.1) rfl d_Digits_init_1 (Nat.le_of_ble_eq_true rfl) (Nat.le_of_ble_eq_true rfl) ?_
  refine W.eq (g2 := F0 m 4 ls []) rfl ?_
  refine lv_aload_n hx hb d_Digits_init_4 rfl (lv_at hl 0 rfl) ?_
  refine lv_bipush (v := (18)) hx hb d_Digits_init_5 (by decide) ?_
  refine va_newa (atype := .int) (ty := .int) (a0 := (18, .inl (fun _ => 0))) (N' := 18) hx hb (hts _ (List.mem_cons_of_mem _ tw_37)) rfl hK hP hD hS hA (fun cA => rfl) (by decide) (by decide) (by decide) (Nat.le_of_ble_eq_true rfl) (Nat.le_of_ble_eq_true rfl) d_Digits_init_7 (fun h_t_came cA H hK1 hP hD hS => ?_)
  obtain rfl := (wsame_i hK1 0 2 rfl rfl).symm
  have hP : va_P (dC, dI) vwCl [(h_t, .inr (0, [.null, .int 0, .int 0, .int 0, .int 0])), (h_t_came, .inl (cI, 18, .inl (fun _ => 0)))] H := hP
  have hD : va_D A [(h_t, .inr (0, [.null, .int 0, .int 0, .int 0, .int 0])), (h_t_came, .inl (cI, 18, .inl (fun _ => 0)))] := hD
  refine W.widen (k := 1) (n := 18) (by decide) (by decide) ?_
  refine va_putF (D := (dC, dI)) (ci := 0) (v := .ref h_t_came) (ty := tyX0 0) (C := RX0) (T := TX0) (N := 5) hx hb hts (fun w h => List.mem_cons_of_mem _ (tu_0 w h)) tyX0 tyX0_ok nmX0 hown hK hP hD hS 0 rfl rfl 0 (by decide) (hts _ (List.mem_cons_of_mem _ tw_99)) (fun _ h9 => h9) rfl hin rfl (tyX0_ok 0 (by decide)) rfl rfl (Nat.le_of_ble_eq_true rfl) d_Digits_init_9 (fun H locs hP hD hS => ?_)
  have hP : va_P (dC, dI) vwCl [(h_t, .inr (0, [.ref h_t_came, .int 0, .int 0, .int 0, .int 0])), (h_t_came, .inl (cI, 18, .inl (fun _ => 0)))] H := hP
  have hD : va_D A [(h_t, .inr (0, [.ref h_t_came, .int 0, .int 0, .int 0, .int 0])), (h_t_came, .inl (cI, 18, .inl (fun _ => 0)))] := hD
  have hP9 := hP.sub (ws' := [(h_t, .inr (0, [.ref h_t_came, .int 0, .int 0, .int 0, .int 0])), (h_t_came, .inl (cI, 18, .inl (fun _ => 0)))]) [0, 1] rfl
  have hD9 := hD.sub (ws' := [(h_t, .inr (0, [.ref h_t_came, .int 0, .int 0, .int 0, .int 0])), (h_t_came, .inl (cI, 18, .inl (fun _ => 0)))]) [0, 1] (by decide) rfl
  exact W.vret hx hb hr (fun t ht hW => ⟨⟨h_t_came, rfl, trivial, by rw [ht]; exact hP9, va_K.moved hW.alike hK, hD9⟩, hS.F ht⟩) hS.2.2 d_Digits_init_12
abbrev rm_Result_init : Room := { frames := 1, cells := 2, slots := 400, locals := 12 }
set_option maxHeartbeats 4000000 in
set_option maxRecDepth 100000 in
theorem c_Result_init (l : Launch) (dC : Nat → ClassId) (dI : Nat → Nat → Nat) (cI cZ : ClassId) (z : zT) (h_t sz : Nat) : Met l y_Result_init ws_Result_init rm_Result_init (wP (dC, dI) vwCl [(cI, .int), (cZ, .boolean)] z [.ref h_t] [(h_t, .inr (4, [.null, .null, .int 0, .int 0, .int 0]))] sz) (va_Qv (fun (_ : Nat × Nat) => True) (fun u t => va_P (dC, dI) vwCl [(h_t, .inr (4, [.ref u.1, .ref u.2, .int 0, .int 0, .int 0])), (u.1, .inl (cI, 200, .inl (fun _ => 0))), (u.2, .inl (cZ, 200, .inl (fun _ => 0)))] t.heap ∧ va_K (dC, dI) vwCl [(cI, .int), (cZ, .boolean)] t ∧ va_D (va_A [(h_t, .inr (4, [.null, .null, .int 0, .int 0, .int 0]))] sz) [(h_t, .inr (4, [.ref u.1, .ref u.2, .int 0, .int 0, .int 0])), (u.1, .inl (cI, 200, .inl (fun _ => 0))), (u.2, .inl (cZ, 200, .inl (fun _ => 0)))]) (va_A [(h_t, .inr (4, [.null, .null, .int 0, .int 0, .int 0]))] sz)) 2 400 (va_A [(h_t, .inr (4, [.null, .null, .int 0, .int 0, .int 0]))] sz) := by
  refine Met.ofW (cc := b_Result_init) (maxL := 1) (ret := none) (by decide) rfl ?_
  intro p e s m args below meth c s₁ B hml hv
  obtain ⟨rfl, hsz, hP, hK, hD0, hZ⟩ := hv
  have hx := B.exec
  have hb := B.bytes
  have hr := B.returns
  have hts := atoms_spec (ws := ws_Result_init) B.pre
  have hown : s.vm.findClass RX4 = some m.cls := findClass_of_methodNamed B.named
  have hlocks := B.notSynchronized
  have hin : meth.name = "<init>" := (name_of_methodNamed B.named B.method).1
  subst hsz
  have hD := hD0.self (sz := s.heap.size)
  generalize hAe : va_A [(h_t, .inr (4, [.null, .null, .int 0, .int 0, .int 0]))] s.heap.size = A at hD hZ ⊢
  have hA : ∀ q : Nat, s.heap.size ≤ q → A q := fun q h => by rw [← hAe]; exact Or.inr h
  have hS : va_S A s.heap s.heap [] := va_S.rf
  have hP : va_P (dC, dI) vwCl [(h_t, .inr (4, [.null, .null, .int 0, .int 0, .int 0]))] s.heap := hP
  have hl := lv_entry [.ref h_t] (n := 1) (Nat.le_of_ble_eq_true rfl)
  rw [lg_entry_eq]
  generalize (lg_sl [.ref h_t] ++ List.replicate (1 - (lg_sl [.ref h_t]).length) Slot.unset).toArray = ls at hl ⊢
  have hl : lv_has ls 1 [(0, .ref h_t)] := hl
  refine lv_aload_n hx hb d_Result_init_0 rfl (lv_at hl 0 rfl) ?_
  refine W.objInit hx hb hown (hts _ (List.mem_cons_of_mem _ tw_124)) (hts _ (List.mem_cons_of_mem _ tw_20)) (hts _ (List.mem_cons_of_mem _ tw_21)) rfl (by rw [hml]; exact hl.1) rfl d_Result_init_1 (Nat.le_of_ble_eq_true rfl) (Nat.le_of_ble_eq_true rfl) ?_
  refine W.eq (g2 := F0 m 4 ls []) rfl ?_
  refine lv_aload_n hx hb d_Result_init_4 rfl (lv_at hl 0 rfl) ?_
  refine lv_sipush (v := (200)) hx hb d_Result_init_5 (by decide) ?_
  refine va_newa (atype := .int) (ty := .int) (a0 := (200, .inl (fun _ => 0))) (N' := 200) hx hb (hts _ (List.mem_cons_of_mem _ tw_37)) rfl hK hP hD hS hA (fun cA => rfl) (by decide) (by decide) (by decide) (Nat.le_of_ble_eq_true rfl) (Nat.le_of_ble_eq_true rfl) d_Result_init_8 (fun h_t_row cA H hK1 hP hD hS => ?_)
  obtain rfl := (wsame_i hK1 0 2 rfl rfl).symm
  have hP : va_P (dC, dI) vwCl [(h_t, .inr (4, [.null, .null, .int 0, .int 0, .int 0])), (h_t_row, .inl (cI, 200, .inl (fun _ => 0)))] H := hP
  have hD : va_D A [(h_t, .inr (4, [.null, .null, .int 0, .int 0, .int 0])), (h_t_row, .inl (cI, 200, .inl (fun _ => 0)))] := hD
  refine W.widen (k := 1) (n := 200) (by decide) (by decide) ?_
  refine va_putF (D := (dC, dI)) (ci := 4) (v := .ref h_t_row) (ty := tyX4 0) (C := RX4) (T := TX4) (N := 5) hx hb hts (fun w h => List.mem_cons_of_mem _ (tu_4 w h)) tyX4 tyX4_ok nmX4 hown hK hP hD hS 0 rfl rfl 0 (by decide) (hts _ (List.mem_cons_of_mem _ tw_125)) (fun _ h9 => h9) rfl hin rfl (tyX4_ok 0 (by decide)) rfl rfl (Nat.le_of_ble_eq_true rfl) d_Result_init_10 (fun H locs hP hD hS => ?_)
  have hP : va_P (dC, dI) vwCl [(h_t, .inr (4, [.ref h_t_row, .null, .int 0, .int 0, .int 0])), (h_t_row, .inl (cI, 200, .inl (fun _ => 0)))] H := hP
  have hD : va_D A [(h_t, .inr (4, [.ref h_t_row, .null, .int 0, .int 0, .int 0])), (h_t_row, .inl (cI, 200, .inl (fun _ => 0)))] := hD
  refine lv_aload_n hx hb d_Result_init_13 rfl (lv_at hl 0 rfl) ?_
  refine lv_sipush (v := (200)) hx hb d_Result_init_14 (by decide) ?_
  refine va_newa (atype := .boolean) (ty := .boolean) (a0 := (200, .inl (fun _ => 0))) (N' := 200) hx hb (hts _ (List.mem_cons_of_mem _ tw_145)) rfl hK hP hD hS hA (fun cA => rfl) (by decide) (by decide) (by decide) (Nat.le_of_ble_eq_true rfl) (Nat.le_of_ble_eq_true rfl) d_Result_init_17 (fun h_t_shownDigit cA H hK1 hP hD hS => ?_)
  obtain rfl := (wsame_z hK1 1 2 rfl rfl).symm
  have hP : va_P (dC, dI) vwCl [(h_t, .inr (4, [.ref h_t_row, .null, .int 0, .int 0, .int 0])), (h_t_row, .inl (cI, 200, .inl (fun _ => 0))), (h_t_shownDigit, .inl (cZ, 200, .inl (fun _ => 0)))] H := hP
  have hD : va_D A [(h_t, .inr (4, [.ref h_t_row, .null, .int 0, .int 0, .int 0])), (h_t_row, .inl (cI, 200, .inl (fun _ => 0))), (h_t_shownDigit, .inl (cZ, 200, .inl (fun _ => 0)))] := hD
  refine W.widen (k := 2) (n := 400) (by decide) (by decide) ?_
  refine va_putF (D := (dC, dI)) (ci := 4) (v := .ref h_t_shownDigit) (ty := tyX4 1) (C := RX4) (T := TX4) (N := 5) hx hb hts (fun w h => List.mem_cons_of_mem _ (tu_4 w h)) tyX4 tyX4_ok nmX4 hown hK hP hD hS 0 rfl rfl 1 (by decide) (hts _ (List.mem_cons_of_mem _ tw_126)) (fun _ h9 => h9) rfl hin rfl (tyX4_ok 1 (by decide)) rfl rfl (Nat.le_of_ble_eq_true rfl) d_Result_init_19 (fun H locs hP hD hS => ?_)
  have hP : va_P (dC, dI) vwCl [(h_t, .inr (4, [.ref h_t_row, .ref h_t_shownDigit, .int 0, .int 0, .int 0])), (h_t_row, .inl (cI, 200, .inl (fun _ => 0))), (h_t_shownDigit, .inl (cZ, 200, .inl (fun _ => 0)))] H := hP
  have hD : va_D A [(h_t, .inr (4, [.ref h_t_row, .ref h_t_shownDigit, .int 0, .int 0, .int 0])), (h_t_row, .inl (cI, 200, .inl (fun _ => 0))), (h_t_shownDigit, .inl (cZ, 200, .inl (fun _ => 0)))] := hD
  have hP9 := hP.sub (ws' := [(h_t, .inr (4, [.ref h_t_row, .ref h_t_shownDigit, .int 0, .int 0, .int 0])), (h_t_row, .inl (cI, 200, .inl (fun _ => 0))), (h_t_shownDigit, .inl (cZ, 200, .inl (fun _ => 0)))]) [0, 1, 2] rfl
  have hD9 := hD.sub (ws' := [(h_t, .inr (4, [.ref h_t_row, .ref h_t_shownDigit, .int 0, .int 0, .int 0])), (h_t_row, .inl (cI, 200, .inl (fun _ => 0))), (h_t_shownDigit, .inl (cZ, 200, .inl (fun _ => 0)))]) [0, 1, 2] (by decide) rfl
  exact W.vret hx hb hr (fun t ht hW => ⟨⟨(h_t_row, h_t_shownDigit), rfl, trivial, by rw [ht]; exact hP9, va_K.moved hW.alike hK, hD9⟩, hS.F ht⟩) hS.2.2 d_Result_init_22
abbrev rm_Editor_init : Room := { frames := 2, cells := 5, slots := 428, locals := 32 }
set_option maxHeartbeats 4000000 in
set_option maxRecDepth 100000 in
theorem c_Editor_init (l : Launch) (dC : Nat → ClassId) (dI : Nat → Nat → Nat) (cI cZ : ClassId) (z : zT) (h_t sz : Nat) : Met l y_Editor_init ws_Editor_init rm_Editor_init (wP (dC, dI) vwCl [(cI, .int), (cZ, .boolean)] z [.ref h_t] [(h_t, .inr (1, [.null, .null, .int 0, .int 0, .int 0, .int 0]))] sz) (va_Qv (fun (_ : Nat × Nat × Nat × Nat × Nat) => True) (fun u t => va_P (dC, dI) vwCl [(h_t, .inr (1, [.ref u.1, .ref u.2.2.1, .int 0, .int 0, .int 0, .int 0])), (u.1, .inr (0, [.ref u.2.1, .int 0, .int 0, .int 0, .int 0])), (u.2.1, .inl (cI, 18, .inl (fun _ => 0))), (u.2.2.1, .inr (4, [.ref u.2.2.2.1, .ref u.2.2.2.2, .int 0, .int 0, .int 0])), (u.2.2.2.1, .inl (cI, 200, .inl (fun _ => 0))), (u.2.2.2.2, .inl (cZ, 200, .inl (fun _ => 0)))] t.heap ∧ va_K (dC, dI) vwCl [(cI, .int), (cZ, .boolean)] t ∧ va_D (va_A [(h_t, .inr (1, [.null, .null, .int 0, .int 0, .int 0, .int 0]))] sz) [(h_t, .inr (1, [.ref u.1, .ref u.2.2.1, .int 0, .int 0, .int 0, .int 0])), (u.1, .inr (0, [.ref u.2.1, .int 0, .int 0, .int 0, .int 0])), (u.2.1, .inl (cI, 18, .inl (fun _ => 0))), (u.2.2.1, .inr (4, [.ref u.2.2.2.1, .ref u.2.2.2.2, .int 0, .int 0, .int 0])), (u.2.2.2.1, .inl (cI, 200, .inl (fun _ => 0))), (u.2.2.2.2, .inl (cZ, 200, .inl (fun _ => 0)))]) (va_A [(h_t, .inr (1, [.null, .null, .int 0, .int 0, .int 0, .int 0]))] sz)) 5 428 (va_A [(h_t, .inr (1, [.null, .null, .int 0, .int 0, .int 0, .int 0]))] sz) := by
  refine Met.ofW (cc := b_Editor_init) (maxL := 1) (ret := none) (by decide) rfl ?_
  intro p e s m args below meth c s₁ B hml hv
  obtain ⟨rfl, hsz, hP, hK, hD0, hZ⟩ := hv
  have hx := B.exec
  have hb := B.bytes
  have hr := B.returns
  have hts := atoms_spec (ws := ws_Editor_init) B.pre
  have hown : s.vm.findClass RX1 = some m.cls := findClass_of_methodNamed B.named
  have hlocks := B.notSynchronized
  have hin : meth.name = "<init>" := (name_of_methodNamed B.named B.method).1
  subst hsz
  have hD := hD0.self (sz := s.heap.size)
  generalize hAe : va_A [(h_t, .inr (1, [.null, .null, .int 0, .int 0, .int 0, .int 0]))] s.heap.size = A at hD hZ ⊢
  have hA : ∀ q : Nat, s.heap.size ≤ q → A q := fun q h => by rw [← hAe]; exact Or.inr h
  have hS : va_S A s.heap s.heap [] := va_S.rf
  have hP : va_P (dC, dI) vwCl [(h_t, .inr (1, [.null, .null, .int 0, .int 0, .int 0, .int 0]))] s.heap := hP
  have hl := lv_entry [.ref h_t] (n := 1) (Nat.le_of_ble_eq_true rfl)
  rw [lg_entry_eq]
  generalize (lg_sl [.ref h_t] ++ List.replicate (1 - (lg_sl [.ref h_t]).length) Slot.unset).toArray = ls at hl ⊢
  have hl : lv_has ls 1 [(0, .ref h_t)] := hl
  refine lv_aload_n hx hb d_Editor_init_0 rfl (lv_at hl 0 rfl) ?_
  refine W.objInit hx hb hown (hts _ (List.mem_cons_of_mem _ tw_92)) (hts _ (List.mem_cons_of_mem _ tw_20)) (hts _ (List.mem_cons_of_mem _ tw_21)) rfl (by rw [hml]; exact hl.1) rfl d_Editor_init_1 (Nat.le_of_ble_eq_true rfl) (Nat.le_of_ble_eq_true rfl) ?_
  refine W.eq (g2 := F0 m 4 ls []) rfl ?_
  refine lv_aload_n hx hb d_Editor_init_4 rfl (lv_at hl 0 rfl) ?_
  refine va_new (ci := 0) (fs := [.null, .int 0, .int 0, .int 0, .int 0]) (C := RX0) (T := TX0) (N := 5) hx hb hts (fun w h => List.mem_cons_of_mem _ (tu_0 w h)) tyX0 tyX0_ok hown (hts _ (List.mem_cons_of_mem _ tw_93)) (hts _ (List.mem_cons_of_mem _ tw_94)) (hts _ (List.mem_cons_of_mem _ tw_5)) hK hP hD hS hA rfl (fun j hj => by rcases (show j = 0 ∨ j = 1 ∨ j = 2 ∨ j = 3 ∨ j = 4 by omega) with rfl | rfl | rfl | rfl | rfl <;> rfl) (Nat.le_of_ble_eq_true rfl) (Nat.le_of_ble_eq_true rfl) d_Editor_init_5 (fun h_t_digits H hP hD hS => ?_)
  have hP : va_P (dC, dI) vwCl [(h_t, .inr (1, [.null, .null, .int 0, .int 0, .int 0, .int 0])), (h_t_digits, .inr (0, [.null, .int 0, .int 0, .int 0, .int 0]))] H := hP
  have hD : va_D A [(h_t, .inr (1, [.null, .null, .int 0, .int 0, .int 0, .int 0])), (h_t_digits, .inr (0, [.null, .int 0, .int 0, .int 0, .int 0]))] := hD
  refine W.widen (k := 1) (n := 5) (by decide) (by decide) ?_
  refine lv_dup hx hb d_Editor_init_8 rfl ?_
  refine wcallc (wr := [(h_t, .inr (1, [.null, .null, .int 0, .int 0, .int 0, .int 0]))]) (va_runI (As := []) (rest := [.ref h_t_digits, .ref h_t]) ⟨hx, hb, hml, hown, hts⟩ (c_Digits_init l dC dI cI cZ z h_t_digits H.size) (cwI 0 hts (wA_good (fun w h => List.mem_cons_of_mem _ h) tw_97) rfl rfl rfl (hts _ (List.mem_cons_of_mem _ tw_5)) (hts _ (List.mem_cons_of_mem _ tw_95)) (hts _ (List.mem_cons_of_mem _ tw_96)) rfl (by decide +kernel) ⟨Nat.le_of_ble_eq_true rfl, Nat.le_of_ble_eq_true rfl⟩) (wpreS hK hP hD hS hA hZ [1] (wc := [(h_t_digits, .inr (0, [.null, .int 0, .int 0, .int 0, .int 0]))]) rfl (by decide)) rfl rfl hl.1 rfl (lv_room (Nat.le_of_ble_eq_true rfl)) d_Editor_init_9 ⟨Nat.le_of_ble_eq_true rfl, Nat.le_of_ble_eq_true rfl⟩) hP hD hS hA [1] [0] rfl rfl (by decide) (by decide) (fun u H locs hP hD hS => ?_)
  obtain ⟨h_t_digits_came, rfl⟩ : ∃ z, z = u := ⟨_, rfl⟩
  have hP : va_P (dC, dI) vwCl [(h_t, .inr (1, [.null, .null, .int 0, .int 0, .int 0, .int 0])), (h_t_digits, .inr (0, [.ref h_t_digits_came, .int 0, .int 0, .int 0, .int 0])), (h_t_digits_came, .inl (cI, 18, .inl (fun _ => 0)))] H := hP
  have hD : va_D A [(h_t, .inr (1, [.null, .null, .int 0, .int 0, .int 0, .int 0])), (h_t_digits, .inr (0, [.ref h_t_digits_came, .int 0, .int 0, .int 0, .int 0])), (h_t_digits_came, .inl (cI, 18, .inl (fun _ => 0)))] := hD
  refine W.widen (k := 2) (n := 23) (by decide) (by decide) ?_
  refine va_putF (D := (dC, dI)) (ci := 1) (v := .ref h_t_digits) (ty := tyX1 0) (C := RX1) (T := TX1) (N := 6) hx hb hts (fun w h => List.mem_cons_of_mem _ (tu_1 w h)) tyX1 tyX1_ok nmX1 hown hK hP hD hS 0 rfl rfl 0 (by decide) (hts _ (List.mem_cons_of_mem _ tw_146)) (fun _ h9 => h9) rfl hin rfl (tyX1_ok 0 (by decide)) rfl rfl (Nat.le_of_ble_eq_true rfl) d_Editor_init_12 (fun H locs hP hD hS => ?_)
  have hP : va_P (dC, dI) vwCl [(h_t, .inr (1, [.ref h_t_digits, .null, .int 0, .int 0, .int 0, .int 0])), (h_t_digits, .inr (0, [.ref h_t_digits_came, .int 0, .int 0, .int 0, .int 0])), (h_t_digits_came, .inl (cI, 18, .inl (fun _ => 0)))] H := hP
  have hD : va_D A [(h_t, .inr (1, [.ref h_t_digits, .null, .int 0, .int 0, .int 0, .int 0])), (h_t_digits, .inr (0, [.ref h_t_digits_came, .int 0, .int 0, .int 0, .int 0])), (h_t_digits_came, .inl (cI, 18, .inl (fun _ => 0)))] := hD
  refine lv_aload_n hx hb d_Editor_init_15 rfl (lv_at hl 0 rfl) ?_
  refine va_new (ci := 4) (fs := [.null, .null, .int 0, .int 0, .int 0]) (C := RX4) (T := TX4) (N := 5) hx hb hts (fun w h => List.mem_cons_of_mem _ (tu_4 w h)) tyX4 tyX4_ok hown (hts _ (List.mem_cons_of_mem _ tw_119)) (hts _ (List.mem_cons_of_mem _ tw_120)) (hts _ (List.mem_cons_of_mem _ tw_6)) hK hP hD hS hA rfl (fun j hj => by rcases (show j = 0 ∨ j = 1 ∨ j = 2 ∨ j = 3 ∨ j = 4 by omega) with rfl | rfl | rfl | rfl | rfl <;> rfl) (Nat.le_of_ble_eq_true rfl) (Nat.le_of_ble_eq_true rfl) d_Editor_init_16 (fun h_t_result H hP hD hS => ?_)
  have hP : va_P (dC, dI) vwCl [(h_t, .inr (1, [.ref h_t_digits, .null, .int 0, .int 0, .int 0, .int 0])), (h_t_digits, .inr (0, [.ref h_t_digits_came, .int 0, .int 0, .int 0, .int 0])), (h_t_digits_came, .inl (cI, 18, .inl (fun _ => 0))), (h_t_result, .inr (4, [.null, .null, .int 0, .int 0, .int 0]))] H := hP
  have hD : va_D A [(h_t, .inr (1, [.ref h_t_digits, .null, .int 0, .int 0, .int 0, .int 0])), (h_t_digits, .inr (0, [.ref h_t_digits_came, .int 0, .int 0, .int 0, .int 0])), (h_t_digits_came, .inl (cI, 18, .inl (fun _ => 0))), (h_t_result, .inr (4, [.null, .null, .int 0, .int 0, .int 0]))] := hD
  refine W.widen (k := 3) (n := 28) (by decide) (by decide) ?_
  refine lv_dup hx hb d_Editor_init_19 rfl ?_
  refine wcallc (wr := [(h_t, .inr (1, [.ref h_t_digits, .null, .int 0, .int 0, .int 0, .int 0])), (h_t_digits, .inr (0, [.ref h_t_digits_came, .int 0, .int 0, .int 0, .int 0])), (h_t_digits_came, .inl (cI, 18, .inl (fun _ => 0)))]) (va_runI (As := []) (rest := [.ref h_t_result, .ref h_t]) ⟨hx, hb, hml, hown, hts⟩ (c_Result_init l dC dI cI cZ z h_t_result H.size) (cwI 0 hts (wA_good (fun w h => List.mem_cons_of_mem _ h) tw_123) rfl rfl rfl (hts _ (List.mem_cons_of_mem _ tw_6)) (hts _ (List.mem_cons_of_mem _ tw_121)) (hts _ (List.mem_cons_of_mem _ tw_122)) rfl (by decide +kernel) ⟨Nat.le_of_ble_eq_true rfl, Nat.le_of_ble_eq_true rfl⟩) (wpreS hK hP hD hS hA hZ [3] (wc := [(h_t_result, .inr (4, [.null, .null, .int 0, .int 0, .int 0]))]) rfl (by decide)) rfl rfl hl.1 rfl (lv_room (Nat.le_of_ble_eq_true rfl)) d_Editor_init_20 ⟨Nat.le_of_ble_eq_true rfl, Nat.le_of_ble_eq_true rfl⟩) hP hD hS hA [3] [0, 1, 2] rfl rfl (by decide) (by decide) (fun u H locs hP hD hS => ?_)
  obtain ⟨h_t_result_row, h_t_result_shownDigit⟩ := u
  have hP : va_P (dC, dI) vwCl [(h_t, .inr (1, [.ref h_t_digits, .null, .int 0, .int 0, .int 0, .int 0])), (h_t_digits, .inr (0, [.ref h_t_digits_came, .int 0, .int 0, .int 0, .int 0])), (h_t_digits_came, .inl (cI, 18, .inl (fun _ => 0))), (h_t_result, .inr (4, [.ref h_t_result_row, .ref h_t_result_shownDigit, .int 0, .int 0, .int 0])), (h_t_result_row, .inl (cI, 200, .inl (fun _ => 0))), (h_t_result_shownDigit, .inl (cZ, 200, .inl (fun _ => 0)))] H := hP
  have hD : va_D A [(h_t, .inr (1, [.ref h_t_digits, .null, .int 0, .int 0, .int 0, .int 0])), (h_t_digits, .inr (0, [.ref h_t_digits_came, .int 0, .int 0, .int 0, .int 0])), (h_t_digits_came, .inl (cI, 18, .inl (fun _ => 0))), (h_t_result, .inr (4, [.ref h_t_result_row, .ref h_t_result_shownDigit, .int 0, .int 0, .int 0])), (h_t_result_row, .inl (cI, 200, .inl (fun _ => 0))), (h_t_result_shownDigit, .inl (cZ, 200, .inl (fun _ => 0)))] := hD
  refine W.widen (k := 5) (n := 428) (by decide) (by decide) ?_
  refine va_putF (D := (dC, dI)) (ci := 1) (v := .ref h_t_result) (ty := tyX1 1) (C := RX1) (T := TX1) (N := 6) hx hb hts (fun w h => List.mem_cons_of_mem _ (tu_1 w h)) tyX1 tyX1_ok nmX1 hown hK hP hD hS 0 rfl rfl 1 (by decide) (hts _ (List.mem_cons_of_mem _ tw_148)) (fun _ h9 => h9) rfl hin rfl (tyX1_ok 1 (by decide)) rfl rfl (Nat.le_of_ble_eq_true rfl) d_Editor_init_23 (fun H locs hP hD hS => ?_)
  have hP : va_P (dC, dI) vwCl [(h_t, .inr (1, [.ref h_t_digits, .ref h_t_result, .int 0, .int 0, .int 0, .int 0])), (h_t_digits, .inr (0, [.ref h_t_digits_came, .int 0, .int 0, .int 0, .int 0])), (h_t_digits_came, .inl (cI, 18, .inl (fun _ => 0))), (h_t_result, .inr (4, [.ref h_t_result_row, .ref h_t_result_shownDigit, .int 0, .int 0, .int 0])), (h_t_result_row, .inl (cI, 200, .inl (fun _ => 0))), (h_t_result_shownDigit, .inl (cZ, 200, .inl (fun _ => 0)))] H := hP
  have hD : va_D A [(h_t, .inr (1, [.ref h_t_digits, .ref h_t_result, .int 0, .int 0, .int 0, .int 0])), (h_t_digits, .inr (0, [.ref h_t_digits_came, .int 0, .int 0, .int 0, .int 0])), (h_t_digits_came, .inl (cI, 18, .inl (fun _ => 0))), (h_t_result, .inr (4, [.ref h_t_result_row, .ref h_t_result_shownDigit, .int 0, .int 0, .int 0])), (h_t_result_row, .inl (cI, 200, .inl (fun _ => 0))), (h_t_result_shownDigit, .inl (cZ, 200, .inl (fun _ => 0)))] := hD
  have hP9 := hP.sub (ws' := [(h_t, .inr (1, [.ref h_t_digits, .ref h_t_result, .int 0, .int 0, .int 0, .int 0])), (h_t_digits, .inr (0, [.ref h_t_digits_came, .int 0, .int 0, .int 0, .int 0])), (h_t_digits_came, .inl (cI, 18, .inl (fun _ => 0))), (h_t_result, .inr (4, [.ref h_t_result_row, .ref h_t_result_shownDigit, .int 0, .int 0, .int 0])), (h_t_result_row, .inl (cI, 200, .inl (fun _ => 0))), (h_t_result_shownDigit, .inl (cZ, 200, .inl (fun _ => 0)))]) [0, 1, 2, 3, 4, 5] rfl
  have hD9 := hD.sub (ws' := [(h_t, .inr (1, [.ref h_t_digits, .ref h_t_result, .int 0, .int 0, .int 0, .int 0])), (h_t_digits, .inr (0, [.ref h_t_digits_came, .int 0, .int 0, .int 0, .int 0])), (h_t_digits_came, .inl (cI, 18, .inl (fun _ => 0))), (h_t_result, .inr (4, [.ref h_t_result_row, .ref h_t_result_shownDigit, .int 0, .int 0, .int 0])), (h_t_result_row, .inl (cI, 200, .inl (fun _ => 0))), (h_t_result_shownDigit, .inl (cZ, 200, .inl (fun _ => 0)))]) [0, 1, 2, 3, 4, 5] (by decide) rfl
  exact W.vret hx hb hr (fun t ht hW => ⟨⟨(h_t_digits, h_t_digits_came, h_t_result, h_t_result_row, h_t_result_shownDigit), rfl, trivial, by rw [ht]; exact hP9, va_K.moved hW.alike hK, hD9⟩, hS.F ht⟩) hS.2.2 d_Editor_init_26
abbrev rm_EditMoves_init : Room := { frames := 3, cells := 13, slots := 689, locals := 52 }
set_option maxHeartbeats 4000000 in
set_option maxRecDepth 100000 in
theorem c_EditMoves_init (l : Launch) (dC : Nat → ClassId) (dI : Nat → Nat → Nat) (cI cZ : ClassId) (z : zT) (h_t sz : Nat) : Met l y_EditMoves_init ws_EditMoves_init rm_EditMoves_init (wP (dC, dI) vwCl [(cI, .int), (cZ, .boolean)] z [.ref h_t] [(h_t, .inr (5, [.null, .null, .null, .null, .long 0, .int 0, .int 0, .int 0, .int 0, .int 0, .long 0]))] sz) (va_Qv (fun (_ : Nat × Nat × Nat × Nat × Nat × Nat × Nat × Nat × Nat × Nat × Nat × Nat × Nat) => True) (fun u t => va_P (dC, dI) vwCl [(h_t, .inr (5, [.ref u.1, .ref u.2.2.1, .ref u.2.2.2.2.1, .ref u.2.2.2.2.2.2.2.1, .long 0, .int 0, .int (36), .int 0, .int 0, .int 0, .long 0])), (u.1, .inr (2, [.ref u.2.1, .int 0])), (u.2.1, .inl (cI, 60, .inl (fun _ => 0))), (u.2.2.1, .inr (2, [.ref u.2.2.2.1, .int 0])), (u.2.2.2.1, .inl (cI, 60, .inl (fun _ => 0))), (u.2.2.2.2.1, .inr (3, [.ref u.2.2.2.2.2.1, .ref u.2.2.2.2.2.2.1, .int 0, .int 0, .int 0, .int 0, .int 0, .int 0, .int 0, .int 0, .int 0])), (u.2.2.2.2.2.1, .inl (cI, 60, .inl (fun _ => 0))), (u.2.2.2.2.2.2.1, .inl (cI, 60, .inl (fun _ => 0))), (u.2.2.2.2.2.2.2.1, .inr (1, [.ref u.2.2.2.2.2.2.2.2.1, .ref u.2.2.2.2.2.2.2.2.2.2.1, .int 0, .int 0, .int 0, .int 0])), (u.2.2.2.2.2.2.2.2.1, .inr (0, [.ref u.2.2.2.2.2.2.2.2.2.1, .int 0, .int 0, .int 0, .int 0])), (u.2.2.2.2.2.2.2.2.2.1, .inl (cI, 18, .inl (fun _ => 0))), (u.2.2.2.2.2.2.2.2.2.2.1, .inr (4, [.ref u.2.2.2.2.2.2.2.2.2.2.2.1, .ref u.2.2.2.2.2.2.2.2.2.2.2.2, .int 0, .int 0, .int 0])), (u.2.2.2.2.2.2.2.2.2.2.2.1, .inl (cI, 200, .inl (fun _ => 0))), (u.2.2.2.2.2.2.2.2.2.2.2.2, .inl (cZ, 200, .inl (fun _ => 0)))] t.heap ∧ va_K (dC, dI) vwCl [(cI, .int), (cZ, .boolean)] t ∧ va_D (va_A [(h_t, .inr (5, [.null, .null, .null, .null, .long 0, .int 0, .int 0, .int 0, .int 0, .int 0, .long 0]))] sz) [(h_t, .inr (5, [.ref u.1, .ref u.2.2.1, .ref u.2.2.2.2.1, .ref u.2.2.2.2.2.2.2.1, .long 0, .int 0, .int (36), .int 0, .int 0, .int 0, .long 0])), (u.1, .inr (2, [.ref u.2.1, .int 0])), (u.2.1, .inl (cI, 60, .inl (fun _ => 0))), (u.2.2.1, .inr (2, [.ref u.2.2.2.1, .int 0])), (u.2.2.2.1, .inl (cI, 60, .inl (fun _ => 0))), (u.2.2.2.2.1, .inr (3, [.ref u.2.2.2.2.2.1, .ref u.2.2.2.2.2.2.1, .int 0, .int 0, .int 0, .int 0, .int 0, .int 0, .int 0, .int 0, .int 0])), (u.2.2.2.2.2.1, .inl (cI, 60, .inl (fun _ => 0))), (u.2.2.2.2.2.2.1, .inl (cI, 60, .inl (fun _ => 0))), (u.2.2.2.2.2.2.2.1, .inr (1, [.ref u.2.2.2.2.2.2.2.2.1, .ref u.2.2.2.2.2.2.2.2.2.2.1, .int 0, .int 0, .int 0, .int 0])), (u.2.2.2.2.2.2.2.2.1, .inr (0, [.ref u.2.2.2.2.2.2.2.2.2.1, .int 0, .int 0, .int 0, .int 0])), (u.2.2.2.2.2.2.2.2.2.1, .inl (cI, 18, .inl (fun _ => 0))), (u.2.2.2.2.2.2.2.2.2.2.1, .inr (4, [.ref u.2.2.2.2.2.2.2.2.2.2.2.1, .ref u.2.2.2.2.2.2.2.2.2.2.2.2, .int 0, .int 0, .int 0])), (u.2.2.2.2.2.2.2.2.2.2.2.1, .inl (cI, 200, .inl (fun _ => 0))), (u.2.2.2.2.2.2.2.2.2.2.2.2, .inl (cZ, 200, .inl (fun _ => 0)))]) (va_A [(h_t, .inr (5, [.null, .null, .null, .null, .long 0, .int 0, .int 0, .int 0, .int 0, .int 0, .long 0]))] sz)) 13 689 (va_A [(h_t, .inr (5, [.null, .null, .null, .null, .long 0, .int 0, .int 0, .int 0, .int 0, .int 0, .long 0]))] sz) := by
  refine Met.ofW (cc := b_EditMoves_init) (maxL := 1) (ret := none) (by decide) rfl ?_
  intro p e s m args below meth c s₁ B hml hv
  obtain ⟨rfl, hsz, hP, hK, hD0, hZ⟩ := hv
  have hx := B.exec
  have hb := B.bytes
  have hr := B.returns
  have hts := atoms_spec (ws := ws_EditMoves_init) B.pre
  have hown : s.vm.findClass RX5 = some m.cls := findClass_of_methodNamed B.named
  have hlocks := B.notSynchronized
  have hin : meth.name = "<init>" := (name_of_methodNamed B.named B.method).1
  subst hsz
  have hD := hD0.self (sz := s.heap.size)
  generalize hAe : va_A [(h_t, .inr (5, [.null, .null, .null, .null, .long 0, .int 0, .int 0, .int 0, .int 0, .int 0, .long 0]))] s.heap.size = A at hD hZ ⊢
  have hA : ∀ q : Nat, s.heap.size ≤ q → A q := fun q h => by rw [← hAe]; exact Or.inr h
  have hS : va_S A s.heap s.heap [] := va_S.rf
  have hP : va_P (dC, dI) vwCl [(h_t, .inr (5, [.null, .null, .null, .null, .long 0, .int 0, .int 0, .int 0, .int 0, .int 0, .long 0]))] s.heap := hP
  have hl := lv_entry [.ref h_t] (n := 1) (Nat.le_of_ble_eq_true rfl)
  rw [lg_entry_eq]
  generalize (lg_sl [.ref h_t] ++ List.replicate (1 - (lg_sl [.ref h_t]).length) Slot.unset).toArray = ls at hl ⊢
  have hl : lv_has ls 1 [(0, .ref h_t)] := hl
  refine lv_aload_n hx hb d_EditMoves_init_0 rfl (lv_at hl 0 rfl) ?_
  refine W.objInit hx hb hown (hts _ (List.mem_cons_of_mem _ tw_19)) (hts _ (List.mem_cons_of_mem _ tw_20)) (hts _ (List.mem_cons_of_mem _ tw_21)) rfl (by rw [hml]; exact hl.1) rfl d_EditMoves_init_1 (Nat.le_of_ble_eq_true rfl) (Nat.le_of_ble_eq_true rfl) ?_
  refine W.eq (g2 := F0 m 4 ls []) rfl ?_
  refine lv_aload_n hx hb d_EditMoves_init_4 rfl (lv_at hl 0 rfl) ?_
  refine va_new (ci := 2) (fs := [.null, .int 0]) (C := RX2) (T := TX2) (N := 2) hx hb hts (fun w h => List.mem_cons_of_mem _ (tu_2 w h)) tyX2 tyX2_ok hown (hts _ (List.mem_cons_of_mem _ tw_22)) (hts _ (List.mem_cons_of_mem _ tw_23)) (hts _ (List.mem_cons_of_mem _ tw_2)) hK hP hD hS hA rfl (fun j hj => by rcases (show j = 0 ∨ j = 1 by omega) with rfl | rfl <;> rfl) (Nat.le_of_ble_eq_true rfl) (Nat.le_of_ble_eq_true rfl) d_EditMoves_init_5 (fun h_t_pictureLine H hP hD hS => ?_)
  have hP : va_P (dC, dI) vwCl [(h_t, .inr (5, [.null, .null, .null, .null, .long 0, .int 0, .int 0, .int 0, .int 0, .int 0, .long 0])), (h_t_pictureLine, .inr (2, [.null, .int 0]))] H := hP
  have hD : va_D A [(h_t, .inr (5, [.null, .null, .null, .null, .long 0, .int 0, .int 0, .int 0, .int 0, .int 0, .long 0])), (h_t_pictureLine, .inr (2, [.null, .int 0]))] := hD
  refine W.widen (k := 1) (n := 2) (by decide) (by decide) ?_
  refine lv_dup hx hb d_EditMoves_init_8 rfl ?_
  refine wcallc (wr := [(h_t, .inr (5, [.null, .null, .null, .null, .long 0, .int 0, .int 0, .int 0, .int 0, .int 0, .long 0]))]) (va_runI (As := []) (rest := [.ref h_t_pictureLine, .ref h_t]) ⟨hx, hb, hml, hown, hts⟩ (c_Line_init l dC dI cI cZ z h_t_pictureLine H.size) (cwI 0 hts (wA_good (fun w h => List.mem_cons_of_mem _ h) tw_26) rfl rfl rfl (hts _ (List.mem_cons_of_mem _ tw_2)) (hts _ (List.mem_cons_of_mem _ tw_24)) (hts _ (List.mem_cons_of_mem _ tw_25)) rfl (by decide +kernel) ⟨Nat.le_of_ble_eq_true rfl, Nat.le_of_ble_eq_true rfl⟩) (wpreS hK hP hD hS hA hZ [1] (wc := [(h_t_pictureLine, .inr (2, [.null, .int 0]))]) rfl (by decide)) rfl rfl hl.1 rfl (lv_room (Nat.le_of_ble_eq_true rfl)) d_EditMoves_init_9 ⟨Nat.le_of_ble_eq_true rfl, Nat.le_of_ble_eq_true rfl⟩) hP hD hS hA [1] [0] rfl rfl (by decide) (by decide) (fun u H locs hP hD hS => ?_)
  obtain ⟨h_t_pictureLine_row, rfl⟩ : ∃ z, z = u := ⟨_, rfl⟩
  have hP : va_P (dC, dI) vwCl [(h_t, .inr (5, [.null, .null, .null, .null, .long 0, .int 0, .int 0, .int 0, .int 0, .int 0, .long 0])), (h_t_pictureLine, .inr (2, [.ref h_t_pictureLine_row, .int 0])), (h_t_pictureLine_row, .inl (cI, 60, .inl (fun _ => 0)))] H := hP
  have hD : va_D A [(h_t, .inr (5, [.null, .null, .null, .null, .long 0, .int 0, .int 0, .int 0, .int 0, .int 0, .long 0])), (h_t_pictureLine, .inr (2, [.ref h_t_pictureLine_row, .int 0])), (h_t_pictureLine_row, .inl (cI, 60, .inl (fun _ => 0)))] := hD
  refine W.widen (k := 2) (n := 62) (by decide) (by decide) ?_
  refine va_putF (D := (dC, dI)) (ci := 5) (v := .ref h_t_pictureLine) (ty := tyX5 0) (C := RX5) (T := TX5) (N := 11) hx hb hts (fun w h => List.mem_cons_of_mem _ (tu_5 w h)) tyX5 tyX5_ok nmX5 hown hK hP hD hS 0 rfl rfl 0 (by decide) (hts _ (List.mem_cons_of_mem _ tw_167)) (fun _ h9 => h9) rfl hin rfl (tyX5_ok 0 (by decide)) rfl rfl (Nat.le_of_ble_eq_true rfl) d_EditMoves_init_12 (fun H locs hP hD hS => ?_)
  have hP : va_P (dC, dI) vwCl [(h_t, .inr (5, [.ref h_t_pictureLine, .null, .null, .null, .long 0, .int 0, .int 0, .int 0, .int 0, .int 0, .long 0])), (h_t_pictureLine, .inr (2, [.ref h_t_pictureLine_row, .int 0])), (h_t_pictureLine_row, .inl (cI, 60, .inl (fun _ => 0)))] H := hP
  have hD : va_D A [(h_t, .inr (5, [.ref h_t_pictureLine, .null, .null, .null, .long 0, .int 0, .int 0, .int 0, .int 0, .int 0, .long 0])), (h_t_pictureLine, .inr (2, [.ref h_t_pictureLine_row, .int 0])), (h_t_pictureLine_row, .inl (cI, 60, .inl (fun _ => 0)))] := hD
  refine lv_aload_n hx hb d_EditMoves_init_15 rfl (lv_at hl 0 rfl) ?_
  refine va_new (ci := 2) (fs := [.null, .int 0]) (C := RX2) (T := TX2) (N := 2) hx hb hts (fun w h => List.mem_cons_of_mem _ (tu_2 w h)) tyX2 tyX2_ok hown (hts _ (List.mem_cons_of_mem _ tw_22)) (hts _ (List.mem_cons_of_mem _ tw_23)) (hts _ (List.mem_cons_of_mem _ tw_2)) hK hP hD hS hA rfl (fun j hj => by rcases (show j = 0 ∨ j = 1 by omega) with rfl | rfl <;> rfl) (Nat.le_of_ble_eq_true rfl) (Nat.le_of_ble_eq_true rfl) d_EditMoves_init_16 (fun h_t_textLine H hP hD hS => ?_)
  have hP : va_P (dC, dI) vwCl [(h_t, .inr (5, [.ref h_t_pictureLine, .null, .null, .null, .long 0, .int 0, .int 0, .int 0, .int 0, .int 0, .long 0])), (h_t_pictureLine, .inr (2, [.ref h_t_pictureLine_row, .int 0])), (h_t_pictureLine_row, .inl (cI, 60, .inl (fun _ => 0))), (h_t_textLine, .inr (2, [.null, .int 0]))] H := hP
  have hD : va_D A [(h_t, .inr (5, [.ref h_t_pictureLine, .null, .null, .null, .long 0, .int 0, .int 0, .int 0, .int 0, .int 0, .long 0])), (h_t_pictureLine, .inr (2, [.ref h_t_pictureLine_row, .int 0])), (h_t_pictureLine_row, .inl (cI, 60, .inl (fun _ => 0))), (h_t_textLine, .inr (2, [.null, .int 0]))] := hD
  refine W.widen (k := 3) (n := 64) (by decide) (by decide) ?_
  refine lv_dup hx hb d_EditMoves_init_19 rfl ?_
  refine wcallc (wr := [(h_t, .inr (5, [.ref h_t_pictureLine, .null, .null, .null, .long 0, .int 0, .int 0, .int 0, .int 0, .int 0, .long 0])), (h_t_pictureLine, .inr (2, [.ref h_t_pictureLine_row, .int 0])), (h_t_pictureLine_row, .inl (cI, 60, .inl (fun _ => 0)))]) (va_runI (As := []) (rest := [.ref h_t_textLine, .ref h_t]) ⟨hx, hb, hml, hown, hts⟩ (c_Line_init l dC dI cI cZ z h_t_textLine H.size) (cwI 0 hts (wA_good (fun w h => List.mem_cons_of_mem _ h) tw_26) rfl rfl rfl (hts _ (List.mem_cons_of_mem _ tw_2)) (hts _ (List.mem_cons_of_mem _ tw_24)) (hts _ (List.mem_cons_of_mem _ tw_25)) rfl (by decide +kernel) ⟨Nat.le_of_ble_eq_true rfl, Nat.le_of_ble_eq_true rfl⟩) (wpreS hK hP hD hS hA hZ [3] (wc := [(h_t_textLine, .inr (2, [.null, .int 0]))]) rfl (by decide)) rfl rfl hl.1 rfl (lv_room (Nat.le_of_ble_eq_true rfl)) d_EditMoves_init_20 ⟨Nat.le_of_ble_eq_true rfl, Nat.le_of_ble_eq_true rfl⟩) hP hD hS hA [3] [0, 1, 2] rfl rfl (by decide) (by decide) (fun u H locs hP hD hS => ?_)
  obtain ⟨h_t_textLine_row, rfl⟩ : ∃ z, z = u := ⟨_, rfl⟩
  have hP : va_P (dC, dI) vwCl [(h_t, .inr (5, [.ref h_t_pictureLine, .null, .null, .null, .long 0, .int 0, .int 0, .int 0, .int 0, .int 0, .long 0])), (h_t_pictureLine, .inr (2, [.ref h_t_pictureLine_row, .int 0])), (h_t_pictureLine_row, .inl (cI, 60, .inl (fun _ => 0))), (h_t_textLine, .inr (2, [.ref h_t_textLine_row, .int 0])), (h_t_textLine_row, .inl (cI, 60, .inl (fun _ => 0)))] H := hP
  have hD : va_D A [(h_t, .inr (5, [.ref h_t_pictureLine, .null, .null, .null, .long 0, .int 0, .int 0, .int 0, .int 0, .int 0, .long 0])), (h_t_pictureLine, .inr (2, [.ref h_t_pictureLine_row, .int 0])), (h_t_pictureLine_row, .inl (cI, 60, .inl (fun _ => 0))), (h_t_textLine, .inr (2, [.ref h_t_textLine_row, .int 0])), (h_t_textLine_row, .inl (cI, 60, .inl (fun _ => 0)))] := hD
  refine W.widen (k := 4) (n := 124) (by decide) (by decide) ?_
  refine va_putF (D := (dC, dI)) (ci := 5) (v := .ref h_t_textLine) (ty := tyX5 1) (C := RX5) (T := TX5) (N := 11) hx hb hts (fun w h => List.mem_cons_of_mem _ (tu_5 w h)) tyX5 tyX5_ok nmX5 hown hK hP hD hS 0 rfl rfl 1 (by decide) (hts _ (List.mem_cons_of_mem _ tw_168)) (fun _ h9 => h9) rfl hin rfl (tyX5_ok 1 (by decide)) rfl rfl (Nat.le_of_ble_eq_true rfl) d_EditMoves_init_23 (fun H locs hP hD hS => ?_)
  have hP : va_P (dC, dI) vwCl [(h_t, .inr (5, [.ref h_t_pictureLine, .ref h_t_textLine, .null, .null, .long 0, .int 0, .int 0, .int 0, .int 0, .int 0, .long 0])), (h_t_pictureLine, .inr (2, [.ref h_t_pictureLine_row, .int 0])), (h_t_pictureLine_row, .inl (cI, 60, .inl (fun _ => 0))), (h_t_textLine, .inr (2, [.ref h_t_textLine_row, .int 0])), (h_t_textLine_row, .inl (cI, 60, .inl (fun _ => 0)))] H := hP
  have hD : va_D A [(h_t, .inr (5, [.ref h_t_pictureLine, .ref h_t_textLine, .null, .null, .long 0, .int 0, .int 0, .int 0, .int 0, .int 0, .long 0])), (h_t_pictureLine, .inr (2, [.ref h_t_pictureLine_row, .int 0])), (h_t_pictureLine_row, .inl (cI, 60, .inl (fun _ => 0))), (h_t_textLine, .inr (2, [.ref h_t_textLine_row, .int 0])), (h_t_textLine_row, .inl (cI, 60, .inl (fun _ => 0)))] := hD
  refine lv_aload_n hx hb d_EditMoves_init_26 rfl (lv_at hl 0 rfl) ?_
  refine va_new (ci := 3) (fs := [.null, .null, .int 0, .int 0, .int 0, .int 0, .int 0, .int 0, .int 0, .int 0, .int 0]) (C := RX3) (T := TX3) (N := 11) hx hb hts (fun w h => List.mem_cons_of_mem _ (tu_3 w h)) tyX3 tyX3_ok hown (hts _ (List.mem_cons_of_mem _ tw_38)) (hts _ (List.mem_cons_of_mem _ tw_39)) (hts _ (List.mem_cons_of_mem _ tw_3)) hK hP hD hS hA rfl (fun j hj => by rcases (show j = 0 ∨ j = 1 ∨ j = 2 ∨ j = 3 ∨ j = 4 ∨ j = 5 ∨ j = 6 ∨ j = 7 ∨ j = 8 ∨ j = 9 ∨ j = 10 by omega) with rfl | rfl | rfl | rfl | rfl | rfl | rfl | rfl | rfl | rfl | rfl <;> rfl) (Nat.le_of_ble_eq_true rfl) (Nat.le_of_ble_eq_true rfl) d_EditMoves_init_27 (fun h_t_shape H hP hD hS => ?_)
  have hP : va_P (dC, dI) vwCl [(h_t, .inr (5, [.ref h_t_pictureLine, .ref h_t_textLine, .null, .null, .long 0, .int 0, .int 0, .int 0, .int 0, .int 0, .long 0])), (h_t_pictureLine, .inr (2, [.ref h_t_pictureLine_row, .int 0])), (h_t_pictureLine_row, .inl (cI, 60, .inl (fun _ => 0))), (h_t_textLine, .inr (2, [.ref h_t_textLine_row, .int 0])), (h_t_textLine_row, .inl (cI, 60, .inl (fun _ => 0))), (h_t_shape, .inr (3, [.null, .null, .int 0, .int 0, .int 0, .int 0, .int 0, .int 0, .int 0, .int 0, .int 0]))] H := hP
  have hD : va_D A [(h_t, .inr (5, [.ref h_t_pictureLine, .ref h_t_textLine, .null, .null, .long 0, .int 0, .int 0, .int 0, .int 0, .int 0, .long 0])), (h_t_pictureLine, .inr (2, [.ref h_t_pictureLine_row, .int 0])), (h_t_pictureLine_row, .inl (cI, 60, .inl (fun _ => 0))), (h_t_textLine, .inr (2, [.ref h_t_textLine_row, .int 0])), (h_t_textLine_row, .inl (cI, 60, .inl (fun _ => 0))), (h_t_shape, .inr (3, [.null, .null, .int 0, .int 0, .int 0, .int 0, .int 0, .int 0, .int 0, .int 0, .int 0]))] := hD
  refine W.widen (k := 5) (n := 135) (by decide) (by decide) ?_
  refine lv_dup hx hb d_EditMoves_init_30 rfl ?_
  refine wcallc (wr := [(h_t, .inr (5, [.ref h_t_pictureLine, .ref h_t_textLine, .null, .null, .long 0, .int 0, .int 0, .int 0, .int 0, .int 0, .long 0])), (h_t_pictureLine, .inr (2, [.ref h_t_pictureLine_row, .int 0])), (h_t_pictureLine_row, .inl (cI, 60, .inl (fun _ => 0))), (h_t_textLine, .inr (2, [.ref h_t_textLine_row, .int 0])), (h_t_textLine_row, .inl (cI, 60, .inl (fun _ => 0)))]) (va_runI (As := []) (rest := [.ref h_t_shape, .ref h_t]) ⟨hx, hb, hml, hown, hts⟩ (c_Picture_init l dC dI cI cZ z h_t_shape H.size) (cwI 0 hts (wA_good (fun w h => List.mem_cons_of_mem _ h) tw_42) rfl rfl rfl (hts _ (List.mem_cons_of_mem _ tw_3)) (hts _ (List.mem_cons_of_mem _ tw_40)) (hts _ (List.mem_cons_of_mem _ tw_41)) rfl (by decide +kernel) ⟨Nat.le_of_ble_eq_true rfl, Nat.le_of_ble_eq_true rfl⟩) (wpreS hK hP hD hS hA hZ [5] (wc := [(h_t_shape, .inr (3, [.null, .null, .int 0, .int 0, .int 0, .int 0, .int 0, .int 0, .int 0, .int 0, .int 0]))]) rfl (by decide)) rfl rfl hl.1 rfl (lv_room (Nat.le_of_ble_eq_true rfl)) d_EditMoves_init_31 ⟨Nat.le_of_ble_eq_true rfl, Nat.le_of_ble_eq_true rfl⟩) hP hD hS hA [5] [0, 1, 2, 3, 4] rfl rfl (by decide) (by decide) (fun u H locs hP hD hS => ?_)
  obtain ⟨h_t_shape_signs, h_t_shape_counts⟩ := u
  have hP : va_P (dC, dI) vwCl [(h_t, .inr (5, [.ref h_t_pictureLine, .ref h_t_textLine, .null, .null, .long 0, .int 0, .int 0, .int 0, .int 0, .int 0, .long 0])), (h_t_pictureLine, .inr (2, [.ref h_t_pictureLine_row, .int 0])), (h_t_pictureLine_row, .inl (cI, 60, .inl (fun _ => 0))), (h_t_textLine, .inr (2, [.ref h_t_textLine_row, .int 0])), (h_t_textLine_row, .inl (cI, 60, .inl (fun _ => 0))), (h_t_shape, .inr (3, [.ref h_t_shape_signs, .ref h_t_shape_counts, .int 0, .int 0, .int 0, .int 0, .int 0, .int 0, .int 0, .int 0, .int 0])), (h_t_shape_signs, .inl (cI, 60, .inl (fun _ => 0))), (h_t_shape_counts, .inl (cI, 60, .inl (fun _ => 0)))] H := hP
  have hD : va_D A [(h_t, .inr (5, [.ref h_t_pictureLine, .ref h_t_textLine, .null, .null, .long 0, .int 0, .int 0, .int 0, .int 0, .int 0, .long 0])), (h_t_pictureLine, .inr (2, [.ref h_t_pictureLine_row, .int 0])), (h_t_pictureLine_row, .inl (cI, 60, .inl (fun _ => 0))), (h_t_textLine, .inr (2, [.ref h_t_textLine_row, .int 0])), (h_t_textLine_row, .inl (cI, 60, .inl (fun _ => 0))), (h_t_shape, .inr (3, [.ref h_t_shape_signs, .ref h_t_shape_counts, .int 0, .int 0, .int 0, .int 0, .int 0, .int 0, .int 0, .int 0, .int 0])), (h_t_shape_signs, .inl (cI, 60, .inl (fun _ => 0))), (h_t_shape_counts, .inl (cI, 60, .inl (fun _ => 0)))] := hD
  refine W.widen (k := 7) (n := 255) (by decide) (by decide) ?_
  refine va_putF (D := (dC, dI)) (ci := 5) (v := .ref h_t_shape) (ty := tyX5 2) (C := RX5) (T := TX5) (N := 11) hx hb hts (fun w h => List.mem_cons_of_mem _ (tu_5 w h)) tyX5 tyX5_ok nmX5 hown hK hP hD hS 0 rfl rfl 2 (by decide) (hts _ (List.mem_cons_of_mem _ tw_169)) (fun _ h9 => h9) rfl hin rfl (tyX5_ok 2 (by decide)) rfl rfl (Nat.le_of_ble_eq_true rfl) d_EditMoves_init_34 (fun H locs hP hD hS => ?_)
  have hP : va_P (dC, dI) vwCl [(h_t, .inr (5, [.ref h_t_pictureLine, .ref h_t_textLine, .ref h_t_shape, .null, .long 0, .int 0, .int 0, .int 0, .int 0, .int 0, .long 0])), (h_t_pictureLine, .inr (2, [.ref h_t_pictureLine_row, .int 0])), (h_t_pictureLine_row, .inl (cI, 60, .inl (fun _ => 0))), (h_t_textLine, .inr (2, [.ref h_t_textLine_row, .int 0])), (h_t_textLine_row, .inl (cI, 60, .inl (fun _ => 0))), (h_t_shape, .inr (3, [.ref h_t_shape_signs, .ref h_t_shape_counts, .int 0, .int 0, .int 0, .int 0, .int 0, .int 0, .int 0, .int 0, .int 0])), (h_t_shape_signs, .inl (cI, 60, .inl (fun _ => 0))), (h_t_shape_counts, .inl (cI, 60, .inl (fun _ => 0)))] H := hP
  have hD : va_D A [(h_t, .inr (5, [.ref h_t_pictureLine, .ref h_t_textLine, .ref h_t_shape, .null, .long 0, .int 0, .int 0, .int 0, .int 0, .int 0, .long 0])), (h_t_pictureLine, .inr (2, [.ref h_t_pictureLine_row, .int 0])), (h_t_pictureLine_row, .inl (cI, 60, .inl (fun _ => 0))), (h_t_textLine, .inr (2, [.ref h_t_textLine_row, .int 0])), (h_t_textLine_row, .inl (cI, 60, .inl (fun _ => 0))), (h_t_shape, .inr (3, [.ref h_t_shape_signs, .ref h_t_shape_counts, .int 0, .int 0, .int 0, .int 0, .int 0, .int 0, .int 0, .int 0, .int 0])), (h_t_shape_signs, .inl (cI, 60, .inl (fun _ => 0))), (h_t_shape_counts, .inl (cI, 60, .inl (fun _ => 0)))] := hD
  refine lv_aload_n hx hb d_EditMoves_init_37 rfl (lv_at hl 0 rfl) ?_
  refine va_new (ci := 1) (fs := [.null, .null, .int 0, .int 0, .int 0, .int 0]) (C := RX1) (T := TX1) (N := 6) hx hb hts (fun w h => List.mem_cons_of_mem _ (tu_1 w h)) tyX1 tyX1_ok hown (hts _ (List.mem_cons_of_mem _ tw_87)) (hts _ (List.mem_cons_of_mem _ tw_88)) (hts _ (List.mem_cons_of_mem _ tw_4)) hK hP hD hS hA rfl (fun j hj => by rcases (show j = 0 ∨ j = 1 ∨ j = 2 ∨ j = 3 ∨ j = 4 ∨ j = 5 by omega) with rfl | rfl | rfl | rfl | rfl | rfl <;> rfl) (Nat.le_of_ble_eq_true rfl) (Nat.le_of_ble_eq_true rfl) d_EditMoves_init_38 (fun h_t_editor H hP hD hS => ?_)
  have hP : va_P (dC, dI) vwCl [(h_t, .inr (5, [.ref h_t_pictureLine, .ref h_t_textLine, .ref h_t_shape, .null, .long 0, .int 0, .int 0, .int 0, .int 0, .int 0, .long 0])), (h_t_pictureLine, .inr (2, [.ref h_t_pictureLine_row, .int 0])), (h_t_pictureLine_row, .inl (cI, 60, .inl (fun _ => 0))), (h_t_textLine, .inr (2, [.ref h_t_textLine_row, .int 0])), (h_t_textLine_row, .inl (cI, 60, .inl (fun _ => 0))), (h_t_shape, .inr (3, [.ref h_t_shape_signs, .ref h_t_shape_counts, .int 0, .int 0, .int 0, .int 0, .int 0, .int 0, .int 0, .int 0, .int 0])), (h_t_shape_signs, .inl (cI, 60, .inl (fun _ => 0))), (h_t_shape_counts, .inl (cI, 60, .inl (fun _ => 0))), (h_t_editor, .inr (1, [.null, .null, .int 0, .int 0, .int 0, .int 0]))] H := hP
  have hD : va_D A [(h_t, .inr (5, [.ref h_t_pictureLine, .ref h_t_textLine, .ref h_t_shape, .null, .long 0, .int 0, .int 0, .int 0, .int 0, .int 0, .long 0])), (h_t_pictureLine, .inr (2, [.ref h_t_pictureLine_row, .int 0])), (h_t_pictureLine_row, .inl (cI, 60, .inl (fun _ => 0))), (h_t_textLine, .inr (2, [.ref h_t_textLine_row, .int 0])), (h_t_textLine_row, .inl (cI, 60, .inl (fun _ => 0))), (h_t_shape, .inr (3, [.ref h_t_shape_signs, .ref h_t_shape_counts, .int 0, .int 0, .int 0, .int 0, .int 0, .int 0, .int 0, .int 0, .int 0])), (h_t_shape_signs, .inl (cI, 60, .inl (fun _ => 0))), (h_t_shape_counts, .inl (cI, 60, .inl (fun _ => 0))), (h_t_editor, .inr (1, [.null, .null, .int 0, .int 0, .int 0, .int 0]))] := hD
  refine W.widen (k := 8) (n := 261) (by decide) (by decide) ?_
  refine lv_dup hx hb d_EditMoves_init_41 rfl ?_
  refine wcallc (wr := [(h_t, .inr (5, [.ref h_t_pictureLine, .ref h_t_textLine, .ref h_t_shape, .null, .long 0, .int 0, .int 0, .int 0, .int 0, .int 0, .long 0])), (h_t_pictureLine, .inr (2, [.ref h_t_pictureLine_row, .int 0])), (h_t_pictureLine_row, .inl (cI, 60, .inl (fun _ => 0))), (h_t_textLine, .inr (2, [.ref h_t_textLine_row, .int 0])), (h_t_textLine_row, .inl (cI, 60, .inl (fun _ => 0))), (h_t_shape, .inr (3, [.ref h_t_shape_signs, .ref h_t_shape_counts, .int 0, .int 0, .int 0, .int 0, .int 0, .int 0, .int 0, .int 0, .int 0])), (h_t_shape_signs, .inl (cI, 60, .inl (fun _ => 0))), (h_t_shape_counts, .inl (cI, 60, .inl (fun _ => 0)))]) (va_runI (As := []) (rest := [.ref h_t_editor, .ref h_t]) ⟨hx, hb, hml, hown, hts⟩ (c_Editor_init l dC dI cI cZ z h_t_editor H.size) (cwI 0 hts (wA_good (fun w h => List.mem_cons_of_mem _ h) tw_91) rfl rfl rfl (hts _ (List.mem_cons_of_mem _ tw_4)) (hts _ (List.mem_cons_of_mem _ tw_89)) (hts _ (List.mem_cons_of_mem _ tw_90)) rfl (by decide +kernel) ⟨Nat.le_of_ble_eq_true rfl, Nat.le_of_ble_eq_true rfl⟩) (wpreS hK hP hD hS hA hZ [8] (wc := [(h_t_editor, .inr (1, [.null, .null, .int 0, .int 0, .int 0, .int 0]))]) rfl (by decide)) rfl rfl hl.1 rfl (lv_room (Nat.le_of_ble_eq_true rfl)) d_EditMoves_init_42 ⟨Nat.le_of_ble_eq_true rfl, Nat.le_of_ble_eq_true rfl⟩) hP hD hS hA [8] [0, 1, 2, 3, 4, 5, 6, 7] rfl rfl (by decide) (by decide) (fun u H locs hP hD hS => ?_)
  obtain ⟨h_t_editor_digits, h_t_editor_digits_came, h_t_editor_result, h_t_editor_result_row, h_t_editor_result_shownDigit⟩ := u
  have hP : va_P (dC, dI) vwCl [(h_t, .inr (5, [.ref h_t_pictureLine, .ref h_t_textLine, .ref h_t_shape, .null, .long 0, .int 0, .int 0, .int 0, .int 0, .int 0, .long 0])), (h_t_pictureLine, .inr (2, [.ref h_t_pictureLine_row, .int 0])), (h_t_pictureLine_row, .inl (cI, 60, .inl (fun _ => 0))), (h_t_textLine, .inr (2, [.ref h_t_textLine_row, .int 0])), (h_t_textLine_row, .inl (cI, 60, .inl (fun _ => 0))), (h_t_shape, .inr (3, [.ref h_t_shape_signs, .ref h_t_shape_counts, .int 0, .int 0, .int 0, .int 0, .int 0, .int 0, .int 0, .int 0, .int 0])), (h_t_shape_signs, .inl (cI, 60, .inl (fun _ => 0))), (h_t_shape_counts, .inl (cI, 60, .inl (fun _ => 0))), (h_t_editor, .inr (1, [.ref h_t_editor_digits, .ref h_t_editor_result, .int 0, .int 0, .int 0, .int 0])), (h_t_editor_digits, .inr (0, [.ref h_t_editor_digits_came, .int 0, .int 0, .int 0, .int 0])), (h_t_editor_digits_came, .inl (cI, 18, .inl (fun _ => 0))), (h_t_editor_result, .inr (4, [.ref h_t_editor_result_row, .ref h_t_editor_result_shownDigit, .int 0, .int 0, .int 0])), (h_t_editor_result_row, .inl (cI, 200, .inl (fun _ => 0))), (h_t_editor_result_shownDigit, .inl (cZ, 200, .inl (fun _ => 0)))] H := hP
  have hD : va_D A [(h_t, .inr (5, [.ref h_t_pictureLine, .ref h_t_textLine, .ref h_t_shape, .null, .long 0, .int 0, .int 0, .int 0, .int 0, .int 0, .long 0])), (h_t_pictureLine, .inr (2, [.ref h_t_pictureLine_row, .int 0])), (h_t_pictureLine_row, .inl (cI, 60, .inl (fun _ => 0))), (h_t_textLine, .inr (2, [.ref h_t_textLine_row, .int 0])), (h_t_textLine_row, .inl (cI, 60, .inl (fun _ => 0))), (h_t_shape, .inr (3, [.ref h_t_shape_signs, .ref h_t_shape_counts, .int 0, .int 0, .int 0, .int 0, .int 0, .int 0, .int 0, .int 0, .int 0])), (h_t_shape_signs, .inl (cI, 60, .inl (fun _ => 0))), (h_t_shape_counts, .inl (cI, 60, .inl (fun _ => 0))), (h_t_editor, .inr (1, [.ref h_t_editor_digits, .ref h_t_editor_result, .int 0, .int 0, .int 0, .int 0])), (h_t_editor_digits, .inr (0, [.ref h_t_editor_digits_came, .int 0, .int 0, .int 0, .int 0])), (h_t_editor_digits_came, .inl (cI, 18, .inl (fun _ => 0))), (h_t_editor_result, .inr (4, [.ref h_t_editor_result_row, .ref h_t_editor_result_shownDigit, .int 0, .int 0, .int 0])), (h_t_editor_result_row, .inl (cI, 200, .inl (fun _ => 0))), (h_t_editor_result_shownDigit, .inl (cZ, 200, .inl (fun _ => 0)))] := hD
  refine W.widen (k := 13) (n := 689) (by decide) (by decide) ?_
  refine va_putF (D := (dC, dI)) (ci := 5) (v := .ref h_t_editor) (ty := tyX5 3) (C := RX5) (T := TX5) (N := 11) hx hb hts (fun w h => List.mem_cons_of_mem _ (tu_5 w h)) tyX5 tyX5_ok nmX5 hown hK hP hD hS 0 rfl rfl 3 (by decide) (hts _ (List.mem_cons_of_mem _ tw_170)) (fun _ h9 => h9) rfl hin rfl (tyX5_ok 3 (by decide)) rfl rfl (Nat.le_of_ble_eq_true rfl) d_EditMoves_init_45 (fun H locs hP hD hS => ?_)
  have hP : va_P (dC, dI) vwCl [(h_t, .inr (5, [.ref h_t_pictureLine, .ref h_t_textLine, .ref h_t_shape, .ref h_t_editor, .long 0, .int 0, .int 0, .int 0, .int 0, .int 0, .long 0])), (h_t_pictureLine, .inr (2, [.ref h_t_pictureLine_row, .int 0])), (h_t_pictureLine_row, .inl (cI, 60, .inl (fun _ => 0))), (h_t_textLine, .inr (2, [.ref h_t_textLine_row, .int 0])), (h_t_textLine_row, .inl (cI, 60, .inl (fun _ => 0))), (h_t_shape, .inr (3, [.ref h_t_shape_signs, .ref h_t_shape_counts, .int 0, .int 0, .int 0, .int 0, .int 0, .int 0, .int 0, .int 0, .int 0])), (h_t_shape_signs, .inl (cI, 60, .inl (fun _ => 0))), (h_t_shape_counts, .inl (cI, 60, .inl (fun _ => 0))), (h_t_editor, .inr (1, [.ref h_t_editor_digits, .ref h_t_editor_result, .int 0, .int 0, .int 0, .int 0])), (h_t_editor_digits, .inr (0, [.ref h_t_editor_digits_came, .int 0, .int 0, .int 0, .int 0])), (h_t_editor_digits_came, .inl (cI, 18, .inl (fun _ => 0))), (h_t_editor_result, .inr (4, [.ref h_t_editor_result_row, .ref h_t_editor_result_shownDigit, .int 0, .int 0, .int 0])), (h_t_editor_result_row, .inl (cI, 200, .inl (fun _ => 0))), (h_t_editor_result_shownDigit, .inl (cZ, 200, .inl (fun _ => 0)))] H := hP
  have hD : va_D A [(h_t, .inr (5, [.ref h_t_pictureLine, .ref h_t_textLine, .ref h_t_shape, .ref h_t_editor, .long 0, .int 0, .int 0, .int 0, .int 0, .int 0, .long 0])), (h_t_pictureLine, .inr (2, [.ref h_t_pictureLine_row, .int 0])), (h_t_pictureLine_row, .inl (cI, 60, .inl (fun _ => 0))), (h_t_textLine, .inr (2, [.ref h_t_textLine_row, .int 0])), (h_t_textLine_row, .inl (cI, 60, .inl (fun _ => 0))), (h_t_shape, .inr (3, [.ref h_t_shape_signs, .ref h_t_shape_counts, .int 0, .int 0, .int 0, .int 0, .int 0, .int 0, .int 0, .int 0, .int 0])), (h_t_shape_signs, .inl (cI, 60, .inl (fun _ => 0))), (h_t_shape_counts, .inl (cI, 60, .inl (fun _ => 0))), (h_t_editor, .inr (1, [.ref h_t_editor_digits, .ref h_t_editor_result, .int 0, .int 0, .int 0, .int 0])), (h_t_editor_digits, .inr (0, [.ref h_t_editor_digits_came, .int 0, .int 0, .int 0, .int 0])), (h_t_editor_digits_came, .inl (cI, 18, .inl (fun _ => 0))), (h_t_editor_result, .inr (4, [.ref h_t_editor_result_row, .ref h_t_editor_result_shownDigit, .int 0, .int 0, .int 0])), (h_t_editor_result_row, .inl (cI, 200, .inl (fun _ => 0))), (h_t_editor_result_shownDigit, .inl (cZ, 200, .inl (fun _ => 0)))] := hD
  refine lv_aload_n hx hb d_EditMoves_init_48 rfl (lv_at hl 0 rfl) ?_
  refine lv_bipush (v := (36)) hx hb d_EditMoves_init_49 (by decide) ?_
  refine va_put (D := (dC, dI)) (ci := 5) (v := .int (36)) (ty := tyX5 6) (C := RX5) (T := TX5) (N := 11) hx hb hts (fun w h => List.mem_cons_of_mem _ (tu_5 w h)) tyX5 tyX5_ok nmX5 hown hK hP hD hS 0 rfl rfl 6 (by decide) (hts _ (List.mem_cons_of_mem _ tw_173)) (fun _ h9 => h9) rfl (tyX5_ok 6 (by decide)) rfl rfl (Nat.le_of_ble_eq_true rfl) d_EditMoves_init_51 (fun H locs hP hD hS => ?_)
  have hP : va_P (dC, dI) vwCl [(h_t, .inr (5, [.ref h_t_pictureLine, .ref h_t_textLine, .ref h_t_shape, .ref h_t_editor, .long 0, .int 0, .int (36), .int 0, .int 0, .int 0, .long 0])), (h_t_pictureLine, .inr (2, [.ref h_t_pictureLine_row, .int 0])), (h_t_pictureLine_row, .inl (cI, 60, .inl (fun _ => 0))), (h_t_textLine, .inr (2, [.ref h_t_textLine_row, .int 0])), (h_t_textLine_row, .inl (cI, 60, .inl (fun _ => 0))), (h_t_shape, .inr (3, [.ref h_t_shape_signs, .ref h_t_shape_counts, .int 0, .int 0, .int 0, .int 0, .int 0, .int 0, .int 0, .int 0, .int 0])), (h_t_shape_signs, .inl (cI, 60, .inl (fun _ => 0))), (h_t_shape_counts, .inl (cI, 60, .inl (fun _ => 0))), (h_t_editor, .inr (1, [.ref h_t_editor_digits, .ref h_t_editor_result, .int 0, .int 0, .int 0, .int 0])), (h_t_editor_digits, .inr (0, [.ref h_t_editor_digits_came, .int 0, .int 0, .int 0, .int 0])), (h_t_editor_digits_came, .inl (cI, 18, .inl (fun _ => 0))), (h_t_editor_result, .inr (4, [.ref h_t_editor_result_row, .ref h_t_editor_result_shownDigit, .int 0, .int 0, .int 0])), (h_t_editor_result_row, .inl (cI, 200, .inl (fun _ => 0))), (h_t_editor_result_shownDigit, .inl (cZ, 200, .inl (fun _ => 0)))] H := hP
  have hD : va_D A [(h_t, .inr (5, [.ref h_t_pictureLine, .ref h_t_textLine, .ref h_t_shape, .ref h_t_editor, .long 0, .int 0, .int (36), .int 0, .int 0, .int 0, .long 0])), (h_t_pictureLine, .inr (2, [.ref h_t_pictureLine_row, .int 0])), (h_t_pictureLine_row, .inl (cI, 60, .inl (fun _ => 0))), (h_t_textLine, .inr (2, [.ref h_t_textLine_row, .int 0])), (h_t_textLine_row, .inl (cI, 60, .inl (fun _ => 0))), (h_t_shape, .inr (3, [.ref h_t_shape_signs, .ref h_t_shape_counts, .int 0, .int 0, .int 0, .int 0, .int 0, .int 0, .int 0, .int 0, .int 0])), (h_t_shape_signs, .inl (cI, 60, .inl (fun _ => 0))), (h_t_shape_counts, .inl (cI, 60, .inl (fun _ => 0))), (h_t_editor, .inr (1, [.ref h_t_editor_digits, .ref h_t_editor_result, .int 0, .int 0, .int 0, .int 0])), (h_t_editor_digits, .inr (0, [.ref h_t_editor_digits_came, .int 0, .int 0, .int 0, .int 0])), (h_t_editor_digits_came, .inl (cI, 18, .inl (fun _ => 0))), (h_t_editor_result, .inr (4, [.ref h_t_editor_result_row, .ref h_t_editor_result_shownDigit, .int 0, .int 0, .int 0])), (h_t_editor_result_row, .inl (cI, 200, .inl (fun _ => 0))), (h_t_editor_result_shownDigit, .inl (cZ, 200, .inl (fun _ => 0)))] := hD
  have hP9 := hP.sub (ws' := [(h_t, .inr (5, [.ref h_t_pictureLine, .ref h_t_textLine, .ref h_t_shape, .ref h_t_editor, .long 0, .int 0, .int (36), .int 0, .int 0, .int 0, .long 0])), (h_t_pictureLine, .inr (2, [.ref h_t_pictureLine_row, .int 0])), (h_t_pictureLine_row, .inl (cI, 60, .inl (fun _ => 0))), (h_t_textLine, .inr (2, [.ref h_t_textLine_row, .int 0])), (h_t_textLine_row, .inl (cI, 60, .inl (fun _ => 0))), (h_t_shape, .inr (3, [.ref h_t_shape_signs, .ref h_t_shape_counts, .int 0, .int 0, .int 0, .int 0, .int 0, .int 0, .int 0, .int 0, .int 0])), (h_t_shape_signs, .inl (cI, 60, .inl (fun _ => 0))), (h_t_shape_counts, .inl (cI, 60, .inl (fun _ => 0))), (h_t_editor, .inr (1, [.ref h_t_editor_digits, .ref h_t_editor_result, .int 0, .int 0, .int 0, .int 0])), (h_t_editor_digits, .inr (0, [.ref h_t_editor_digits_came, .int 0, .int 0, .int 0, .int 0])), (h_t_editor_digits_came, .inl (cI, 18, .inl (fun _ => 0))), (h_t_editor_result, .inr (4, [.ref h_t_editor_result_row, .ref h_t_editor_result_shownDigit, .int 0, .int 0, .int 0])), (h_t_editor_result_row, .inl (cI, 200, .inl (fun _ => 0))), (h_t_editor_result_shownDigit, .inl (cZ, 200, .inl (fun _ => 0)))]) [0, 1, 2, 3, 4, 5, 6, 7, 8, 9, 10, 11, 12, 13] rfl
  have hD9 := hD.sub (ws' := [(h_t, .inr (5, [.ref h_t_pictureLine, .ref h_t_textLine, .ref h_t_shape, .ref h_t_editor, .long 0, .int 0, .int (36), .int 0, .int 0, .int 0, .long 0])), (h_t_pictureLine, .inr (2, [.ref h_t_pictureLine_row, .int 0])), (h_t_pictureLine_row, .inl (cI, 60, .inl (fun _ => 0))), (h_t_textLine, .inr (2, [.ref h_t_textLine_row, .int 0])), (h_t_textLine_row, .inl (cI, 60, .inl (fun _ => 0))), (h_t_shape, .inr (3, [.ref h_t_shape_signs, .ref h_t_shape_counts, .int 0, .int 0, .int 0, .int 0, .int 0, .int 0, .int 0, .int 0, .int 0])), (h_t_shape_signs, .inl (cI, 60, .inl (fun _ => 0))), (h_t_shape_counts, .inl (cI, 60, .inl (fun _ => 0))), (h_t_editor, .inr (1, [.ref h_t_editor_digits, .ref h_t_editor_result, .int 0, .int 0, .int 0, .int 0])), (h_t_editor_digits, .inr (0, [.ref h_t_editor_digits_came, .int 0, .int 0, .int 0, .int 0])), (h_t_editor_digits_came, .inl (cI, 18, .inl (fun _ => 0))), (h_t_editor_result, .inr (4, [.ref h_t_editor_result_row, .ref h_t_editor_result_shownDigit, .int 0, .int 0, .int 0])), (h_t_editor_result_row, .inl (cI, 200, .inl (fun _ => 0))), (h_t_editor_result_shownDigit, .inl (cZ, 200, .inl (fun _ => 0)))]) [0, 1, 2, 3, 4, 5, 6, 7, 8, 9, 10, 11, 12, 13] (by decide) rfl
  exact W.vret hx hb hr (fun t ht hW => ⟨⟨(h_t_pictureLine, h_t_pictureLine_row, h_t_textLine, h_t_textLine_row, h_t_shape, h_t_shape_signs, h_t_shape_counts, h_t_editor, h_t_editor_digits, h_t_editor_digits_came, h_t_editor_result, h_t_editor_result_row, h_t_editor_result_shownDigit), rfl, trivial, by rw [ht]; exact hP9, va_K.moved hW.alike hK, hD9⟩, hS.F ht⟩) hS.2.2 d_EditMoves_init_54
abbrev rm_EditMovesModel_init : Room := { frames := 1, cells := 7, slots := 1796, locals := 12 }
set_option maxHeartbeats 4000000 in
set_option maxRecDepth 100000 in
theorem c_EditMovesModel_init (l : Launch) (dC : Nat → ClassId) (dI : Nat → Nat → Nat) (cI cZ : ClassId) (z : zT) (h_t sz : Nat) : Met l y_EditMovesModel_init ws_EditMovesModel_init rm_EditMovesModel_init (wP (dC, dI) vwCl [(cI, .int), (cZ, .boolean)] z [.ref h_t] [(h_t, .inr (6, [.null, .null, .int 0, .int 0, .int 0, .int 0, .long 0, .long 0, .int 0, .int 0, .null, .int 0, .int 0, .int 0, .int 0, .int 0, .int 0, .int 0, .int 0, .null, .int 0, .int 0, .int 0, .int 0, .null, .null, .int 0, .null, .int 0]))] sz) (va_Qv (fun (_ : Nat × Nat × Nat × Nat × Nat × Nat × Nat) => True) (fun u t => va_P (dC, dI) vwCl [(h_t, .inr (6, [.ref u.1, .ref u.2.1, .int 0, .int 0, .int 0, .int (36), .long 0, .long 0, .int 0, .int 0, .ref u.2.2.1, .int 0, .int 0, .int 0, .int 0, .int 0, .int 0, .int 0, .int 0, .ref u.2.2.2.1, .int (-1), .int 0, .int 0, .int 0, .ref u.2.2.2.2.1, .ref u.2.2.2.2.2.1, .int 0, .ref u.2.2.2.2.2.2, .int 0])), (u.1, .inl (cI, 60, .inl (fun _ => 0))), (u.2.1, .inl (cI, 60, .inl (fun _ => 0))), (u.2.2.1, .inl (cI, 1400, .inl (fun _ => 0))), (u.2.2.2.1, .inl (cI, 200, .inl (fun _ => 0))), (u.2.2.2.2.1, .inl (cI, 18, .inl (fun _ => 0))), (u.2.2.2.2.2.1, .inl (cI, 40, .inl (fun _ => 0))), (u.2.2.2.2.2.2, .inl (cI, 18, .inl (fun _ => 0)))] t.heap ∧ va_K (dC, dI) vwCl [(cI, .int), (cZ, .boolean)] t ∧ va_D (va_A [(h_t, .inr (6, [.null, .null, .int 0, .int 0, .int 0, .int 0, .long 0, .long 0, .int 0, .int 0, .null, .int 0, .int 0, .int 0, .int 0, .int 0, .int 0, .int 0, .int 0, .null, .int 0, .int 0, .int 0, .int 0, .null, .null, .int 0, .null, .int 0]))] sz) [(h_t, .inr (6, [.ref u.1, .ref u.2.1, .int 0, .int 0, .int 0, .int (36), .long 0, .long 0, .int 0, .int 0, .ref u.2.2.1, .int 0, .int 0, .int 0, .int 0, .int 0, .int 0, .int 0, .int 0, .ref u.2.2.2.1, .int (-1), .int 0, .int 0, .int 0, .ref u.2.2.2.2.1, .ref u.2.2.2.2.2.1, .int 0, .ref u.2.2.2.2.2.2, .int 0])), (u.1, .inl (cI, 60, .inl (fun _ => 0))), (u.2.1, .inl (cI, 60, .inl (fun _ => 0))), (u.2.2.1, .inl (cI, 1400, .inl (fun _ => 0))), (u.2.2.2.1, .inl (cI, 200, .inl (fun _ => 0))), (u.2.2.2.2.1, .inl (cI, 18, .inl (fun _ => 0))), (u.2.2.2.2.2.1, .inl (cI, 40, .inl (fun _ => 0))), (u.2.2.2.2.2.2, .inl (cI, 18, .inl (fun _ => 0)))]) (va_A [(h_t, .inr (6, [.null, .null, .int 0, .int 0, .int 0, .int 0, .long 0, .long 0, .int 0, .int 0, .null, .int 0, .int 0, .int 0, .int 0, .int 0, .int 0, .int 0, .int 0, .null, .int 0, .int 0, .int 0, .int 0, .null, .null, .int 0, .null, .int 0]))] sz)) 7 1796 (va_A [(h_t, .inr (6, [.null, .null, .int 0, .int 0, .int 0, .int 0, .long 0, .long 0, .int 0, .int 0, .null, .int 0, .int 0, .int 0, .int 0, .int 0, .int 0, .int 0, .int 0, .null, .int 0, .int 0, .int 0, .int 0, .null, .null, .int 0, .null, .int 0]))] sz) := by
  refine Met.ofW (cc := b_EditMovesModel_init) (maxL := 1) (ret := none) (by decide) rfl ?_
  intro p e s m args below meth c s₁ B hml hv
  obtain ⟨rfl, hsz, hP, hK, hD0, hZ⟩ := hv
  have hx := B.exec
  have hb := B.bytes
  have hr := B.returns
  have hts := atoms_spec (ws := ws_EditMovesModel_init) B.pre
  have hown : s.vm.findClass RX6 = some m.cls := findClass_of_methodNamed B.named
  have hlocks := B.notSynchronized
  have hin : meth.name = "<init>" := (name_of_methodNamed B.named B.method).1
  subst hsz
  have hD := hD0.self (sz := s.heap.size)
  generalize hAe : va_A [(h_t, .inr (6, [.null, .null, .int 0, .int 0, .int 0, .int 0, .long 0, .long 0, .int 0, .int 0, .null, .int 0, .int 0, .int 0, .int 0, .int 0, .int 0, .int 0, .int 0, .null, .int 0, .int 0, .int 0, .int 0, .null, .null, .int 0, .null, .int 0]))] s.heap.size = A at hD hZ ⊢
  have hA : ∀ q : Nat, s.heap.size ≤ q → A q := fun q h => by rw [← hAe]; exact Or.inr h
  have hS : va_S A s.heap s.heap [] := va_S.rf
  have hP : va_P (dC, dI) vwCl [(h_t, .inr (6, [.null, .null, .int 0, .int 0, .int 0, .int 0, .long 0, .long 0, .int 0, .int 0, .null, .int 0, .int 0, .int 0, .int 0, .int 0, .int 0, .int 0, .int 0, .null, .int 0, .int 0, .int 0, .int 0, .null, .null, .int 0, .null, .int 0]))] s.heap := hP
  have hl := lv_entry [.ref h_t] (n := 1) (Nat.le_of_ble_eq_true rfl)
  rw [lg_entry_eq]
  generalize (lg_sl [.ref h_t] ++ List.replicate (1 - (lg_sl [.ref h_t]).length) Slot.unset).toArray = ls at hl ⊢
  have hl : lv_has ls 1 [(0, .ref h_t)] := hl
  refine lv_aload_n hx hb d_EditMovesModel_init_0 rfl (lv_at hl 0 rfl) ?_
  refine W.objInit hx hb hown (hts _ (List.mem_cons_of_mem _ tw_537)) (hts _ (List.mem_cons_of_mem _ tw_20)) (hts _ (List.mem_cons_of_mem _ tw_21)) rfl (by rw [hml]; exact hl.1) rfl d_EditMovesModel_init_1 (Nat.le_of_ble_eq_true rfl) (Nat.le_of_ble_eq_true rfl) ?_
  refine W.eq (g2 := F0 m 4 ls []) rfl ?_
  refine lv_aload_n hx hb d_EditMovesModel_init_4 rfl (lv_at hl 0 rfl) ?_
  refine lv_bipush (v := (60)) hx hb d_EditMovesModel_init_5 (by decide) ?_
  refine va_newa (atype := .int) (ty := .int) (a0 := (60, .inl (fun _ => 0))) (N' := 60) hx hb (hts _ (List.mem_cons_of_mem _ tw_37)) rfl hK hP hD hS hA (fun cA => rfl) (by decide) (by decide) (by decide) (Nat.le_of_ble_eq_true rfl) (Nat.le_of_ble_eq_true rfl) d_EditMovesModel_init_7 (fun h_t_picture cA H hK1 hP hD hS => ?_)
  obtain rfl := (wsame_i hK1 0 2 rfl rfl).symm
  have hP : va_P (dC, dI) vwCl [(h_t, .inr (6, [.null, .null, .int 0, .int 0, .int 0, .int 0, .long 0, .long 0, .int 0, .int 0, .null, .int 0, .int 0, .int 0, .int 0, .int 0, .int 0, .int 0, .int 0, .null, .int 0, .int 0, .int 0, .int 0, .null, .null, .int 0, .null, .int 0])), (h_t_picture, .inl (cI, 60, .inl (fun _ => 0)))] H := hP
  have hD : va_D A [(h_t, .inr (6, [.null, .null, .int 0, .int 0, .int 0, .int 0, .long 0, .long 0, .int 0, .int 0, .null, .int 0, .int 0, .int 0, .int 0, .int 0, .int 0, .int 0, .int 0, .null, .int 0, .int 0, .int 0, .int 0, .null, .null, .int 0, .null, .int 0])), (h_t_picture, .inl (cI, 60, .inl (fun _ => 0)))] := hD
  refine W.widen (k := 1) (n := 60) (by decide) (by decide) ?_
  refine va_putF (D := (dC, dI)) (ci := 6) (v := .ref h_t_picture) (ty := tyX6 0) (C := RX6) (T := TX6) (N := 29) hx hb hts (fun w h => List.mem_cons_of_mem _ (tu_6 w h)) tyX6 tyX6_ok nmX6 hown hK hP hD hS 0 rfl rfl 0 (by decide) (hts _ (List.mem_cons_of_mem _ tw_538)) (fun _ h9 => h9) rfl hin rfl (tyX6_ok 0 (by decide)) rfl rfl (Nat.le_of_ble_eq_true rfl) d_EditMovesModel_init_9 (fun H locs hP hD hS => ?_)
  have hP : va_P (dC, dI) vwCl [(h_t, .inr (6, [.ref h_t_picture, .null, .int 0, .int 0, .int 0, .int 0, .long 0, .long 0, .int 0, .int 0, .null, .int 0, .int 0, .int 0, .int 0, .int 0, .int 0, .int 0, .int 0, .null, .int 0, .int 0, .int 0, .int 0, .null, .null, .int 0, .null, .int 0])), (h_t_picture, .inl (cI, 60, .inl (fun _ => 0)))] H := hP
  have hD : va_D A [(h_t, .inr (6, [.ref h_t_picture, .null, .int 0, .int 0, .int 0, .int 0, .long 0, .long 0, .int 0, .int 0, .null, .int 0, .int 0, .int 0, .int 0, .int 0, .int 0, .int 0, .int 0, .null, .int 0, .int 0, .int 0, .int 0, .null, .null, .int 0, .null, .int 0])), (h_t_picture, .inl (cI, 60, .inl (fun _ => 0)))] := hD
  refine lv_aload_n hx hb d_EditMovesModel_init_12 rfl (lv_at hl 0 rfl) ?_
  refine lv_bipush (v := (60)) hx hb d_EditMovesModel_init_13 (by decide) ?_
  refine va_newa (atype := .int) (ty := .int) (a0 := (60, .inl (fun _ => 0))) (N' := 60) hx hb (hts _ (List.mem_cons_of_mem _ tw_37)) rfl hK hP hD hS hA (fun cA => rfl) (by decide) (by decide) (by decide) (Nat.le_of_ble_eq_true rfl) (Nat.le_of_ble_eq_true rfl) d_EditMovesModel_init_15 (fun h_t_text cA H hK1 hP hD hS => ?_)
  obtain rfl := (wsame_i hK1 0 2 rfl rfl).symm
  have hP : va_P (dC, dI) vwCl [(h_t, .inr (6, [.ref h_t_picture, .null, .int 0, .int 0, .int 0, .int 0, .long 0, .long 0, .int 0, .int 0, .null, .int 0, .int 0, .int 0, .int 0, .int 0, .int 0, .int 0, .int 0, .null, .int 0, .int 0, .int 0, .int 0, .null, .null, .int 0, .null, .int 0])), (h_t_picture, .inl (cI, 60, .inl (fun _ => 0))), (h_t_text, .inl (cI, 60, .inl (fun _ => 0)))] H := hP
  have hD : va_D A [(h_t, .inr (6, [.ref h_t_picture, .null, .int 0, .int 0, .int 0, .int 0, .long 0, .long 0, .int 0, .int 0, .null, .int 0, .int 0, .int 0, .int 0, .int 0, .int 0, .int 0, .int 0, .null, .int 0, .int 0, .int 0, .int 0, .null, .null, .int 0, .null, .int 0])), (h_t_picture, .inl (cI, 60, .inl (fun _ => 0))), (h_t_text, .inl (cI, 60, .inl (fun _ => 0)))] := hD
  refine W.widen (k := 2) (n := 120) (by decide) (by decide) ?_
  refine va_putF (D := (dC, dI)) (ci := 6) (v := .ref h_t_text) (ty := tyX6 1) (C := RX6) (T := TX6) (N := 29) hx hb hts (fun w h => List.mem_cons_of_mem _ (tu_6 w h)) tyX6 tyX6_ok nmX6 hown hK hP hD hS 0 rfl rfl 1 (by decide) (hts _ (List.mem_cons_of_mem _ tw_539)) (fun _ h9 => h9) rfl hin rfl (tyX6_ok 1 (by decide)) rfl rfl (Nat.le_of_ble_eq_true rfl) d_EditMovesModel_init_17 (fun H locs hP hD hS => ?_)
  have hP : va_P (dC, dI) vwCl [(h_t, .inr (6, [.ref h_t_picture, .ref h_t_text, .int 0, .int 0, .int 0, .int 0, .long 0, .long 0, .int 0, .int 0, .null, .int 0, .int 0, .int 0, .int 0, .int 0, .int 0, .int 0, .int 0, .null, .int 0, .int 0, .int 0, .int 0, .null, .null, .int 0, .null, .int 0])), (h_t_picture, .inl (cI, 60, .inl (fun _ => 0))), (h_t_text, .inl (cI, 60, .inl (fun _ => 0)))] H := hP
  have hD : va_D A [(h_t, .inr (6, [.ref h_t_picture, .ref h_t_text, .int 0, .int 0, .int 0, .int 0, .long 0, .long 0, .int 0, .int 0, .null, .int 0, .int 0, .int 0, .int 0, .int 0, .int 0, .int 0, .int 0, .null, .int 0, .int 0, .int 0, .int 0, .null, .null, .int 0, .null, .int 0])), (h_t_picture, .inl (cI, 60, .inl (fun _ => 0))), (h_t_text, .inl (cI, 60, .inl (fun _ => 0)))] := hD
  refine lv_aload_n hx hb d_EditMovesModel_init_20 rfl (lv_at hl 0 rfl) ?_
  refine lv_bipush (v := (36)) hx hb d_EditMovesModel_init_21 (by decide) ?_
  refine va_put (D := (dC, dI)) (ci := 6) (v := .int (36)) (ty := tyX6 5) (C := RX6) (T := TX6) (N := 29) hx hb hts (fun w h => List.mem_cons_of_mem _ (tu_6 w h)) tyX6 tyX6_ok nmX6 hown hK hP hD hS 0 rfl rfl 5 (by decide) (hts _ (List.mem_cons_of_mem _ tw_543)) (fun _ h9 => h9) rfl (tyX6_ok 5 (by decide)) rfl rfl (Nat.le_of_ble_eq_true rfl) d_EditMovesModel_init_23 (fun H locs hP hD hS => ?_)
  have hP : va_P (dC, dI) vwCl [(h_t, .inr (6, [.ref h_t_picture, .ref h_t_text, .int 0, .int 0, .int 0, .int (36), .long 0, .long 0, .int 0, .int 0, .null, .int 0, .int 0, .int 0, .int 0, .int 0, .int 0, .int 0, .int 0, .null, .int 0, .int 0, .int 0, .int 0, .null, .null, .int 0, .null, .int 0])), (h_t_picture, .inl (cI, 60, .inl (fun _ => 0))), (h_t_text, .inl (cI, 60, .inl (fun _ => 0)))] H := hP
  have hD : va_D A [(h_t, .inr (6, [.ref h_t_picture, .ref h_t_text, .int 0, .int 0, .int 0, .int (36), .long 0, .long 0, .int 0, .int 0, .null, .int 0, .int 0, .int 0, .int 0, .int 0, .int 0, .int 0, .int 0, .null, .int 0, .int 0, .int 0, .int 0, .null, .null, .int 0, .null, .int 0])), (h_t_picture, .inl (cI, 60, .inl (fun _ => 0))), (h_t_text, .inl (cI, 60, .inl (fun _ => 0)))] := hD
  refine lv_aload_n hx hb d_EditMovesModel_init_26 rfl (lv_at hl 0 rfl) ?_
  refine lv_sipush (v := (1400)) hx hb d_EditMovesModel_init_27 (by decide) ?_
  refine va_newa (atype := .int) (ty := .int) (a0 := (1400, .inl (fun _ => 0))) (N' := 1400) hx hb (hts _ (List.mem_cons_of_mem _ tw_37)) rfl hK hP hD hS hA (fun cA => rfl) (by decide) (by decide) (by decide) (Nat.le_of_ble_eq_true rfl) (Nat.le_of_ble_eq_true rfl) d_EditMovesModel_init_30 (fun h_t_row cA H hK1 hP hD hS => ?_)
  obtain rfl := (wsame_i hK1 0 2 rfl rfl).symm
  have hP : va_P (dC, dI) vwCl [(h_t, .inr (6, [.ref h_t_picture, .ref h_t_text, .int 0, .int 0, .int 0, .int (36), .long 0, .long 0, .int 0, .int 0, .null, .int 0, .int 0, .int 0, .int 0, .int 0, .int 0, .int 0, .int 0, .null, .int 0, .int 0, .int 0, .int 0, .null, .null, .int 0, .null, .int 0])), (h_t_picture, .inl (cI, 60, .inl (fun _ => 0))), (h_t_text, .inl (cI, 60, .inl (fun _ => 0))), (h_t_row, .inl (cI, 1400, .inl (fun _ => 0)))] H := hP
  have hD : va_D A [(h_t, .inr (6, [.ref h_t_picture, .ref h_t_text, .int 0, .int 0, .int 0, .int (36), .long 0, .long 0, .int 0, .int 0, .null, .int 0, .int 0, .int 0, .int 0, .int 0, .int 0, .int 0, .int 0, .null, .int 0, .int 0, .int 0, .int 0, .null, .null, .int 0, .null, .int 0])), (h_t_picture, .inl (cI, 60, .inl (fun _ => 0))), (h_t_text, .inl (cI, 60, .inl (fun _ => 0))), (h_t_row, .inl (cI, 1400, .inl (fun _ => 0)))] := hD
  refine W.widen (k := 3) (n := 1520) (by decide) (by decide) ?_
  refine va_putF (D := (dC, dI)) (ci := 6) (v := .ref h_t_row) (ty := tyX6 10) (C := RX6) (T := TX6) (N := 29) hx hb hts (fun w h => List.mem_cons_of_mem _ (tu_6 w h)) tyX6 tyX6_ok nmX6 hown hK hP hD hS 0 rfl rfl 10 (by decide) (hts _ (List.mem_cons_of_mem _ tw_548)) (fun _ h9 => h9) rfl hin rfl (tyX6_ok 10 (by decide)) rfl rfl (Nat.le_of_ble_eq_true rfl) d_EditMovesModel_init_32 (fun H locs hP hD hS => ?_)
  have hP : va_P (dC, dI) vwCl [(h_t, .inr (6, [.ref h_t_picture, .ref h_t_text, .int 0, .int 0, .int 0, .int (36), .long 0, .long 0, .int 0, .int 0, .ref h_t_row, .int 0, .int 0, .int 0, .int 0, .int 0, .int 0, .int 0, .int 0, .null, .int 0, .int 0, .int 0, .int 0, .null, .null, .int 0, .null, .int 0])), (h_t_picture, .inl (cI, 60, .inl (fun _ => 0))), (h_t_text, .inl (cI, 60, .inl (fun _ => 0))), (h_t_row, .inl (cI, 1400, .inl (fun _ => 0)))] H := hP
  have hD : va_D A [(h_t, .inr (6, [.ref h_t_picture, .ref h_t_text, .int 0, .int 0, .int 0, .int (36), .long 0, .long 0, .int 0, .int 0, .ref h_t_row, .int 0, .int 0, .int 0, .int 0, .int 0, .int 0, .int 0, .int 0, .null, .int 0, .int 0, .int 0, .int 0, .null, .null, .int 0, .null, .int 0])), (h_t_picture, .inl (cI, 60, .inl (fun _ => 0))), (h_t_text, .inl (cI, 60, .inl (fun _ => 0))), (h_t_row, .inl (cI, 1400, .inl (fun _ => 0)))] := hD
  refine lv_aload_n hx hb d_EditMovesModel_init_35 rfl (lv_at hl 0 rfl) ?_
  refine lv_sipush (v := (200)) hx hb d_EditMovesModel_init_36 (by decide) ?_
  refine va_newa (atype := .int) (ty := .int) (a0 := (200, .inl (fun _ => 0))) (N' := 200) hx hb (hts _ (List.mem_cons_of_mem _ tw_37)) rfl hK hP hD hS hA (fun cA => rfl) (by decide) (by decide) (by decide) (Nat.le_of_ble_eq_true rfl) (Nat.le_of_ble_eq_true rfl) d_EditMovesModel_init_39 (fun h_t_result cA H hK1 hP hD hS => ?_)
  obtain rfl := (wsame_i hK1 0 2 rfl rfl).symm
  have hP : va_P (dC, dI) vwCl [(h_t, .inr (6, [.ref h_t_picture, .ref h_t_text, .int 0, .int 0, .int 0, .int (36), .long 0, .long 0, .int 0, .int 0, .ref h_t_row, .int 0, .int 0, .int 0, .int 0, .int 0, .int 0, .int 0, .int 0, .null, .int 0, .int 0, .int 0, .int 0, .null, .null, .int 0, .null, .int 0])), (h_t_picture, .inl (cI, 60, .inl (fun _ => 0))), (h_t_text, .inl (cI, 60, .inl (fun _ => 0))), (h_t_row, .inl (cI, 1400, .inl (fun _ => 0))), (h_t_result, .inl (cI, 200, .inl (fun _ => 0)))] H := hP
  have hD : va_D A [(h_t, .inr (6, [.ref h_t_picture, .ref h_t_text, .int 0, .int 0, .int 0, .int (36), .long 0, .long 0, .int 0, .int 0, .ref h_t_row, .int 0, .int 0, .int 0, .int 0, .int 0, .int 0, .int 0, .int 0, .null, .int 0, .int 0, .int 0, .int 0, .null, .null, .int 0, .null, .int 0])), (h_t_picture, .inl (cI, 60, .inl (fun _ => 0))), (h_t_text, .inl (cI, 60, .inl (fun _ => 0))), (h_t_row, .inl (cI, 1400, .inl (fun _ => 0))), (h_t_result, .inl (cI, 200, .inl (fun _ => 0)))] := hD
  refine W.widen (k := 4) (n := 1720) (by decide) (by decide) ?_
  refine va_putF (D := (dC, dI)) (ci := 6) (v := .ref h_t_result) (ty := tyX6 19) (C := RX6) (T := TX6) (N := 29) hx hb hts (fun w h => List.mem_cons_of_mem _ (tu_6 w h)) tyX6 tyX6_ok nmX6 hown hK hP hD hS 0 rfl rfl 19 (by decide) (hts _ (List.mem_cons_of_mem _ tw_557)) (fun _ h9 => h9) rfl hin rfl (tyX6_ok 19 (by decide)) rfl rfl (Nat.le_of_ble_eq_true rfl) d_EditMovesModel_init_41 (fun H locs hP hD hS => ?_)
  have hP : va_P (dC, dI) vwCl [(h_t, .inr (6, [.ref h_t_picture, .ref h_t_text, .int 0, .int 0, .int 0, .int (36), .long 0, .long 0, .int 0, .int 0, .ref h_t_row, .int 0, .int 0, .int 0, .int 0, .int 0, .int 0, .int 0, .int 0, .ref h_t_result, .int 0, .int 0, .int 0, .int 0, .null, .null, .int 0, .null, .int 0])), (h_t_picture, .inl (cI, 60, .inl (fun _ => 0))), (h_t_text, .inl (cI, 60, .inl (fun _ => 0))), (h_t_row, .inl (cI, 1400, .inl (fun _ => 0))), (h_t_result, .inl (cI, 200, .inl (fun _ => 0)))] H := hP
  have hD : va_D A [(h_t, .inr (6, [.ref h_t_picture, .ref h_t_text, .int 0, .int 0, .int 0, .int (36), .long 0, .long 0, .int 0, .int 0, .ref h_t_row, .int 0, .int 0, .int 0, .int 0, .int 0, .int 0, .int 0, .int 0, .ref h_t_result, .int 0, .int 0, .int 0, .int 0, .null, .null, .int 0, .null, .int 0])), (h_t_picture, .inl (cI, 60, .inl (fun _ => 0))), (h_t_text, .inl (cI, 60, .inl (fun _ => 0))), (h_t_row, .inl (cI, 1400, .inl (fun _ => 0))), (h_t_result, .inl (cI, 200, .inl (fun _ => 0)))] := hD
  refine lv_aload_n hx hb d_EditMovesModel_init_44 rfl (lv_at hl 0 rfl) ?_
  refine lv_iconst (v := (-1)) hx hb d_EditMovesModel_init_45 (by decide) ?_
  refine va_put (D := (dC, dI)) (ci := 6) (v := .int (-1)) (ty := tyX6 20) (C := RX6) (T := TX6) (N := 29) hx hb hts (fun w h => List.mem_cons_of_mem _ (tu_6 w h)) tyX6 tyX6_ok nmX6 hown hK hP hD hS 0 rfl rfl 20 (by decide) (hts _ (List.mem_cons_of_mem _ tw_558)) (fun _ h9 => h9) rfl (tyX6_ok 20 (by decide)) rfl rfl (Nat.le_of_ble_eq_true rfl) d_EditMovesModel_init_46 (fun H locs hP hD hS => ?_)
  have hP : va_P (dC, dI) vwCl [(h_t, .inr (6, [.ref h_t_picture, .ref h_t_text, .int 0, .int 0, .int 0, .int (36), .long 0, .long 0, .int 0, .int 0, .ref h_t_row, .int 0, .int 0, .int 0, .int 0, .int 0, .int 0, .int 0, .int 0, .ref h_t_result, .int (-1), .int 0, .int 0, .int 0, .null, .null, .int 0, .null, .int 0])), (h_t_picture, .inl (cI, 60, .inl (fun _ => 0))), (h_t_text, .inl (cI, 60, .inl (fun _ => 0))), (h_t_row, .inl (cI, 1400, .inl (fun _ => 0))), (h_t_result, .inl (cI, 200, .inl (fun _ => 0)))] H := hP
  have hD : va_D A [(h_t, .inr (6, [.ref h_t_picture, .ref h_t_text, .int 0, .int 0, .int 0, .int (36), .long 0, .long 0, .int 0, .int 0, .ref h_t_row, .int 0, .int 0, .int 0, .int 0, .int 0, .int 0, .int 0, .int 0, .ref h_t_result, .int (-1), .int 0, .int 0, .int 0, .null, .null, .int 0, .null, .int 0])), (h_t_picture, .inl (cI, 60, .inl (fun _ => 0))), (h_t_text, .inl (cI, 60, .inl (fun _ => 0))), (h_t_row, .inl (cI, 1400, .inl (fun _ => 0))), (h_t_result, .inl (cI, 200, .inl (fun _ => 0)))] := hD
  refine lv_aload_n hx hb d_EditMovesModel_init_49 rfl (lv_at hl 0 rfl) ?_
  refine lv_bipush (v := (18)) hx hb d_EditMovesModel_init_50 (by decide) ?_
  refine va_newa (atype := .int) (ty := .int) (a0 := (18, .inl (fun _ => 0))) (N' := 18) hx hb (hts _ (List.mem_cons_of_mem _ tw_37)) rfl hK hP hD hS hA (fun cA => rfl) (by decide) (by decide) (by decide) (Nat.le_of_ble_eq_true rfl) (Nat.le_of_ble_eq_true rfl) d_EditMovesModel_init_52 (fun h_t_came cA H hK1 hP hD hS => ?_)
  obtain rfl := (wsame_i hK1 0 2 rfl rfl).symm
  have hP : va_P (dC, dI) vwCl [(h_t, .inr (6, [.ref h_t_picture, .ref h_t_text, .int 0, .int 0, .int 0, .int (36), .long 0, .long 0, .int 0, .int 0, .ref h_t_row, .int 0, .int 0, .int 0, .int 0, .int 0, .int 0, .int 0, .int 0, .ref h_t_result, .int (-1), .int 0, .int 0, .int 0, .null, .null, .int 0, .null, .int 0])), (h_t_picture, .inl (cI, 60, .inl (fun _ => 0))), (h_t_text, .inl (cI, 60, .inl (fun _ => 0))), (h_t_row, .inl (cI, 1400, .inl (fun _ => 0))), (h_t_result, .inl (cI, 200, .inl (fun _ => 0))), (h_t_came, .inl (cI, 18, .inl (fun _ => 0)))] H := hP
  have hD : va_D A [(h_t, .inr (6, [.ref h_t_picture, .ref h_t_text, .int 0, .int 0, .int 0, .int (36), .long 0, .long 0, .int 0, .int 0, .ref h_t_row, .int 0, .int 0, .int 0, .int 0, .int 0, .int 0, .int 0, .int 0, .ref h_t_result, .int (-1), .int 0, .int 0, .int 0, .null, .null, .int 0, .null, .int 0])), (h_t_picture, .inl (cI, 60, .inl (fun _ => 0))), (h_t_text, .inl (cI, 60, .inl (fun _ => 0))), (h_t_row, .inl (cI, 1400, .inl (fun _ => 0))), (h_t_result, .inl (cI, 200, .inl (fun _ => 0))), (h_t_came, .inl (cI, 18, .inl (fun _ => 0)))] := hD
  refine W.widen (k := 5) (n := 1738) (by decide) (by decide) ?_
  refine va_putF (D := (dC, dI)) (ci := 6) (v := .ref h_t_came) (ty := tyX6 24) (C := RX6) (T := TX6) (N := 29) hx hb hts (fun w h => List.mem_cons_of_mem _ (tu_6 w h)) tyX6 tyX6_ok nmX6 hown hK hP hD hS 0 rfl rfl 24 (by decide) (hts _ (List.mem_cons_of_mem _ tw_562)) (fun _ h9 => h9) rfl hin rfl (tyX6_ok 24 (by decide)) rfl rfl (Nat.le_of_ble_eq_true rfl) d_EditMovesModel_init_54 (fun H locs hP hD hS => ?_)
  have hP : va_P (dC, dI) vwCl [(h_t, .inr (6, [.ref h_t_picture, .ref h_t_text, .int 0, .int 0, .int 0, .int (36), .long 0, .long 0, .int 0, .int 0, .ref h_t_row, .int 0, .int 0, .int 0, .int 0, .int 0, .int 0, .int 0, .int 0, .ref h_t_result, .int (-1), .int 0, .int 0, .int 0, .ref h_t_came, .null, .int 0, .null, .int 0])), (h_t_picture, .inl (cI, 60, .inl (fun _ => 0))), (h_t_text, .inl (cI, 60, .inl (fun _ => 0))), (h_t_row, .inl (cI, 1400, .inl (fun _ => 0))), (h_t_result, .inl (cI, 200, .inl (fun _ => 0))), (h_t_came, .inl (cI, 18, .inl (fun _ => 0)))] H := hP
  have hD : va_D A [(h_t, .inr (6, [.ref h_t_picture, .ref h_t_text, .int 0, .int 0, .int 0, .int (36), .long 0, .long 0, .int 0, .int 0, .ref h_t_row, .int 0, .int 0, .int 0, .int 0, .int 0, .int 0, .int 0, .int 0, .ref h_t_result, .int (-1), .int 0, .int 0, .int 0, .ref h_t_came, .null, .int 0, .null, .int 0])), (h_t_picture, .inl (cI, 60, .inl (fun _ => 0))), (h_t_text, .inl (cI, 60, .inl (fun _ => 0))), (h_t_row, .inl (cI, 1400, .inl (fun _ => 0))), (h_t_result, .inl (cI, 200, .inl (fun _ => 0))), (h_t_came, .inl (cI, 18, .inl (fun _ => 0)))] := hD
  refine lv_aload_n hx hb d_EditMovesModel_init_57 rfl (lv_at hl 0 rfl) ?_
  refine lv_bipush (v := (40)) hx hb d_EditMovesModel_init_58 (by decide) ?_
  refine va_newa (atype := .int) (ty := .int) (a0 := (40, .inl (fun _ => 0))) (N' := 40) hx hb (hts _ (List.mem_cons_of_mem _ tw_37)) rfl hK hP hD hS hA (fun cA => rfl) (by decide) (by decide) (by decide) (Nat.le_of_ble_eq_true rfl) (Nat.le_of_ble_eq_true rfl) d_EditMovesModel_init_60 (fun h_t_magnitude cA H hK1 hP hD hS => ?_)
  obtain rfl := (wsame_i hK1 0 2 rfl rfl).symm
  have hP : va_P (dC, dI) vwCl [(h_t, .inr (6, [.ref h_t_picture, .ref h_t_text, .int 0, .int 0, .int 0, .int (36), .long 0, .long 0, .int 0, .int 0, .ref h_t_row, .int 0, .int 0, .int 0, .int 0, .int 0, .int 0, .int 0, .int 0, .ref h_t_result, .int (-1), .int 0, .int 0, .int 0, .ref h_t_came, .null, .int 0, .null, .int 0])), (h_t_picture, .inl (cI, 60, .inl (fun _ => 0))), (h_t_text, .inl (cI, 60, .inl (fun _ => 0))), (h_t_row, .inl (cI, 1400, .inl (fun _ => 0))), (h_t_result, .inl (cI, 200, .inl (fun _ => 0))), (h_t_came, .inl (cI, 18, .inl (fun _ => 0))), (h_t_magnitude, .inl (cI, 40, .inl (fun _ => 0)))] H := hP
  have hD : va_D A [(h_t, .inr (6, [.ref h_t_picture, .ref h_t_text, .int 0, .int 0, .int 0, .int (36), .long 0, .long 0, .int 0, .int 0, .ref h_t_row, .int 0, .int 0, .int 0, .int 0, .int 0, .int 0, .int 0, .int 0, .ref h_t_result, .int (-1), .int 0, .int 0, .int 0, .ref h_t_came, .null, .int 0, .null, .int 0])), (h_t_picture, .inl (cI, 60, .inl (fun _ => 0))), (h_t_text, .inl (cI, 60, .inl (fun _ => 0))), (h_t_row, .inl (cI, 1400, .inl (fun _ => 0))), (h_t_result, .inl (cI, 200, .inl (fun _ => 0))), (h_t_came, .inl (cI, 18, .inl (fun _ => 0))), (h_t_magnitude, .inl (cI, 40, .inl (fun _ => 0)))] := hD
  refine W.widen (k := 6) (n := 1778) (by decide) (by decide) ?_
  refine va_putF (D := (dC, dI)) (ci := 6) (v := .ref h_t_magnitude) (ty := tyX6 25) (C := RX6) (T := TX6) (N := 29) hx hb hts (fun w h => List.mem_cons_of_mem _ (tu_6 w h)) tyX6 tyX6_ok nmX6 hown hK hP hD hS 0 rfl rfl 25 (by decide) (hts _ (List.mem_cons_of_mem _ tw_563)) (fun _ h9 => h9) rfl hin rfl (tyX6_ok 25 (by decide)) rfl rfl (Nat.le_of_ble_eq_true rfl) d_EditMovesModel_init_62 (fun H locs hP hD hS => ?_)
  have hP : va_P (dC, dI) vwCl [(h_t, .inr (6, [.ref h_t_picture, .ref h_t_text, .int 0, .int 0, .int 0, .int (36), .long 0, .long 0, .int 0, .int 0, .ref h_t_row, .int 0, .int 0, .int 0, .int 0, .int 0, .int 0, .int 0, .int 0, .ref h_t_result, .int (-1), .int 0, .int 0, .int 0, .ref h_t_came, .ref h_t_magnitude, .int 0, .null, .int 0])), (h_t_picture, .inl (cI, 60, .inl (fun _ => 0))), (h_t_text, .inl (cI, 60, .inl (fun _ => 0))), (h_t_row, .inl (cI, 1400, .inl (fun _ => 0))), (h_t_result, .inl (cI, 200, .inl (fun _ => 0))), (h_t_came, .inl (cI, 18, .inl (fun _ => 0))), (h_t_magnitude, .inl (cI, 40, .inl (fun _ => 0)))] H := hP
  have hD : va_D A [(h_t, .inr (6, [.ref h_t_picture, .ref h_t_text, .int 0, .int 0, .int 0, .int (36), .long 0, .long 0, .int 0, .int 0, .ref h_t_row, .int 0, .int 0, .int 0, .int 0, .int 0, .int 0, .int 0, .int 0, .ref h_t_result, .int (-1), .int 0, .int 0, .int 0, .ref h_t_came, .ref h_t_magnitude, .int 0, .null, .int 0])), (h_t_picture, .inl (cI, 60, .inl (fun _ => 0))), (h_t_text, .inl (cI, 60, .inl (fun _ => 0))), (h_t_row, .inl (cI, 1400, .inl (fun _ => 0))), (h_t_result, .inl (cI, 200, .inl (fun _ => 0))), (h_t_came, .inl (cI, 18, .inl (fun _ => 0))), (h_t_magnitude, .inl (cI, 40, .inl (fun _ => 0)))] := hD
  refine lv_aload_n hx hb d_EditMovesModel_init_65 rfl (lv_at hl 0 rfl) ?_
  refine lv_bipush (v := (18)) hx hb d_EditMovesModel_init_66 (by decide) ?_
  refine va_newa (atype := .int) (ty := .int) (a0 := (18, .inl (fun _ => 0))) (N' := 18) hx hb (hts _ (List.mem_cons_of_mem _ tw_37)) rfl hK hP hD hS hA (fun cA => rfl) (by decide) (by decide) (by decide) (Nat.le_of_ble_eq_true rfl) (Nat.le_of_ble_eq_true rfl) d_EditMovesModel_init_68 (fun h_t_backRow cA H hK1 hP hD hS => ?_)
  obtain rfl := (wsame_i hK1 0 2 rfl rfl).symm
  have hP : va_P (dC, dI) vwCl [(h_t, .inr (6, [.ref h_t_picture, .ref h_t_text, .int 0, .int 0, .int 0, .int (36), .long 0, .long 0, .int 0, .int 0, .ref h_t_row, .int 0, .int 0, .int 0, .int 0, .int 0, .int 0, .int 0, .int 0, .ref h_t_result, .int (-1), .int 0, .int 0, .int 0, .ref h_t_came, .ref h_t_magnitude, .int 0, .null, .int 0])), (h_t_picture, .inl (cI, 60, .inl (fun _ => 0))), (h_t_text, .inl (cI, 60, .inl (fun _ => 0))), (h_t_row, .inl (cI, 1400, .inl (fun _ => 0))), (h_t_result, .inl (cI, 200, .inl (fun _ => 0))), (h_t_came, .inl (cI, 18, .inl (fun _ => 0))), (h_t_magnitude, .inl (cI, 40, .inl (fun _ => 0))), (h_t_backRow, .inl (cI, 18, .inl (fun _ => 0)))] H := hP
  have hD : va_D A [(h_t, .inr (6, [.ref h_t_picture, .ref h_t_text, .int 0, .int 0, .int 0, .int (36), .long 0, .long 0, .int 0, .int 0, .ref h_t_row, .int 0, .int 0, .int 0, .int 0, .int 0, .int 0, .int 0, .int 0, .ref h_t_result, .int (-1), .int 0, .int 0, .int 0, .ref h_t_came, .ref h_t_magnitude, .int 0, .null, .int 0])), (h_t_picture, .inl (cI, 60, .inl (fun _ => 0))), (h_t_text, .inl (cI, 60, .inl (fun _ => 0))), (h_t_row, .inl (cI, 1400, .inl (fun _ => 0))), (h_t_result, .inl (cI, 200, .inl (fun _ => 0))), (h_t_came, .inl (cI, 18, .inl (fun _ => 0))), (h_t_magnitude, .inl (cI, 40, .inl (fun _ => 0))), (h_t_backRow, .inl (cI, 18, .inl (fun _ => 0)))] := hD
  refine W.widen (k := 7) (n := 1796) (by decide) (by decide) ?_
  refine va_putF (D := (dC, dI)) (ci := 6) (v := .ref h_t_backRow) (ty := tyX6 27) (C := RX6) (T := TX6) (N := 29) hx hb hts (fun w h => List.mem_cons_of_mem _ (tu_6 w h)) tyX6 tyX6_ok nmX6 hown hK hP hD hS 0 rfl rfl 27 (by decide) (hts _ (List.mem_cons_of_mem _ tw_565)) (fun _ h9 => h9) rfl hin rfl (tyX6_ok 27 (by decide)) rfl rfl (Nat.le_of_ble_eq_true rfl) d_EditMovesModel_init_70 (fun H locs hP hD hS => ?_)
  have hP : va_P (dC, dI) vwCl [(h_t, .inr (6, [.ref h_t_picture, .ref h_t_text, .int 0, .int 0, .int 0, .int (36), .long 0, .long 0, .int 0, .int 0, .ref h_t_row, .int 0, .int 0, .int 0, .int 0, .int 0, .int 0, .int 0, .int 0, .ref h_t_result, .int (-1), .int 0, .int 0, .int 0, .ref h_t_came, .ref h_t_magnitude, .int 0, .ref h_t_backRow, .int 0])), (h_t_picture, .inl (cI, 60, .inl (fun _ => 0))), (h_t_text, .inl (cI, 60, .inl (fun _ => 0))), (h_t_row, .inl (cI, 1400, .inl (fun _ => 0))), (h_t_result, .inl (cI, 200, .inl (fun _ => 0))), (h_t_came, .inl (cI, 18, .inl (fun _ => 0))), (h_t_magnitude, .inl (cI, 40, .inl (fun _ => 0))), (h_t_backRow, .inl (cI, 18, .inl (fun _ => 0)))] H := hP
  have hD : va_D A [(h_t, .inr (6, [.ref h_t_picture, .ref h_t_text, .int 0, .int 0, .int 0, .int (36), .long 0, .long 0, .int 0, .int 0, .ref h_t_row, .int 0, .int 0, .int 0, .int 0, .int 0, .int 0, .int 0, .int 0, .ref h_t_result, .int (-1), .int 0, .int 0, .int 0, .ref h_t_came, .ref h_t_magnitude, .int 0, .ref h_t_backRow, .int 0])), (h_t_picture, .inl (cI, 60, .inl (fun _ => 0))), (h_t_text, .inl (cI, 60, .inl (fun _ => 0))), (h_t_row, .inl (cI, 1400, .inl (fun _ => 0))), (h_t_result, .inl (cI, 200, .inl (fun _ => 0))), (h_t_came, .inl (cI, 18, .inl (fun _ => 0))), (h_t_magnitude, .inl (cI, 40, .inl (fun _ => 0))), (h_t_backRow, .inl (cI, 18, .inl (fun _ => 0)))] := hD
  have hP9 := hP.sub (ws' := [(h_t, .inr (6, [.ref h_t_picture, .ref h_t_text, .int 0, .int 0, .int 0, .int (36), .long 0, .long 0, .int 0, .int 0, .ref h_t_row, .int 0, .int 0, .int 0, .int 0, .int 0, .int 0, .int 0, .int 0, .ref h_t_result, .int (-1), .int 0, .int 0, .int 0, .ref h_t_came, .ref h_t_magnitude, .int 0, .ref h_t_backRow, .int 0])), (h_t_picture, .inl (cI, 60, .inl (fun _ => 0))), (h_t_text, .inl (cI, 60, .inl (fun _ => 0))), (h_t_row, .inl (cI, 1400, .inl (fun _ => 0))), (h_t_result, .inl (cI, 200, .inl (fun _ => 0))), (h_t_came, .inl (cI, 18, .inl (fun _ => 0))), (h_t_magnitude, .inl (cI, 40, .inl (fun _ => 0))), (h_t_backRow, .inl (cI, 18, .inl (fun _ => 0)))]) [0, 1, 2, 3, 4, 5, 6, 7] rfl
  have hD9 := hD.sub (ws' := [(h_t, .inr (6, [.ref h_t_picture, .ref h_t_text, .int 0, .int 0, .int 0, .int (36), .long 0, .long 0, .int 0, .int 0, .ref h_t_row, .int 0, .int 0, .int 0, .int 0, .int 0, .int 0, .int 0, .int 0, .ref h_t_result, .int (-1), .int 0, .int 0, .int 0, .ref h_t_came, .ref h_t_magnitude, .int 0, .ref h_t_backRow, .int 0])), (h_t_picture, .inl (cI, 60, .inl (fun _ => 0))), (h_t_text, .inl (cI, 60, .inl (fun _ => 0))), (h_t_row, .inl (cI, 1400, .inl (fun _ => 0))), (h_t_result, .inl (cI, 200, .inl (fun _ => 0))), (h_t_came, .inl (cI, 18, .inl (fun _ => 0))), (h_t_magnitude, .inl (cI, 40, .inl (fun _ => 0))), (h_t_backRow, .inl (cI, 18, .inl (fun _ => 0)))]) [0, 1, 2, 3, 4, 5, 6, 7] (by decide) rfl
  exact W.vret hx hb hr (fun t ht hW => ⟨⟨(h_t_picture, h_t_text, h_t_row, h_t_result, h_t_came, h_t_magnitude, h_t_backRow), rfl, trivial, by rw [ht]; exact hP9, va_K.moved hW.alike hK, hD9⟩, hS.F ht⟩) hS.2.2 d_EditMovesModel_init_73
