/-! THE STANDING WORDS: the two string literals, the static that tells how strings are held, the links to the nest host's private methods. -/
def zlen : List Nat := [12, 8]
def zbyt : List (List Int32) := [[57, 90, 42, 43, 45, 66, 48, 47, 44, 46, 86, 88], [42, 43, 45, 44, 46, 47, 40, 41]]
abbrev zT : Type := (Nat → Nat) × (Nat → Nat)
def zz (z : zT) (A : Nat → Prop) (U : State) (H : Heap) : Prop :=
  vk_S 2 zlen zbyt z.1 z.2 A U H ∧ vk_R RX3 86 "9Z*+-B0/,.VX" (z.1 0) U ∧ vk_R RX5 146 "*+-,./()" (z.1 1) U ∧ va_Z "java/lang/String" "COMPACT_STRINGS" "Z" (.int 1) A U H ∧ va_Nw (.methodLinkNest RX3 81 ⟨"EditMoves", "toGreat", "(I)I"⟩ "EditMoves") U ∧ va_Nw (.methodLinkNest RX3 93 ⟨"EditMoves", "isDigit", "(I)Z"⟩ "EditMoves") U
theorem zz_same {z : zT} {A : Nat → Prop} {u U : State} {H : Heap} (h : U.vm = u.vm) (q : zz z A u H) : zz z A U H := by
  have ha : u.vm.Alike U.vm := by rw [h]; exact Vm.Alike.refl u.vm
  obtain ⟨q1, q2, q3, q4, q5, q6⟩ := q
  exact ⟨vk_S.moved ha q1, vk_R.same h q2, vk_R.same h q3, va_Z.moved ha q4, va_Nw.same rfl h.symm q5, va_Nw.same rfl h.symm q6⟩
theorem zz_warm {z : zT} {A : Nat → Prop} {s U : State} {H : Heap} (hW : s.WarmedH U.vm) (q : zz z A s H) : zz z A U H := by
  obtain ⟨q1, q2, q3, q4, q5, q6⟩ := q
  exact ⟨vk_S.moved hW.alike q1, vk_R.warm hW q2, vk_R.warm hW q3, va_Z.moved hW.alike q4, va_Nw.warmM hW q5, va_Nw.warmM hW q6⟩
theorem zz_kept {z : zT} {A B : Nat → Prop} {U : State} {H H1 : Heap} (hq : ∀ a : Nat, a < H.size → ¬ A a → H1[a]? = H[a]?) (hAB : ∀ q, B q → A q) (q : zz z A U H) : zz z B U H1 := by
  obtain ⟨q1, q2, q3, q4, q5, q6⟩ := q
  exact ⟨(q1.kept hq).narrow hAB, q2, q3, (q4.kept hq).narrow hAB, q5, q6⟩
theorem zz_V {z : zT} {A : Nat → Prop} {U : State} {H : Heap} {k : Nat} (hk : k < 2) (q : zz z A U H) : va_OF "java/lang/String" "value" "[B" (.ref (z.2 k)) (z.1 k) A U H := (q.1.1 k hk).2.2.1
theorem zz_C {z : zT} {A : Nat → Prop} {U : State} {H : Heap} {k : Nat} (hk : k < 2) (q : zz z A U H) : va_OF "java/lang/String" "coder" "B" (.int 0) (z.1 k) A U H := (q.1.1 k hk).2.1
theorem zz_T {z : zT} {A : Nat → Prop} {U : State} {H : Heap} {k : Nat} (hk : k < 2) (q : zz z A U H) : va_T .byte (z.2 k) (zlen.getD k 0) (fun j => .int ((zbyt.getD k []).getD j 0)) A U H := (q.1.1 k hk).2.2.2
theorem zz_R0 {z : zT} {A : Nat → Prop} {U : State} {H : Heap} (q : zz z A U H) : vk_R RX3 86 "9Z*+-B0/,.VX" (z.1 0) U := q.2.1
theorem zz_R1 {z : zT} {A : Nat → Prop} {U : State} {H : Heap} (q : zz z A U H) : vk_R RX5 146 "*+-,./()" (z.1 1) U := q.2.2.1
theorem zz_Z {z : zT} {A : Nat → Prop} {U : State} {H : Heap} (q : zz z A U H) : va_Z "java/lang/String" "COMPACT_STRINGS" "Z" (.int 1) A U H := q.2.2.2.1
theorem zz_N0 {z : zT} {A : Nat → Prop} {U : State} {H : Heap} (q : zz z A U H) : va_Nw (.methodLinkNest RX3 81 ⟨"EditMoves", "toGreat", "(I)I"⟩ "EditMoves") U := q.2.2.2.2.1
theorem zz_N1 {z : zT} {A : Nat → Prop} {U : State} {H : Heap} (q : zz z A U H) : va_Nw (.methodLinkNest RX3 93 ⟨"EditMoves", "isDigit", "(I)Z"⟩ "EditMoves") U := q.2.2.2.2.2
