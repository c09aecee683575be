abbrev rm_StringLatin1_canEncode : Room := { frames := 0, cells := 0, slots := 0, locals := 0 }
set_option maxHeartbeats 4000000 in
set_option maxRecDepth 100000 in
theorem c_StringLatin1_canEncode (l : Launch) (dC : Nat → ClassId) (dI : Nat → Nat → Nat) (cI cZ : ClassId) (z : zT) (sz : Nat) (p0 : Int32) (r : Int32) (hq : F_StringLatin1_canEncode p0 = some r) : Met l y_StringLatin1_canEncode ws_StringLatin1_canEncode rm_StringLatin1_canEncode (wP (dC, dI) vwCl [(cI, .int), (cZ, .boolean)] z [.int p0] [] sz) (wQi (dC, dI) vwCl [(cI, .int), (cZ, .boolean)] [] (va_A [] sz) r) 0 0 (va_A [] sz) := by
  refine Met.ofW (cc := b_StringLatin1_canEncode) (maxL := 1) (ret := (some .boolean)) (by decide) rfl ?_
  intro p e s m args below meth c s₁ B hml hv
  obtain ⟨rfl, hsz, hP, hK, hD0, hZ⟩ := hv
  have hx := B.exec
  have hb := B.bytes
  have hr := B.returns
  have hts := atoms_spec (ws := ws_StringLatin1_canEncode) B.pre
  have hown : s.vm.findClass RXl = some m.cls := findClass_of_methodNamed B.named
  have hlocks := B.notSynchronized
  have C : wcx p s m [.int p0].toArray meth c b_StringLatin1_canEncode (some .boolean) 1 RXl ws_StringLatin1_canEncode := ⟨hx, hb, hr, hml, hown, hts, hlocks⟩
  subst hsz
  have hD := hD0.self (sz := s.heap.size)
  generalize hAe : va_A [] s.heap.size = A at hD hZ ⊢
  have hA : ∀ q : Nat, s.heap.size ≤ q → A q := fun q h => by rw [← hAe]; exact Or.inr h
  have hS : va_S A s.heap s.heap [] := va_S.rf
  have hP : va_P (dC, dI) vwCl [] s.heap := hP
  have hl := lv_entry [.int p0] (n := 1) (Nat.le_of_ble_eq_true rfl)
  rw [lg_entry_eq]
  generalize (lg_sl [.int p0] ++ List.replicate (1 - (lg_sl [.int p0]).length) Slot.unset).toArray = ls at hl ⊢
  have hl : lv_has ls 1 [(0, .int p0)] := hl
  refine wentry hP hS hl (fun H locs ls hP hS hl => ?_)
  have h : (if p0 < 0 then (some (0 : Int32)) else (if (255 : Int32) < p0 then (some (0 : Int32)) else (some (1 : Int32)))) = some r := hq
  refine lv_iload_n hx hb d_StringLatin1_canEncode_0 rfl (lv_at hl 0 rfl) ?_
  refine lv_if_lt (tgt := 15) hx hb d_StringLatin1_canEncode_1 (by decide) (fun c_1 => ?_) (fun c_1 => ?_)
  · have h := wif_p c_1 h
    refine lv_iconst (v := 0) hx hb d_StringLatin1_canEncode_15 (by decide) ?_
    have h := Option.some.inj h
    subst h
    exact W.zret (ty := .boolean) hx hb hr rfl (fun t ht hW => ⟨⟨_, (), rfl, rfl, by rw [ht]; exact hP, va_K.moved hW.alike hK, hD⟩, hS.F ht⟩) hS.2.2 d_StringLatin1_canEncode_16
  · have h := wif_n c_1 h
    refine lv_iload_n hx hb d_StringLatin1_canEncode_4 rfl (lv_at hl 0 rfl) ?_
    refine lv_sipush (v := 255) hx hb d_StringLatin1_canEncode_5 (by decide) ?_
    refine lv_icmp_gt (tgt := 15) hx hb d_StringLatin1_canEncode_8 (by decide) (fun c_2 => ?_) (fun c_2 => ?_)
    · have h := wif_p c_2 h
      refine lv_iconst (v := 0) hx hb d_StringLatin1_canEncode_15 (by decide) ?_
      have h := Option.some.inj h
      subst h
      exact W.zret (ty := .boolean) hx hb hr rfl (fun t ht hW => ⟨⟨_, (), rfl, rfl, by rw [ht]; exact hP, va_K.moved hW.alike hK, hD⟩, hS.F ht⟩) hS.2.2 d_StringLatin1_canEncode_16
    · have h := wif_n c_2 h
      refine lv_iconst (v := 1) hx hb d_StringLatin1_canEncode_11 (by decide) ?_
      refine lv_goto (tgt := 16) hx hb d_StringLatin1_canEncode_12 (by decide) ?_
      have h := Option.some.inj h
      subst h
      exact W.zret (ty := .boolean) hx hb hr rfl (fun t ht hW => ⟨⟨_, (), rfl, rfl, by rw [ht]; exact hP, va_K.moved hW.alike hK, hD⟩, hS.F ht⟩) hS.2.2 d_StringLatin1_canEncode_16
abbrev rm_StringLatin1_indexOfChar : Room := { frames := 0, cells := 0, slots := 0, locals := 0 }
def GB_StringLatin1_indexOfChar_7 (p : Program) (l : Launch) (e : Env) (s : State) (m : MethodId) (args : Array Value) (below : List Frame) (meth : Method) (c : Code) (dC : Nat → ClassId) (dI : Nat → Nat → Nat) (cI cZ : ClassId) (z : zT) (A : Nat → Prop) (k : Nat) (r : Int32) (f : Int32 → Int32 → Int32 → Option (Int32)) : Prop := ∀ (x3 : Int32) (x4 : Int32) (x5 : Int32) (H : Heap) (locs : List Loc) (ls : Array Slot), f x3 x4 x5 = some r → va_P (dC, dI) vwCl [] H → va_D A [] → va_S A s.heap H locs → lv_has ls 6 [(0, .ref (z.2 k)), (3, .int x3), (4, .int x4), (5, .int x5)] → W p l e rm_StringLatin1_indexOfChar s m args below meth c H locs 0 0 (MQ below (wQi (dC, dI) vwCl [(cI, .int), (cZ, .boolean)] [] A r) args s 0 0 A) (F0 m 7 ls [])
set_option maxHeartbeats 4000000 in
set_option maxRecDepth 100000 in
theorem kB_StringLatin1_indexOfChar_7 {p : Program} {l : Launch} {e : Env} {s : State} {m : MethodId} {args : Array Value} {below : List Frame} {meth : Method} {c : Code} {dC : Nat → ClassId} {dI : Nat → Nat → Nat} {cI cZ : ClassId} {z : zT} {A : Nat → Prop} {k : Nat} {r : Int32} (C : wcx p s m args meth c b_StringLatin1_indexOfChar (some .int) 6 RXl ws_StringLatin1_indexOfChar) (hA : ∀ q : Nat, s.heap.size ≤ q → A q) (hK : va_K (dC, dI) vwCl [(cI, .int), (cZ, .boolean)] s) (hZ : zz z A s s.heap) (hk : k < 2) (n : Nat) : GB_StringLatin1_indexOfChar_7 p l e s m args below meth c dC dI cI cZ z A k  r (B_StringLatin1_indexOfChar_7 k n) := by
  obtain ⟨hx, hb, hr, hml, hown, hts, hlocks⟩ := id C
  induction n with
  | zero =>
    intro x3 x4 x5 H locs ls h
    exact absurd h (fun z => by cases z)
  | succ n ih =>
    intro x3 x4 x5 H locs ls h hP hD hS hl
    have h : (if x3 ≤ x5 then (some (-1 : Int32)) else (wgd x5 (zlen.getD k 0) (if ((zbyt.getD k []).getD x5.toNatClampNeg 0) = x4 then (some x5) else (B_StringLatin1_indexOfChar_7 k n) x3 x4 (x5 + (1 : Int32))))) = some r := h
    refine lv_iload hx hb d_StringLatin1_indexOfChar_7 (lv_at hl 3 rfl) ?_
    refine lv_iload_n hx hb d_StringLatin1_indexOfChar_9 rfl (lv_at hl 1 rfl) ?_
    refine lv_icmp_ge (tgt := 31) hx hb d_StringLatin1_indexOfChar_10 (by decide) (fun c_3 => ?_) (fun c_3 => ?_)
    · have h := wif_p c_3 h
      refine lv_iconst (v := -1) hx hb d_StringLatin1_indexOfChar_31 (by decide) ?_
      have h := Option.some.inj h
      subst h
      exact W.iret hx hb hr (fun t ht hW => ⟨⟨_, (), rfl, rfl, by rw [ht]; exact hP, va_K.moved hW.alike hK, hD⟩, hS.F ht⟩) hS.2.2 d_StringLatin1_indexOfChar_32
    · have h := wif_n c_3 h
      refine lv_aload_n hx hb d_StringLatin1_indexOfChar_13 rfl (lv_at hl 0 rfl) ?_
      refine lv_iload hx hb d_StringLatin1_indexOfChar_14 (lv_at hl 3 rfl) ?_
      obtain ⟨g_4, h⟩ := wgd_s h
      refine va_tb hx hb (zz_T hk hZ) hS g_4 rfl d_StringLatin1_indexOfChar_16 ?_
      refine lv_iload hx hb d_StringLatin1_indexOfChar_17 (lv_at hl 2 rfl) ?_
      refine lv_icmp_ne (tgt := 25) hx hb d_StringLatin1_indexOfChar_19 (by decide) (fun c_5 => ?_) (fun c_5 => ?_)
      · have h := wif_n c_5 h
        refine lv_iinc (v := (x5 + (1 : Int32))) (lv' := [(5, .int (x5 + (1 : Int32))), (0, .ref (z.2 k)), (3, .int x3), (4, .int x4)]) hx hb d_StringLatin1_indexOfChar_25 hl (k := 3) rfl rfl (by decide) rfl (fun ls hl => ?_)
        refine lv_goto (tgt := 7) hx hb d_StringLatin1_indexOfChar_28 (by decide) ?_
        exact ih x3 x4 (x5 + (1 : Int32)) _ _ _ h hP hD hS (lv_sub hl [1, 2, 3, 0] rfl)
      · have h := wif_p c_5 h
        refine lv_iload hx hb d_StringLatin1_indexOfChar_22 (lv_at hl 3 rfl) ?_
        have h := Option.some.inj h
        subst h
        exact W.iret hx hb hr (fun t ht hW => ⟨⟨_, (), rfl, rfl, by rw [ht]; exact hP, va_K.moved hW.alike hK, hD⟩, hS.F ht⟩) hS.2.2 d_StringLatin1_indexOfChar_24
set_option maxHeartbeats 4000000 in
set_option maxRecDepth 100000 in
theorem c_StringLatin1_indexOfChar (l : Launch) (dC : Nat → ClassId) (dI : Nat → Nat → Nat) (cI cZ : ClassId) (z : zT) (k : Nat) (hk : k < 2) (sz : Nat) (p1 : Int32) (p2 : Int32) (p3 : Int32) (r : Int32) (hq : F_StringLatin1_indexOfChar k p1 p2 p3 = some r) : Met l y_StringLatin1_indexOfChar ws_StringLatin1_indexOfChar rm_StringLatin1_indexOfChar (wP (dC, dI) vwCl [(cI, .int), (cZ, .boolean)] z [.ref (z.2 k), .int p1, .int p2, .int p3] [] sz) (wQi (dC, dI) vwCl [(cI, .int), (cZ, .boolean)] [] (va_A [] sz) r) 0 0 (va_A [] sz) := by
  refine Met.ofW (cc := b_StringLatin1_indexOfChar) (maxL := 6) (ret := (some .int)) (by decide) rfl ?_
  intro p e s m args below meth c s₁ B hml hv
  obtain ⟨rfl, hsz, hP, hK, hD0, hZ⟩ := hv
  have hx := B.exec
  have hb := B.bytes
  have hr := B.returns
  have hts := atoms_spec (ws := ws_StringLatin1_indexOfChar) B.pre
  have hown : s.vm.findClass RXl = some m.cls := findClass_of_methodNamed B.named
  have hlocks := B.notSynchronized
  have C : wcx p s m [.ref (z.2 k), .int p1, .int p2, .int p3].toArray meth c b_StringLatin1_indexOfChar (some .int) 6 RXl ws_StringLatin1_indexOfChar := ⟨hx, hb, hr, hml, hown, hts, hlocks⟩
  subst hsz
  have hD := hD0.self (sz := s.heap.size)
  generalize hAe : va_A [] s.heap.size = A at hD hZ ⊢
  have hA : ∀ q : Nat, s.heap.size ≤ q → A q := fun q h => by rw [← hAe]; exact Or.inr h
  have hS : va_S A s.heap s.heap [] := va_S.rf
  have hP : va_P (dC, dI) vwCl [] s.heap := hP
  have hl := lv_entry [.ref (z.2 k), .int p1, .int p2, .int p3] (n := 6) (Nat.le_of_ble_eq_true rfl)
  rw [lg_entry_eq]
  generalize (lg_sl [.ref (z.2 k), .int p1, .int p2, .int p3] ++ List.replicate (6 - (lg_sl [.ref (z.2 k), .int p1, .int p2, .int p3]).length) Slot.unset).toArray = ls at hl ⊢
  have hl : lv_has ls 6 [(0, .ref (z.2 k)), (1, .int p1), (2, .int p2), (3, .int p3)] := hl
  refine wentry hP hS hl (fun H locs ls hP hS hl => ?_)
  have h : (B_StringLatin1_indexOfChar_7 k fu) p3 (p1.toInt8.toInt32) p2 = some r := hq
  refine lv_iload_n hx hb d_StringLatin1_indexOfChar_0 rfl (lv_at hl 1 rfl) ?_
  refine lv_i2b hx hb d_StringLatin1_indexOfChar_1 rfl ?_
  refine lv_istore (lv' := [(4, .int (p1.toInt8.toInt32)), (0, .ref (z.2 k)), (1, .int p1), (2, .int p2), (3, .int p3)]) hx hb d_StringLatin1_indexOfChar_2 hl (by decide) rfl (fun ls hl => ?_)
  refine lv_iload_n hx hb d_StringLatin1_indexOfChar_4 rfl (lv_at hl 3 rfl) ?_
  refine lv_istore (lv' := [(5, .int p2), (4, .int (p1.toInt8.toInt32)), (0, .ref (z.2 k)), (1, .int p1), (2, .int p2), (3, .int p3)]) hx hb d_StringLatin1_indexOfChar_5 hl (by decide) rfl (fun ls hl => ?_)
  exact (kB_StringLatin1_indexOfChar_7 C hA hK hZ hk fu) p3 (p1.toInt8.toInt32) p2 _ _ _ h hP hD hS (lv_sub hl [2, 5, 1, 0] rfl)
abbrev rm_StringLatin1_indexOf : Room := { frames := 1, cells := 0, slots := 0, locals := 25 }
set_option maxHeartbeats 4000000 in
set_option maxRecDepth 100000 in
theorem c_StringLatin1_indexOf (l : Launch) (dC : Nat → ClassId) (dI : Nat → Nat → Nat) (cI cZ : ClassId) (z : zT) (k : Nat) (hk : k < 2) (sz : Nat) (p1 : Int32) (p2 : Int32) (p3 : Int32) (r : Int32) (hq : F_StringLatin1_indexOf k p1 p2 p3 = some r) : Met l y_StringLatin1_indexOf ws_StringLatin1_indexOf rm_StringLatin1_indexOf (wP (dC, dI) vwCl [(cI, .int), (cZ, .boolean)] z [.ref (z.2 k), .int p1, .int p2, .int p3] [] sz) (wQi (dC, dI) vwCl [(cI, .int), (cZ, .boolean)] [] (va_A [] sz) r) 0 0 (va_A [] sz) := by
  refine Met.ofW (cc := b_StringLatin1_indexOf) (maxL := 4) (ret := (some .int)) (by decide) rfl ?_
  intro p e s m args below meth c s₁ B hml hv
  obtain ⟨rfl, hsz, hP, hK, hD0, hZ⟩ := hv
  have hx := B.exec
  have hb := B.bytes
  have hr := B.returns
  have hts := atoms_spec (ws := ws_StringLatin1_indexOf) B.pre
  have hown : s.vm.findClass RXl = some m.cls := findClass_of_methodNamed B.named
  have hlocks := B.notSynchronized
  have C : wcx p s m [.ref (z.2 k), .int p1, .int p2, .int p3].toArray meth c b_StringLatin1_indexOf (some .int) 4 RXl ws_StringLatin1_indexOf := ⟨hx, hb, hr, hml, hown, hts, hlocks⟩
  subst hsz
  have hD := hD0.self (sz := s.heap.size)
  generalize hAe : va_A [] s.heap.size = A at hD hZ ⊢
  have hA : ∀ q : Nat, s.heap.size ≤ q → A q := fun q h => by rw [← hAe]; exact Or.inr h
  have hS : va_S A s.heap s.heap [] := va_S.rf
  have hP : va_P (dC, dI) vwCl [] s.heap := hP
  have hl := lv_entry [.ref (z.2 k), .int p1, .int p2, .int p3] (n := 4) (Nat.le_of_ble_eq_true rfl)
  rw [lg_entry_eq]
  generalize (lg_sl [.ref (z.2 k), .int p1, .int p2, .int p3] ++ List.replicate (4 - (lg_sl [.ref (z.2 k), .int p1, .int p2, .int p3]).length) Slot.unset).toArray = ls at hl ⊢
  have hl : lv_has ls 4 [(0, .ref (z.2 k)), (1, .int p1), (2, .int p2), (3, .int p3)] := hl
  refine wentry hP hS hl (fun H locs ls hP hS hl => ?_)
  have h : ((F_StringLatin1_canEncode p1).bind (fun r_6 => (if r_6 = 0 then (some (-1 : Int32)) else (if (if p2 < (0 : Int32) then (0 : Int32) else p2) < (if (Int32.ofNat (zlen.getD k 0)) < p3 then (Int32.ofNat (zlen.getD k 0)) else p3) then ((F_StringLatin1_indexOfChar k p1 (if p2 < (0 : Int32) then (0 : Int32) else p2) (if (Int32.ofNat (zlen.getD k 0)) < p3 then (Int32.ofNat (zlen.getD k 0)) else p3)).bind (fun r_9 => (some r_9))) else (some (-1 : Int32)))))) = some r := hq
  refine lv_iload_n hx hb d_StringLatin1_indexOf_0 rfl (lv_at hl 1 rfl) ?_
  obtain ⟨r_6, q_6, h⟩ := wbs h
  refine wcall_i (wr := []) (w1 := []) (ws' := []) (va_runS (As := [.int p1]) (rest := []) ⟨hx, hb, hml, hown, hts⟩ (c_StringLatin1_canEncode l dC dI cI cZ z H.size p1 r_6 q_6) (va_cwS 1 hts (wA_SA (fun w h => List.mem_cons_of_mem _ h) tw_278 tw_279 tw_9 tw_280) rfl rfl rfl (by decide +kernel) ⟨Nat.le_of_ble_eq_true rfl, Nat.le_of_ble_eq_true rfl⟩) (wpreS hK hP hD hS hA hZ [] (wc := []) rfl (by decide)) rfl rfl hl.1 rfl (lv_room (Nat.le_of_ble_eq_true rfl)) d_StringLatin1_indexOf_1 ⟨Nat.le_of_ble_eq_true rfl, Nat.le_of_ble_eq_true rfl⟩) hP hD hS hA [] [] [] rfl rfl (by decide) (by decide) (by decide) rfl (fun H locs hP hD hS => ?_)
  refine lv_if_ne (tgt := 9) hx hb d_StringLatin1_indexOf_4 (by decide) (fun c_7 => ?_) (fun c_7 => ?_)
  · have h := wif_n c_7 h
    refine lv_iload_n hx hb d_StringLatin1_indexOf_9 rfl (lv_at hl 2 rfl) ?_
    refine lv_iconst (v := 0) hx hb d_StringLatin1_indexOf_10 (by decide) ?_
    refine va_mmax hx hb (hml.trans hl.1.symm) hown (hts _ (List.mem_cons_of_mem _ tw_281)) (hts _ (List.mem_cons_of_mem _ tw_282)) (hts _ (List.mem_cons_of_mem _ tw_10)) (hts _ (List.mem_cons_of_mem _ tw_283)) (Nat.le_of_ble_eq_true rfl) (Nat.le_of_ble_eq_true rfl) (Nat.le_of_ble_eq_true rfl) (Nat.le_of_ble_eq_true rfl) d_StringLatin1_indexOf_11 ?_
    refine lv_istore_n (lv' := [(2, .int (if p2 < (0 : Int32) then (0 : Int32) else p2)), (0, .ref (z.2 k)), (1, .int p1), (3, .int p3)]) hx hb d_StringLatin1_indexOf_14 rfl hl (by decide) rfl (fun ls hl => ?_)
    refine lv_iload_n hx hb d_StringLatin1_indexOf_15 rfl (lv_at hl 3 rfl) ?_
    refine lv_aload_n hx hb d_StringLatin1_indexOf_16 rfl (lv_at hl 1 rfl) ?_
    refine va_tlen hx hb (zz_T hk hZ) hS rfl d_StringLatin1_indexOf_17 ?_
    refine va_mmin hx hb (hml.trans hl.1.symm) hown (hts _ (List.mem_cons_of_mem _ tw_284)) (hts _ (List.mem_cons_of_mem _ tw_285)) (hts _ (List.mem_cons_of_mem _ tw_10)) (hts _ (List.mem_cons_of_mem _ tw_286)) (Nat.le_of_ble_eq_true rfl) (Nat.le_of_ble_eq_true rfl) (Nat.le_of_ble_eq_true rfl) (Nat.le_of_ble_eq_true rfl) d_StringLatin1_indexOf_18 ?_
    refine lv_istore_n (lv' := [(3, .int (if (Int32.ofNat (zlen.getD k 0)) < p3 then (Int32.ofNat (zlen.getD k 0)) else p3)), (2, .int (if p2 < (0 : Int32) then (0 : Int32) else p2)), (0, .ref (z.2 k)), (1, .int p1)]) hx hb d_StringLatin1_indexOf_21 rfl hl (by decide) rfl (fun ls hl => ?_)
    refine lv_iload_n hx hb d_StringLatin1_indexOf_22 rfl (lv_at hl 1 rfl) ?_
    refine lv_iload_n hx hb d_StringLatin1_indexOf_23 rfl (lv_at hl 0 rfl) ?_
    refine lv_icmp_lt (tgt := 29) hx hb d_StringLatin1_indexOf_24 (by decide) (fun c_8 => ?_) (fun c_8 => ?_)
    · have h := wif_p c_8 h
      refine lv_aload_n hx hb d_StringLatin1_indexOf_29 rfl (lv_at hl 2 rfl) ?_
      refine lv_iload_n hx hb d_StringLatin1_indexOf_30 rfl (lv_at hl 3 rfl) ?_
      refine lv_iload_n hx hb d_StringLatin1_indexOf_31 rfl (lv_at hl 1 rfl) ?_
      refine lv_iload_n hx hb d_StringLatin1_indexOf_32 rfl (lv_at hl 0 rfl) ?_
      obtain ⟨r_9, q_9, h⟩ := wbs h
      refine wcall_i (wr := []) (w1 := []) (ws' := []) (va_runS (As := [.ref (z.2 k), .int p1, .int (if p2 < (0 : Int32) then (0 : Int32) else p2), .int (if (Int32.ofNat (zlen.getD k 0)) < p3 then (Int32.ofNat (zlen.getD k 0)) else p3)]) (rest := []) ⟨hx, hb, hml, hown, hts⟩ (c_StringLatin1_indexOfChar l dC dI cI cZ z k hk H.size p1 (if p2 < (0 : Int32) then (0 : Int32) else p2) (if (Int32.ofNat (zlen.getD k 0)) < p3 then (Int32.ofNat (zlen.getD k 0)) else p3) r_9 q_9) (va_cwS 4 hts (wA_SA (fun w h => List.mem_cons_of_mem _ h) tw_287 tw_288 tw_9 tw_289) rfl rfl rfl (by decide +kernel) ⟨Nat.le_of_ble_eq_true rfl, Nat.le_of_ble_eq_true rfl⟩) (wpreS hK hP hD hS hA hZ [] (wc := []) rfl (by decide)) rfl rfl hl.1 rfl (lv_room (Nat.le_of_ble_eq_true rfl)) d_StringLatin1_indexOf_33 ⟨Nat.le_of_ble_eq_true rfl, Nat.le_of_ble_eq_true rfl⟩) hP hD hS hA [] [] [] rfl rfl (by decide) (by decide) (by decide) rfl (fun H locs hP hD hS => ?_)
      have h := Option.some.inj h
      subst h
      exact W.iret hx hb hr (fun t ht hW => ⟨⟨_, (), rfl, rfl, by rw [ht]; exact hP, va_K.moved hW.alike hK, hD⟩, hS.F ht⟩) hS.2.2 d_StringLatin1_indexOf_36
    · have h := wif_n c_8 h
      refine lv_iconst (v := -1) hx hb d_StringLatin1_indexOf_27 (by decide) ?_
      have h := Option.some.inj h
      subst h
      exact W.iret hx hb hr (fun t ht hW => ⟨⟨_, (), rfl, rfl, by rw [ht]; exact hP, va_K.moved hW.alike hK, hD⟩, hS.F ht⟩) hS.2.2 d_StringLatin1_indexOf_28
  · have h := wif_p c_7 h
    refine lv_iconst (v := -1) hx hb d_StringLatin1_indexOf_7 (by decide) ?_
    have h := Option.some.inj h
    subst h
    exact W.iret hx hb hr (fun t ht hW => ⟨⟨_, (), rfl, rfl, by rw [ht]; exact hP, va_K.moved hW.alike hK, hD⟩, hS.F ht⟩) hS.2.2 d_StringLatin1_indexOf_8
abbrev rm_String_coder : Room := { frames := 0, cells := 0, slots := 0, locals := 0 }
set_option maxHeartbeats 4000000 in
set_option maxRecDepth 100000 in
theorem c_String_coder (l : Launch) (dC : Nat → ClassId) (dI : Nat → Nat → Nat) (cI cZ : ClassId) (z : zT) (k : Nat) (hk : k < 2) (sz : Nat) (r : Int32) (hq : F_String_coder k = some r) : Met l y_String_coder ws_String_coder rm_String_coder (wP (dC, dI) vwCl [(cI, .int), (cZ, .boolean)] z [.ref (z.1 k)] [] sz) (wQi (dC, dI) vwCl [(cI, .int), (cZ, .boolean)] [] (va_A [] sz) r) 0 0 (va_A [] sz) := by
  refine Met.ofW (cc := b_String_coder) (maxL := 1) (ret := (some .byte)) (by decide) rfl ?_
  intro p e s m args below meth c s₁ B hml hv
  obtain ⟨rfl, hsz, hP, hK, hD0, hZ⟩ := hv
  have hx := B.exec
  have hb := B.bytes
  have hr := B.returns
  have hts := atoms_spec (ws := ws_String_coder) B.pre
  have hown : s.vm.findClass RXs = some m.cls := findClass_of_methodNamed B.named
  have hlocks := B.notSynchronized
  have C : wcx p s m [.ref (z.1 k)].toArray meth c b_String_coder (some .byte) 1 RXs ws_String_coder := ⟨hx, hb, hr, hml, hown, hts, hlocks⟩
  subst hsz
  have hD := hD0.self (sz := s.heap.size)
  generalize hAe : va_A [] s.heap.size = A at hD hZ ⊢
  have hA : ∀ q : Nat, s.heap.size ≤ q → A q := fun q h => by rw [← hAe]; exact Or.inr h
  have hS : va_S A s.heap s.heap [] := va_S.rf
  have hP : va_P (dC, dI) vwCl [] s.heap := hP
  have hl := lv_entry [.ref (z.1 k)] (n := 1) (Nat.le_of_ble_eq_true rfl)
  rw [lg_entry_eq]
  generalize (lg_sl [.ref (z.1 k)] ++ List.replicate (1 - (lg_sl [.ref (z.1 k)]).length) Slot.unset).toArray = ls at hl ⊢
  have hl : lv_has ls 1 [(0, .ref (z.1 k))] := hl
  refine wentry hP hS hl (fun H locs ls hP hS hl => ?_)
  have h : (if (1 : Int32) = 0 then (some (1 : Int32)) else (some (0 : Int32))) = some r := hq
  refine va_gets hx hb (zz_Z hZ) hS hown (hts _ (List.mem_cons_of_mem _ tw_265)) (fun _ h9 => h9) d_String_coder_0 ?_
  refine lv_if_eq (tgt := 13) hx hb d_String_coder_3 (by decide) (fun c_10 => ?_) (fun c_10 => ?_)
  · have h := wif_p c_10 h
    refine lv_iconst (v := 1) hx hb d_String_coder_13 (by decide) ?_
    have h := Option.some.inj h
    subst h
    exact W.zret (ty := .byte) hx hb hr rfl (fun t ht hW => ⟨⟨_, (), rfl, rfl, by rw [ht]; exact hP, va_K.moved hW.alike hK, hD⟩, hS.F ht⟩) hS.2.2 d_String_coder_14
  · have h := wif_n c_10 h
    refine lv_aload_n hx hb d_String_coder_6 rfl (lv_at hl 0 rfl) ?_
    refine vk_getf hx hb (zz_C hk hZ) hS hown (hts _ (List.mem_cons_of_mem _ tw_774)) (fun _ h9 => h9) d_String_coder_7 ?_
    refine lv_goto (tgt := 14) hx hb d_String_coder_10 (by decide) ?_
    have h := Option.some.inj h
    subst h
    exact W.zret (ty := .byte) hx hb hr rfl (fun t ht hW => ⟨⟨_, (), rfl, rfl, by rw [ht]; exact hP, va_K.moved hW.alike hK, hD⟩, hS.F ht⟩) hS.2.2 d_String_coder_14
abbrev rm_String_length : Room := { frames := 1, cells := 0, slots := 0, locals := 20 }
set_option maxHeartbeats 4000000 in
set_option maxRecDepth 100000 in
theorem c_String_length (l : Launch) (dC : Nat → ClassId) (dI : Nat → Nat → Nat) (cI cZ : ClassId) (z : zT) (k : Nat) (hk : k < 2) (sz : Nat) (r : Int32) (hq : F_String_length k = some r) : Met l y_String_length ws_String_length rm_String_length (wP (dC, dI) vwCl [(cI, .int), (cZ, .boolean)] z [.ref (z.1 k)] [] sz) (wQi (dC, dI) vwCl [(cI, .int), (cZ, .boolean)] [] (va_A [] sz) r) 0 0 (va_A [] sz) := by
  refine Met.ofW (cc := b_String_length) (maxL := 1) (ret := (some .int)) (by decide) rfl ?_
  intro p e s m args below meth c s₁ B hml hv
  obtain ⟨rfl, hsz, hP, hK, hD0, hZ⟩ := hv
  have hx := B.exec
  have hb := B.bytes
  have hr := B.returns
  have hts := atoms_spec (ws := ws_String_length) B.pre
  have hown : s.vm.findClass RXs = some m.cls := findClass_of_methodNamed B.named
  have hlocks := B.notSynchronized
  have C : wcx p s m [.ref (z.1 k)].toArray meth c b_String_length (some .int) 1 RXs ws_String_length := ⟨hx, hb, hr, hml, hown, hts, hlocks⟩
  subst hsz
  have hD := hD0.self (sz := s.heap.size)
  generalize hAe : va_A [] s.heap.size = A at hD hZ ⊢
  have hA : ∀ q : Nat, s.heap.size ≤ q → A q := fun q h => by rw [← hAe]; exact Or.inr h
  have hS : va_S A s.heap s.heap [] := va_S.rf
  have hP : va_P (dC, dI) vwCl [] s.heap := hP
  have hl := lv_entry [.ref (z.1 k)] (n := 1) (Nat.le_of_ble_eq_true rfl)
  rw [lg_entry_eq]
  generalize (lg_sl [.ref (z.1 k)] ++ List.replicate (1 - (lg_sl [.ref (z.1 k)]).length) Slot.unset).toArray = ls at hl ⊢
  have hl : lv_has ls 1 [(0, .ref (z.1 k))] := hl
  refine wentry hP hS hl (fun H locs ls hP hS hl => ?_)
  have h : ((F_String_coder k).bind (fun r_11 => (some ((Int32.ofNat (zlen.getD k 0)) >>> (r_11 &&& 31))))) = some r := hq
  refine lv_aload_n hx hb d_String_length_0 rfl (lv_at hl 0 rfl) ?_
  refine vk_getf hx hb (zz_V hk hZ) hS hown (hts _ (List.mem_cons_of_mem _ tw_775)) (fun _ h9 => h9) d_String_length_1 ?_
  refine va_tlen hx hb (zz_T hk hZ) hS rfl d_String_length_4 ?_
  refine lv_aload_n hx hb d_String_length_5 rfl (lv_at hl 0 rfl) ?_
  obtain ⟨r_11, q_11, h⟩ := wbs h
  refine wcall_i (wr := []) (w1 := []) (ws' := []) (va_runV (As := []) (rest := [.int (Int32.ofNat (zlen.getD k 0))]) ⟨hx, hb, hml, hown, hts⟩ (c_String_coder l dC dI cI cZ z k hk H.size r_11 q_11) (cwV 0 hts (wA_V (fun w h => List.mem_cons_of_mem _ h) tw_271 tw_272 tw_273 tw_8 tw_274) rfl rfl rfl (by decide +kernel) ⟨Nat.le_of_ble_eq_true rfl, Nat.le_of_ble_eq_true rfl⟩) (wpreR hK hP hD hS hA hZ hk) rfl rfl hl.1 rfl (lv_room (Nat.le_of_ble_eq_true rfl)) d_String_length_6 ⟨Nat.le_of_ble_eq_true rfl, Nat.le_of_ble_eq_true rfl⟩) hP hD hS hA [] [] [] rfl rfl (by decide) (by decide) (by decide) rfl (fun H locs hP hD hS => ?_)
  refine lv_ishr hx hb d_String_length_9 ?_
  have h := Option.some.inj h
  subst h
  exact W.iret hx hb hr (fun t ht hW => ⟨⟨_, (), rfl, rfl, by rw [ht]; exact hP, va_K.moved hW.alike hK, hD⟩, hS.F ht⟩) hS.2.2 d_String_length_10
abbrev rm_String_isLatin1 : Room := { frames := 0, cells := 0, slots := 0, locals := 0 }
set_option maxHeartbeats 4000000 in
set_option maxRecDepth 100000 in
theorem c_String_isLatin1 (l : Launch) (dC : Nat → ClassId) (dI : Nat → Nat → Nat) (cI cZ : ClassId) (z : zT) (k : Nat) (hk : k < 2) (sz : Nat) (r : Int32) (hq : F_String_isLatin1 k = some r) : Met l y_String_isLatin1 ws_String_isLatin1 rm_String_isLatin1 (wP (dC, dI) vwCl [(cI, .int), (cZ, .boolean)] z [.ref (z.1 k)] [] sz) (wQi (dC, dI) vwCl [(cI, .int), (cZ, .boolean)] [] (va_A [] sz) r) 0 0 (va_A [] sz) := by
  refine Met.ofW (cc := b_String_isLatin1) (maxL := 1) (ret := (some .boolean)) (by decide) rfl ?_
  intro p e s m args below meth c s₁ B hml hv
  obtain ⟨rfl, hsz, hP, hK, hD0, hZ⟩ := hv
  have hx := B.exec
  have hb := B.bytes
  have hr := B.returns
  have hts := atoms_spec (ws := ws_String_isLatin1) B.pre
  have hown : s.vm.findClass RXs = some m.cls := findClass_of_methodNamed B.named
  have hlocks := B.notSynchronized
  have C : wcx p s m [.ref (z.1 k)].toArray meth c b_String_isLatin1 (some .boolean) 1 RXs ws_String_isLatin1 := ⟨hx, hb, hr, hml, hown, hts, hlocks⟩
  subst hsz
  have hD := hD0.self (sz := s.heap.size)
  generalize hAe : va_A [] s.heap.size = A at hD hZ ⊢
  have hA : ∀ q : Nat, s.heap.size ≤ q → A q := fun q h => by rw [← hAe]; exact Or.inr h
  have hS : va_S A s.heap s.heap [] := va_S.rf
  have hP : va_P (dC, dI) vwCl [] s.heap := hP
  have hl := lv_entry [.ref (z.1 k)] (n := 1) (Nat.le_of_ble_eq_true rfl)
  rw [lg_entry_eq]
  generalize (lg_sl [.ref (z.1 k)] ++ List.replicate (1 - (lg_sl [.ref (z.1 k)]).length) Slot.unset).toArray = ls at hl ⊢
  have hl : lv_has ls 1 [(0, .ref (z.1 k))] := hl
  refine wentry hP hS hl (fun H locs ls hP hS hl => ?_)
  have h : (if (1 : Int32) = 0 then (some (0 : Int32)) else (if (0 : Int32) = 0 then (some (1 : Int32)) else (some (0 : Int32)))) = some r := hq
  refine va_gets hx hb (zz_Z hZ) hS hown (hts _ (List.mem_cons_of_mem _ tw_265)) (fun _ h9 => h9) d_String_isLatin1_0 ?_
  refine lv_if_eq (tgt := 17) hx hb d_String_isLatin1_3 (by decide) (fun c_12 => ?_) (fun c_12 => ?_)
  · have h := wif_p c_12 h
    refine lv_iconst (v := 0) hx hb d_String_isLatin1_17 (by decide) ?_
    have h := Option.some.inj h
    subst h
    exact W.zret (ty := .boolean) hx hb hr rfl (fun t ht hW => ⟨⟨_, (), rfl, rfl, by rw [ht]; exact hP, va_K.moved hW.alike hK, hD⟩, hS.F ht⟩) hS.2.2 d_String_isLatin1_18
  · have h := wif_n c_12 h
    refine lv_aload_n hx hb d_String_isLatin1_6 rfl (lv_at hl 0 rfl) ?_
    refine vk_getf hx hb (zz_C hk hZ) hS hown (hts _ (List.mem_cons_of_mem _ tw_774)) (fun _ h9 => h9) d_String_isLatin1_7 ?_
    refine lv_if_ne (tgt := 17) hx hb d_String_isLatin1_10 (by decide) (fun c_13 => ?_) (fun c_13 => ?_)
    · have h := wif_n c_13 h
      refine lv_iconst (v := 0) hx hb d_String_isLatin1_17 (by decide) ?_
      have h := Option.some.inj h
      subst h
      exact W.zret (ty := .boolean) hx hb hr rfl (fun t ht hW => ⟨⟨_, (), rfl, rfl, by rw [ht]; exact hP, va_K.moved hW.alike hK, hD⟩, hS.F ht⟩) hS.2.2 d_String_isLatin1_18
    · have h := wif_p c_13 h
      refine lv_iconst (v := 1) hx hb d_String_isLatin1_13 (by decide) ?_
      refine lv_goto (tgt := 18) hx hb d_String_isLatin1_14 (by decide) ?_
      have h := Option.some.inj h
      subst h
      exact W.zret (ty := .boolean) hx hb hr rfl (fun t ht hW => ⟨⟨_, (), rfl, rfl, by rw [ht]; exact hP, va_K.moved hW.alike hK, hD⟩, hS.F ht⟩) hS.2.2 d_String_isLatin1_18
abbrev rm_String_indexOf2 : Room := { frames := 2, cells := 0, slots := 0, locals := 48 }
set_option maxHeartbeats 4000000 in
set_option maxRecDepth 100000 in
theorem c_String_indexOf2 (l : Launch) (dC : Nat → ClassId) (dI : Nat → Nat → Nat) (cI cZ : ClassId) (z : zT) (k : Nat) (hk : k < 2) (sz : Nat) (p0 : Int32) (p1 : Int32) (r : Int32) (hq : F_String_indexOf2 k p0 p1 = some r) : Met l y_String_indexOf2 ws_String_indexOf2 rm_String_indexOf2 (wP (dC, dI) vwCl [(cI, .int), (cZ, .boolean)] z [.ref (z.1 k), .int p0, .int p1] [] sz) (wQi (dC, dI) vwCl [(cI, .int), (cZ, .boolean)] [] (va_A [] sz) r) 0 0 (va_A [] sz) := by
  refine Met.ofW (cc := b_String_indexOf2) (maxL := 3) (ret := (some .int)) (by decide) rfl ?_
  intro p e s m args below meth c s₁ B hml hv
  obtain ⟨rfl, hsz, hP, hK, hD0, hZ⟩ := hv
  have hx := B.exec
  have hb := B.bytes
  have hr := B.returns
  have hts := atoms_spec (ws := ws_String_indexOf2) B.pre
  have hown : s.vm.findClass RXs = some m.cls := findClass_of_methodNamed B.named
  have hlocks := B.notSynchronized
  have C : wcx p s m [.ref (z.1 k), .int p0, .int p1].toArray meth c b_String_indexOf2 (some .int) 3 RXs ws_String_indexOf2 := ⟨hx, hb, hr, hml, hown, hts, hlocks⟩
  subst hsz
  have hD := hD0.self (sz := s.heap.size)
  generalize hAe : va_A [] s.heap.size = A at hD hZ ⊢
  have hA : ∀ q : Nat, s.heap.size ≤ q → A q := fun q h => by rw [← hAe]; exact Or.inr h
  have hS : va_S A s.heap s.heap [] := va_S.rf
  have hP : va_P (dC, dI) vwCl [] s.heap := hP
  have hl := lv_entry [.ref (z.1 k), .int p0, .int p1] (n := 3) (Nat.le_of_ble_eq_true rfl)
  rw [lg_entry_eq]
  generalize (lg_sl [.ref (z.1 k), .int p0, .int p1] ++ List.replicate (3 - (lg_sl [.ref (z.1 k), .int p0, .int p1]).length) Slot.unset).toArray = ls at hl ⊢
  have hl : lv_has ls 3 [(0, .ref (z.1 k)), (1, .int p0), (2, .int p1)] := hl
  refine wentry hP hS hl (fun H locs ls hP hS hl => ?_)
  have h : ((F_String_isLatin1 k).bind (fun r_14 => (if r_14 = 0 then none else ((F_String_length k).bind (fun r_16 => ((F_StringLatin1_indexOf k p0 p1 r_16).bind (fun r_17 => (some r_17)))))))) = some r := hq
  refine lv_aload_n hx hb d_String_indexOf2_0 rfl (lv_at hl 0 rfl) ?_
  obtain ⟨r_14, q_14, h⟩ := wbs h
  refine wcall_i (wr := []) (w1 := []) (ws' := []) (va_runV (As := []) (rest := []) ⟨hx, hb, hml, hown, hts⟩ (c_String_isLatin1 l dC dI cI cZ z k hk H.size r_14 q_14) (cwV 0 hts (wA_V (fun w h => List.mem_cons_of_mem _ h) tw_261 tw_262 tw_263 tw_8 tw_264) rfl rfl rfl (by decide +kernel) ⟨Nat.le_of_ble_eq_true rfl, Nat.le_of_ble_eq_true rfl⟩) (wpreR hK hP hD hS hA hZ hk) rfl rfl hl.1 rfl (lv_room (Nat.le_of_ble_eq_true rfl)) d_String_indexOf2_1 ⟨Nat.le_of_ble_eq_true rfl, Nat.le_of_ble_eq_true rfl⟩) hP hD hS hA [] [] [] rfl rfl (by decide) (by decide) (by decide) rfl (fun H locs hP hD hS => ?_)
  refine lv_if_eq (tgt := 23) hx hb d_String_indexOf2_4 (by decide) (fun c_15 => ?_) (fun c_15 => ?_)
  · have h := wif_p c_15 h
    exact absurd h (fun z => by cases z)
  · have h := wif_n c_15 h
    refine lv_aload_n hx hb d_String_indexOf2_7 rfl (lv_at hl 0 rfl) ?_
    refine vk_getf hx hb (zz_V hk hZ) hS hown (hts _ (List.mem_cons_of_mem _ tw_775)) (fun _ h9 => h9) d_String_indexOf2_8 ?_
    refine lv_iload_n hx hb d_String_indexOf2_11 rfl (lv_at hl 1 rfl) ?_
    refine lv_iload_n hx hb d_String_indexOf2_12 rfl (lv_at hl 2 rfl) ?_
    refine lv_aload_n hx hb d_String_indexOf2_13 rfl (lv_at hl 0 rfl) ?_
    obtain ⟨r_16, q_16, h⟩ := wbs h
    refine wcall_i (wr := []) (w1 := []) (ws' := []) (va_runV (As := []) (rest := [.int p1, .int p0, .ref (z.2 k)]) ⟨hx, hb, hml, hown, hts⟩ (c_String_length l dC dI cI cZ z k hk H.size r_16 q_16) (cwV 0 hts (wA_V (fun w h => List.mem_cons_of_mem _ h) tw_267 tw_268 tw_269 tw_8 tw_270) rfl rfl rfl (by decide +kernel) ⟨Nat.le_of_ble_eq_true rfl, Nat.le_of_ble_eq_true rfl⟩) (wpreR hK hP hD hS hA hZ hk) rfl rfl hl.1 rfl (lv_room (Nat.le_of_ble_eq_true rfl)) d_String_indexOf2_14 ⟨Nat.le_of_ble_eq_true rfl, Nat.le_of_ble_eq_true rfl⟩) hP hD hS hA [] [] [] rfl rfl (by decide) (by decide) (by decide) rfl (fun H locs hP hD hS => ?_)
    obtain ⟨r_17, q_17, h⟩ := wbs h
    refine wcall_i (wr := []) (w1 := []) (ws' := []) (va_runS (As := [.ref (z.2 k), .int p0, .int p1, .int r_16]) (rest := []) ⟨hx, hb, hml, hown, hts⟩ (c_StringLatin1_indexOf l dC dI cI cZ z k hk H.size p0 p1 r_16 r_17 q_17) (va_cwS 4 hts (wA_SA (fun w h => List.mem_cons_of_mem _ h) tw_275 tw_276 tw_9 tw_277) rfl rfl rfl (by decide +kernel) ⟨Nat.le_of_ble_eq_true rfl, Nat.le_of_ble_eq_true rfl⟩) (wpreS hK hP hD hS hA hZ [] (wc := []) rfl (by decide)) rfl rfl hl.1 rfl (lv_room (Nat.le_of_ble_eq_true rfl)) d_String_indexOf2_17 ⟨Nat.le_of_ble_eq_true rfl, Nat.le_of_ble_eq_true rfl⟩) hP hD hS hA [] [] [] rfl rfl (by decide) (by decide) (by decide) rfl (fun H locs hP hD hS => ?_)
    refine lv_goto (tgt := 36) hx hb d_String_indexOf2_20 (by decide) ?_
    have h := Option.some.inj h
    subst h
    exact W.iret hx hb hr (fun t ht hW => ⟨⟨_, (), rfl, rfl, by rw [ht]; exact hP, va_K.moved hW.alike hK, hD⟩, hS.F ht⟩) hS.2.2 d_String_indexOf2_36
abbrev rm_String_indexOf : Room := { frames := 3, cells := 0, slots := 0, locals := 70 }
set_option maxHeartbeats 4000000 in
set_option maxRecDepth 100000 in
theorem c_String_indexOf (l : Launch) (dC : Nat → ClassId) (dI : Nat → Nat → Nat) (cI cZ : ClassId) (z : zT) (k : Nat) (hk : k < 2) (sz : Nat) (p0 : Int32) (r : Int32) (hq : F_String_indexOf k p0 = some r) : Met l y_String_indexOf ws_String_indexOf rm_String_indexOf (wP (dC, dI) vwCl [(cI, .int), (cZ, .boolean)] z [.ref (z.1 k), .int p0] [] sz) (wQi (dC, dI) vwCl [(cI, .int), (cZ, .boolean)] [] (va_A [] sz) r) 0 0 (va_A [] sz) := by
  refine Met.ofW (cc := b_String_indexOf) (maxL := 2) (ret := (some .int)) (by decide) rfl ?_
  intro p e s m args below meth c s₁ B hml hv
  obtain ⟨rfl, hsz, hP, hK, hD0, hZ⟩ := hv
  have hx := B.exec
  have hb := B.bytes
  have hr := B.returns
  have hts := atoms_spec (ws := ws_String_indexOf) B.pre
  have hown : s.vm.findClass RXs = some m.cls := findClass_of_methodNamed B.named
  have hlocks := B.notSynchronized
  have C : wcx p s m [.ref (z.1 k), .int p0].toArray meth c b_String_indexOf (some .int) 2 RXs ws_String_indexOf := ⟨hx, hb, hr, hml, hown, hts, hlocks⟩
  subst hsz
  have hD := hD0.self (sz := s.heap.size)
  generalize hAe : va_A [] s.heap.size = A at hD hZ ⊢
  have hA : ∀ q : Nat, s.heap.size ≤ q → A q := fun q h => by rw [← hAe]; exact Or.inr h
  have hS : va_S A s.heap s.heap [] := va_S.rf
  have hP : va_P (dC, dI) vwCl [] s.heap := hP
  have hl := lv_entry [.ref (z.1 k), .int p0] (n := 2) (Nat.le_of_ble_eq_true rfl)
  rw [lg_entry_eq]
  generalize (lg_sl [.ref (z.1 k), .int p0] ++ List.replicate (2 - (lg_sl [.ref (z.1 k), .int p0]).length) Slot.unset).toArray = ls at hl ⊢
  have hl : lv_has ls 2 [(0, .ref (z.1 k)), (1, .int p0)] := hl
  refine wentry hP hS hl (fun H locs ls hP hS hl => ?_)
  have h : ((F_String_indexOf2 k p0 (0 : Int32)).bind (fun r_18 => (some r_18))) = some r := hq
  refine lv_aload_n hx hb d_String_indexOf_0 rfl (lv_at hl 0 rfl) ?_
  refine lv_iload_n hx hb d_String_indexOf_1 rfl (lv_at hl 1 rfl) ?_
  refine lv_iconst (v := 0) hx hb d_String_indexOf_2 (by decide) ?_
  obtain ⟨r_18, q_18, h⟩ := wbs h
  refine wcall_i (wr := []) (w1 := []) (ws' := []) (va_runV (As := [.int p0, .int (0 : Int32)]) (rest := []) ⟨hx, hb, hml, hown, hts⟩ (c_String_indexOf2 l dC dI cI cZ z k hk H.size p0 (0 : Int32) r_18 q_18) (cwV 2 hts (wA_V (fun w h => List.mem_cons_of_mem _ h) tw_257 tw_258 tw_259 tw_8 tw_260) rfl rfl rfl (by decide +kernel) ⟨Nat.le_of_ble_eq_true rfl, Nat.le_of_ble_eq_true rfl⟩) (wpreR hK hP hD hS hA hZ hk) rfl rfl hl.1 rfl (lv_room (Nat.le_of_ble_eq_true rfl)) d_String_indexOf_3 ⟨Nat.le_of_ble_eq_true rfl, Nat.le_of_ble_eq_true rfl⟩) hP hD hS hA [] [] [] rfl rfl (by decide) (by decide) (by decide) rfl (fun H locs hP hD hS => ?_)
  have h := Option.some.inj h
  subst h
  exact W.iret hx hb hr (fun t ht hW => ⟨⟨_, (), rfl, rfl, by rw [ht]; exact hP, va_K.moved hW.alike hK, hD⟩, hS.F ht⟩) hS.2.2 d_String_indexOf_6
