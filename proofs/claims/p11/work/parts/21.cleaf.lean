abbrev rm_EditMoves_isDigit : Room := { frames := 0, cells := 0, slots := 0, locals := 0 }
set_option maxHeartbeats 4000000 in
set_option maxRecDepth 100000 in
theorem c_EditMoves_isDigit (l : Launch) (dC : Nat → ClassId) (dI : Nat → Nat → Nat) (cI cZ : ClassId) (z : zT) (sz : Nat) (p0 : Int32) (r : Int32) (hq : F_EditMoves_isDigit p0 = some r) : Met l y_EditMoves_isDigit ws_EditMoves_isDigit rm_EditMoves_isDigit (wP (dC, dI) vwCl [(cI, .int), (cZ, .boolean)] z [.int p0] [] sz) (wQi (dC, dI) vwCl [(cI, .int), (cZ, .boolean)] [] (va_A [] sz) r) 0 0 (va_A [] sz) := by
  refine Met.ofW (cc := b_EditMoves_isDigit) (maxL := 1) (ret := (some .boolean)) (by decide) rfl ?_
  intro p e s m args below meth c s₁ B hml hv
  obtain ⟨rfl, hsz, hP, hK, hD0, hZ⟩ := hv
  have hx := B.exec
  have hb := B.bytes
  have hr := B.returns
  have hts := atoms_spec (ws := ws_EditMoves_isDigit) B.pre
  have hown : s.vm.findClass RX5 = some m.cls := findClass_of_methodNamed B.named
  have hlocks := B.notSynchronized
  have C : wcx p s m [.int p0].toArray meth c b_EditMoves_isDigit (some .boolean) 1 RX5 ws_EditMoves_isDigit := ⟨hx, hb, hr, hml, hown, hts, hlocks⟩
  subst hsz
  have hD := hD0.self (sz := s.heap.size)
  generalize hAe : va_A [] s.heap.size = A at hD hZ ⊢
  have hA : ∀ q : Nat, s.heap.size ≤ q → A q := fun q h => by rw [← hAe]; exact Or.inr h
  have hS : va_S A s.heap s.heap [] := va_S.rf
  have hP : va_P (dC, dI) vwCl [] s.heap := hP
  have hl := lv_entry [.int p0] (n := 1) (Nat.le_of_ble_eq_true rfl)
  rw [lg_entry_eq]
  generalize (lg_sl [.int p0] ++ List.replicate (1 - (lg_sl [.int p0]).length) Slot.unset).toArray = ls at hl ⊢
  have hl : lv_has ls 1 [(0, .int p0)] := hl
  refine wentry hP hS hl (fun H locs ls hP hS hl => ?_)
  have h : (if p0 < (48 : Int32) then (some (0 : Int32)) else (if (57 : Int32) < p0 then (some (0 : Int32)) else (some (1 : Int32)))) = some r := hq
  refine lv_iload_n hx hb d_EditMoves_isDigit_0 rfl (lv_at hl 0 rfl) ?_
  refine lv_bipush (v := 48) hx hb d_EditMoves_isDigit_1 (by decide) ?_
  refine lv_icmp_lt (tgt := 16) hx hb d_EditMoves_isDigit_3 (by decide) (fun c_19 => ?_) (fun c_19 => ?_)
  · have h := wif_p c_19 h
    refine lv_iconst (v := 0) hx hb d_EditMoves_isDigit_16 (by decide) ?_
    have h := Option.some.inj h
    subst h
    exact W.zret (ty := .boolean) hx hb hr rfl (fun t ht hW => ⟨⟨_, (), rfl, rfl, by rw [ht]; exact hP, va_K.moved hW.alike hK, hD⟩, hS.F ht⟩) hS.2.2 d_EditMoves_isDigit_17
  · have h := wif_n c_19 h
    refine lv_iload_n hx hb d_EditMoves_isDigit_6 rfl (lv_at hl 0 rfl) ?_
    refine lv_bipush (v := 57) hx hb d_EditMoves_isDigit_7 (by decide) ?_
    refine lv_icmp_gt (tgt := 16) hx hb d_EditMoves_isDigit_9 (by decide) (fun c_20 => ?_) (fun c_20 => ?_)
    · have h := wif_p c_20 h
      refine lv_iconst (v := 0) hx hb d_EditMoves_isDigit_16 (by decide) ?_
      have h := Option.some.inj h
      subst h
      exact W.zret (ty := .boolean) hx hb hr rfl (fun t ht hW => ⟨⟨_, (), rfl, rfl, by rw [ht]; exact hP, va_K.moved hW.alike hK, hD⟩, hS.F ht⟩) hS.2.2 d_EditMoves_isDigit_17
    · have h := wif_n c_20 h
      refine lv_iconst (v := 1) hx hb d_EditMoves_isDigit_12 (by decide) ?_
      refine lv_goto (tgt := 17) hx hb d_EditMoves_isDigit_13 (by decide) ?_
      have h := Option.some.inj h
      subst h
      exact W.zret (ty := .boolean) hx hb hr rfl (fun t ht hW => ⟨⟨_, (), rfl, rfl, by rw [ht]; exact hP, va_K.moved hW.alike hK, hD⟩, hS.F ht⟩) hS.2.2 d_EditMoves_isDigit_17
abbrev rm_EditMoves_toGreat : Room := { frames := 0, cells := 0, slots := 0, locals := 0 }
set_option maxHeartbeats 4000000 in
set_option maxRecDepth 100000 in
theorem c_EditMoves_toGreat (l : Launch) (dC : Nat → ClassId) (dI : Nat → Nat → Nat) (cI cZ : ClassId) (z : zT) (sz : Nat) (p0 : Int32) (r : Int32) (hq : F_EditMoves_toGreat p0 = some r) : Met l y_EditMoves_toGreat ws_EditMoves_toGreat rm_EditMoves_toGreat (wP (dC, dI) vwCl [(cI, .int), (cZ, .boolean)] z [.int p0] [] sz) (wQi (dC, dI) vwCl [(cI, .int), (cZ, .boolean)] [] (va_A [] sz) r) 0 0 (va_A [] sz) := by
  refine Met.ofW (cc := b_EditMoves_toGreat) (maxL := 1) (ret := (some .int)) (by decide) rfl ?_
  intro p e s m args below meth c s₁ B hml hv
  obtain ⟨rfl, hsz, hP, hK, hD0, hZ⟩ := hv
  have hx := B.exec
  have hb := B.bytes
  have hr := B.returns
  have hts := atoms_spec (ws := ws_EditMoves_toGreat) B.pre
  have hown : s.vm.findClass RX5 = some m.cls := findClass_of_methodNamed B.named
  have hlocks := B.notSynchronized
  have C : wcx p s m [.int p0].toArray meth c b_EditMoves_toGreat (some .int) 1 RX5 ws_EditMoves_toGreat := ⟨hx, hb, hr, hml, hown, hts, hlocks⟩
  subst hsz
  have hD := hD0.self (sz := s.heap.size)
  generalize hAe : va_A [] s.heap.size = A at hD hZ ⊢
  have hA : ∀ q : Nat, s.heap.size ≤ q → A q := fun q h => by rw [← hAe]; exact Or.inr h
  have hS : va_S A s.heap s.heap [] := va_S.rf
  have hP : va_P (dC, dI) vwCl [] s.heap := hP
  have hl := lv_entry [.int p0] (n := 1) (Nat.le_of_ble_eq_true rfl)
  rw [lg_entry_eq]
  generalize (lg_sl [.int p0] ++ List.replicate (1 - (lg_sl [.int p0]).length) Slot.unset).toArray = ls at hl ⊢
  have hl : lv_has ls 1 [(0, .int p0)] := hl
  refine wentry hP hS hl (fun H locs ls hP hS hl => ?_)
  have h : (if p0 < (97 : Int32) then (some p0) else (if (122 : Int32) < p0 then (some p0) else (some ((p0 - (97 : Int32)) + (65 : Int32))))) = some r := hq
  refine lv_iload_n hx hb d_EditMoves_toGreat_0 rfl (lv_at hl 0 rfl) ?_
  refine lv_bipush (v := 97) hx hb d_EditMoves_toGreat_1 (by decide) ?_
  refine lv_icmp_lt (tgt := 22) hx hb d_EditMoves_toGreat_3 (by decide) (fun c_21 => ?_) (fun c_21 => ?_)
  · have h := wif_p c_21 h
    refine lv_iload_n hx hb d_EditMoves_toGreat_22 rfl (lv_at hl 0 rfl) ?_
    have h := Option.some.inj h
    subst h
    exact W.iret hx hb hr (fun t ht hW => ⟨⟨_, (), rfl, rfl, by rw [ht]; exact hP, va_K.moved hW.alike hK, hD⟩, hS.F ht⟩) hS.2.2 d_EditMoves_toGreat_23
  · have h := wif_n c_21 h
    refine lv_iload_n hx hb d_EditMoves_toGreat_6 rfl (lv_at hl 0 rfl) ?_
    refine lv_bipush (v := 122) hx hb d_EditMoves_toGreat_7 (by decide) ?_
    refine lv_icmp_gt (tgt := 22) hx hb d_EditMoves_toGreat_9 (by decide) (fun c_22 => ?_) (fun c_22 => ?_)
    · have h := wif_p c_22 h
      refine lv_iload_n hx hb d_EditMoves_toGreat_22 rfl (lv_at hl 0 rfl) ?_
      have h := Option.some.inj h
      subst h
      exact W.iret hx hb hr (fun t ht hW => ⟨⟨_, (), rfl, rfl, by rw [ht]; exact hP, va_K.moved hW.alike hK, hD⟩, hS.F ht⟩) hS.2.2 d_EditMoves_toGreat_23
    · have h := wif_n c_22 h
      refine lv_iload_n hx hb d_EditMoves_toGreat_12 rfl (lv_at hl 0 rfl) ?_
      refine lv_bipush (v := 97) hx hb d_EditMoves_toGreat_13 (by decide) ?_
      refine lv_isub hx hb d_EditMoves_toGreat_15 ?_
      refine lv_bipush (v := 65) hx hb d_EditMoves_toGreat_16 (by decide) ?_
      refine lv_iadd hx hb d_EditMoves_toGreat_18 ?_
      refine lv_goto (tgt := 23) hx hb d_EditMoves_toGreat_19 (by decide) ?_
      have h := Option.some.inj h
      subst h
      exact W.iret hx hb hr (fun t ht hW => ⟨⟨_, (), rfl, rfl, by rw [ht]; exact hP, va_K.moved hW.alike hK, hD⟩, hS.F ht⟩) hS.2.2 d_EditMoves_toGreat_23
abbrev rm_Line_clear : Room := { frames := 0, cells := 0, slots := 0, locals := 0 }
set_option maxHeartbeats 4000000 in
set_option maxRecDepth 100000 in
theorem c_Line_clear (l : Launch) (dC : Nat → ClassId) (dI : Nat → Nat → Nat) (cI cZ : ClassId) (z : zT) (h_t h_t_row : Nat) (sz : Nat) (v_t_length : Int32) (r : Int32) (hq : F_Line_clear v_t_length = some r) : Met l y_Line_clear ws_Line_clear rm_Line_clear (wP (dC, dI) vwCl [(cI, .int), (cZ, .boolean)] z [.ref h_t] [(h_t, .inr (2, [.ref h_t_row, .int v_t_length]))] sz) (wQv (dC, dI) vwCl [(cI, .int), (cZ, .boolean)] [(h_t, .inr (2, [.ref h_t_row, .int r]))] (va_A [(h_t, .inr (2, [.ref h_t_row, .int v_t_length]))] sz)) 0 0 (va_A [(h_t, .inr (2, [.ref h_t_row, .int v_t_length]))] sz) := by
  refine Met.ofW (cc := b_Line_clear) (maxL := 1) (ret := none) (by decide) rfl ?_
  intro p e s m args below meth c s₁ B hml hv
  obtain ⟨rfl, hsz, hP, hK, hD0, hZ⟩ := hv
  have hx := B.exec
  have hb := B.bytes
  have hr := B.returns
  have hts := atoms_spec (ws := ws_Line_clear) B.pre
  have hown : s.vm.findClass RX2 = some m.cls := findClass_of_methodNamed B.named
  have hlocks := B.notSynchronized
  have C : wcx p s m [.ref h_t].toArray meth c b_Line_clear none 1 RX2 ws_Line_clear := ⟨hx, hb, hr, hml, hown, hts, hlocks⟩
  subst hsz
  have hD := hD0.self (sz := s.heap.size)
  generalize hAe : va_A [(h_t, .inr (2, [.ref h_t_row, .int v_t_length]))] s.heap.size = A at hD hZ ⊢
  have hA : ∀ q : Nat, s.heap.size ≤ q → A q := fun q h => by rw [← hAe]; exact Or.inr h
  have hS : va_S A s.heap s.heap [] := va_S.rf
  have hP : va_P (dC, dI) vwCl [(h_t, .inr (2, [.ref h_t_row, .int v_t_length]))] s.heap := hP
  have hl := lv_entry [.ref h_t] (n := 1) (Nat.le_of_ble_eq_true rfl)
  rw [lg_entry_eq]
  generalize (lg_sl [.ref h_t] ++ List.replicate (1 - (lg_sl [.ref h_t]).length) Slot.unset).toArray = ls at hl ⊢
  have hl : lv_has ls 1 [(0, .ref h_t)] := hl
  refine wentry hP hS hl (fun H locs ls hP hS hl => ?_)
  have h : (some (0 : Int32)) = some r := hq
  refine lv_aload_n hx hb d_Line_clear_0 rfl (lv_at hl 0 rfl) ?_
  refine lv_iconst (v := 0) hx hb d_Line_clear_1 (by decide) ?_
  refine va_put (D := (dC, dI)) (ci := 2) (v := .int (0 : Int32)) (ty := tyX2 1) (C := RX2) (T := TX2) (N := 2) hx hb hts (fun w h => List.mem_cons_of_mem _ (tu_2 w h)) tyX2 tyX2_ok nmX2 hown hK hP hD hS 0 rfl rfl 1 (by decide) (hts _ (List.mem_cons_of_mem _ tw_29)) (fun _ h9 => h9) rfl (tyX2_ok 1 (by decide)) rfl rfl (Nat.le_of_ble_eq_true rfl) d_Line_clear_2 (fun H locs hP hD hS => ?_)
  have hP : va_P (dC, dI) vwCl [(h_t, .inr (2, [.ref h_t_row, .int (0 : Int32)]))] H := hP
  have hD : va_D A [(h_t, .inr (2, [.ref h_t_row, .int (0 : Int32)]))] := hD
  have h := Option.some.inj h
  subst h
  exact W.vret hx hb hr (fun t ht hW => ⟨⟨(), rfl, trivial, by rw [ht]; exact hP, va_K.moved hW.alike hK, hD⟩, hS.F ht⟩) hS.2.2 d_Line_clear_5
abbrev rm_Line_add : Room := { frames := 0, cells := 0, slots := 0, locals := 0 }
set_option maxHeartbeats 4000000 in
set_option maxRecDepth 100000 in
theorem c_Line_add (l : Launch) (dC : Nat → ClassId) (dI : Nat → Nat → Nat) (cI cZ : ClassId) (z : zT) (h_t h_t_row : Nat) (sz : Nat) (v_t_length : Int32) (v_t_row : Nat → Int32) (p0 : Int32) (r : Int32 × (Nat → Int32)) (hq : F_Line_add v_t_length v_t_row p0 = some r) : Met l y_Line_add ws_Line_add rm_Line_add (wP (dC, dI) vwCl [(cI, .int), (cZ, .boolean)] z [.ref h_t, .int p0] [(h_t, .inr (2, [.ref h_t_row, .int v_t_length])), (h_t_row, .inl (cI, 60, .inl v_t_row))] sz) (wQv (dC, dI) vwCl [(cI, .int), (cZ, .boolean)] [(h_t, .inr (2, [.ref h_t_row, .int r.1])), (h_t_row, .inl (cI, 60, .inl r.2))] (va_A [(h_t, .inr (2, [.ref h_t_row, .int v_t_length])), (h_t_row, .inl (cI, 60, .inl v_t_row))] sz)) 0 0 (va_A [(h_t, .inr (2, [.ref h_t_row, .int v_t_length])), (h_t_row, .inl (cI, 60, .inl v_t_row))] sz) := by
  refine Met.ofW (cc := b_Line_add) (maxL := 2) (ret := none) (by decide) rfl ?_
  intro p e s m args below meth c s₁ B hml hv
  obtain ⟨rfl, hsz, hP, hK, hD0, hZ⟩ := hv
  have hx := B.exec
  have hb := B.bytes
  have hr := B.returns
  have hts := atoms_spec (ws := ws_Line_add) B.pre
  have hown : s.vm.findClass RX2 = some m.cls := findClass_of_methodNamed B.named
  have hlocks := B.notSynchronized
  have C : wcx p s m [.ref h_t, .int p0].toArray meth c b_Line_add none 2 RX2 ws_Line_add := ⟨hx, hb, hr, hml, hown, hts, hlocks⟩
  subst hsz
  have hD := hD0.self (sz := s.heap.size)
  generalize hAe : va_A [(h_t, .inr (2, [.ref h_t_row, .int v_t_length])), (h_t_row, .inl (cI, 60, .inl v_t_row))] s.heap.size = A at hD hZ ⊢
  have hA : ∀ q : Nat, s.heap.size ≤ q → A q := fun q h => by rw [← hAe]; exact Or.inr h
  have hS : va_S A s.heap s.heap [] := va_S.rf
  have hP : va_P (dC, dI) vwCl [(h_t, .inr (2, [.ref h_t_row, .int v_t_length])), (h_t_row, .inl (cI, 60, .inl v_t_row))] s.heap := hP
  have hl := lv_entry [.ref h_t, .int p0] (n := 2) (Nat.le_of_ble_eq_true rfl)
  rw [lg_entry_eq]
  generalize (lg_sl [.ref h_t, .int p0] ++ List.replicate (2 - (lg_sl [.ref h_t, .int p0]).length) Slot.unset).toArray = ls at hl ⊢
  have hl : lv_has ls 2 [(0, .ref h_t), (1, .int p0)] := hl
  refine wentry hP hS hl (fun H locs ls hP hS hl => ?_)
  have h : (if v_t_length < 0 then (some (v_t_length, v_t_row)) else (if (60 : Int32) ≤ v_t_length then (some (v_t_length, v_t_row)) else (wgd v_t_length 60 (some ((v_t_length + (1 : Int32)), (upd v_t_row v_t_length.toNatClampNeg p0)))))) = some r := hq
  refine lv_aload_n hx hb d_Line_add_0 rfl (lv_at hl 0 rfl) ?_
  refine va_get (D := (dC, dI)) (ci := 2) (v := .int v_t_length) (C := RX2) (T := TX2) (N := 2) hx hb hts (fun w h => List.mem_cons_of_mem _ (tu_2 w h)) hown hK hP 0 rfl rfl 1 (by decide) (hts _ (List.mem_cons_of_mem _ tw_29)) (fun _ h9 => h9) rfl d_Line_add_1 ?_
  refine lv_if_lt (tgt := 39) hx hb d_Line_add_4 (by decide) (fun c_23 => ?_) (fun c_23 => ?_)
  · have h := wif_p c_23 h
    have h := Option.some.inj h
    subst h
    exact W.vret hx hb hr (fun t ht hW => ⟨⟨(), rfl, trivial, by rw [ht]; exact hP, va_K.moved hW.alike hK, hD⟩, hS.F ht⟩) hS.2.2 d_Line_add_39
  · have h := wif_n c_23 h
    refine lv_aload_n hx hb d_Line_add_7 rfl (lv_at hl 0 rfl) ?_
    refine va_get (D := (dC, dI)) (ci := 2) (v := .int v_t_length) (C := RX2) (T := TX2) (N := 2) hx hb hts (fun w h => List.mem_cons_of_mem _ (tu_2 w h)) hown hK hP 0 rfl rfl 1 (by decide) (hts _ (List.mem_cons_of_mem _ tw_29)) (fun _ h9 => h9) rfl d_Line_add_8 ?_
    refine lv_aload_n hx hb d_Line_add_11 rfl (lv_at hl 0 rfl) ?_
    refine va_get (D := (dC, dI)) (ci := 2) (v := .ref h_t_row) (C := RX2) (T := TX2) (N := 2) hx hb hts (fun w h => List.mem_cons_of_mem _ (tu_2 w h)) hown hK hP 0 rfl rfl 0 (by decide) (hts _ (List.mem_cons_of_mem _ tw_28)) (fun _ h9 => h9) rfl d_Line_add_12 ?_
    refine va_alen hx hb hK hP 1 0 (v := 60) rfl rfl rfl d_Line_add_15 ?_
    refine lv_icmp_ge (tgt := 39) hx hb d_Line_add_16 (by decide) (fun c_24 => ?_) (fun c_24 => ?_)
    · have h := wif_p c_24 h
      have h := Option.some.inj h
      subst h
      exact W.vret hx hb hr (fun t ht hW => ⟨⟨(), rfl, trivial, by rw [ht]; exact hP, va_K.moved hW.alike hK, hD⟩, hS.F ht⟩) hS.2.2 d_Line_add_39
    · have h := wif_n c_24 h
      refine lv_aload_n hx hb d_Line_add_19 rfl (lv_at hl 0 rfl) ?_
      refine va_get (D := (dC, dI)) (ci := 2) (v := .ref h_t_row) (C := RX2) (T := TX2) (N := 2) hx hb hts (fun w h => List.mem_cons_of_mem _ (tu_2 w h)) hown hK hP 0 rfl rfl 0 (by decide) (hts _ (List.mem_cons_of_mem _ tw_28)) (fun _ h9 => h9) rfl d_Line_add_20 ?_
      refine lv_aload_n hx hb d_Line_add_23 rfl (lv_at hl 0 rfl) ?_
      refine va_get (D := (dC, dI)) (ci := 2) (v := .int v_t_length) (C := RX2) (T := TX2) (N := 2) hx hb hts (fun w h => List.mem_cons_of_mem _ (tu_2 w h)) hown hK hP 0 rfl rfl 1 (by decide) (hts _ (List.mem_cons_of_mem _ tw_29)) (fun _ h9 => h9) rfl d_Line_add_24 ?_
      refine lv_iload_n hx hb d_Line_add_27 rfl (lv_at hl 1 rfl) ?_
      obtain ⟨g_25, h⟩ := wgd_s h
      refine va_iast hx hb hK hP hD hS 1 0 rfl rfl g_25 d_Line_add_28 (fun H locs hP hD hS => ?_)
      have hP : va_P (dC, dI) vwCl [(h_t, .inr (2, [.ref h_t_row, .int v_t_length])), (h_t_row, .inl (cI, 60, .inl (upd v_t_row v_t_length.toNatClampNeg p0)))] H := hP
      have hD : va_D A [(h_t, .inr (2, [.ref h_t_row, .int v_t_length])), (h_t_row, .inl (cI, 60, .inl (upd v_t_row v_t_length.toNatClampNeg p0)))] := hD
      refine lv_aload_n hx hb d_Line_add_29 rfl (lv_at hl 0 rfl) ?_
      refine lv_dup hx hb d_Line_add_30 rfl ?_
      refine va_get (D := (dC, dI)) (ci := 2) (v := .int v_t_length) (C := RX2) (T := TX2) (N := 2) hx hb hts (fun w h => List.mem_cons_of_mem _ (tu_2 w h)) hown hK hP 0 rfl rfl 1 (by decide) (hts _ (List.mem_cons_of_mem _ tw_29)) (fun _ h9 => h9) rfl d_Line_add_31 ?_
      refine lv_iconst (v := 1) hx hb d_Line_add_34 (by decide) ?_
      refine lv_iadd hx hb d_Line_add_35 ?_
      refine va_put (D := (dC, dI)) (ci := 2) (v := .int (v_t_length + (1 : Int32))) (ty := tyX2 1) (C := RX2) (T := TX2) (N := 2) hx hb hts (fun w h => List.mem_cons_of_mem _ (tu_2 w h)) tyX2 tyX2_ok nmX2 hown hK hP hD hS 0 rfl rfl 1 (by decide) (hts _ (List.mem_cons_of_mem _ tw_29)) (fun _ h9 => h9) rfl (tyX2_ok 1 (by decide)) rfl rfl (Nat.le_of_ble_eq_true rfl) d_Line_add_36 (fun H locs hP hD hS => ?_)
      have hP : va_P (dC, dI) vwCl [(h_t, .inr (2, [.ref h_t_row, .int (v_t_length + (1 : Int32))])), (h_t_row, .inl (cI, 60, .inl (upd v_t_row v_t_length.toNatClampNeg p0)))] H := hP
      have hD : va_D A [(h_t, .inr (2, [.ref h_t_row, .int (v_t_length + (1 : Int32))])), (h_t_row, .inl (cI, 60, .inl (upd v_t_row v_t_length.toNatClampNeg p0)))] := hD
      have h := Option.some.inj h
      subst h
      exact W.vret hx hb hr (fun t ht hW => ⟨⟨(), rfl, trivial, by rw [ht]; exact hP, va_K.moved hW.alike hK, hD⟩, hS.F ht⟩) hS.2.2 d_Line_add_39
abbrev rm_Line_character : Room := { frames := 0, cells := 0, slots := 0, locals := 0 }
set_option maxHeartbeats 4000000 in
set_option maxRecDepth 100000 in
theorem c_Line_character (l : Launch) (dC : Nat → ClassId) (dI : Nat → Nat → Nat) (cI cZ : ClassId) (z : zT) (h_t h_t_row : Nat) (sz : Nat) (v_t_length : Int32) (v_t_row : Nat → Int32) (p0 : Int32) (r : Int32) (hq : F_Line_character v_t_length v_t_row p0 = some r) : Met l y_Line_character ws_Line_character rm_Line_character (wP (dC, dI) vwCl [(cI, .int), (cZ, .boolean)] z [.ref h_t, .int p0] [(h_t, .inr (2, [.ref h_t_row, .int v_t_length])), (h_t_row, .inl (cI, 60, .inl v_t_row))] sz) (wQi (dC, dI) vwCl [(cI, .int), (cZ, .boolean)] [(h_t, .inr (2, [.ref h_t_row, .int v_t_length])), (h_t_row, .inl (cI, 60, .inl v_t_row))] (va_A [(h_t, .inr (2, [.ref h_t_row, .int v_t_length])), (h_t_row, .inl (cI, 60, .inl v_t_row))] sz) r) 0 0 (va_A [(h_t, .inr (2, [.ref h_t_row, .int v_t_length])), (h_t_row, .inl (cI, 60, .inl v_t_row))] sz) := by
  refine Met.ofW (cc := b_Line_character) (maxL := 2) (ret := (some .int)) (by decide) rfl ?_
  intro p e s m args below meth c s₁ B hml hv
  obtain ⟨rfl, hsz, hP, hK, hD0, hZ⟩ := hv
  have hx := B.exec
  have hb := B.bytes
  have hr := B.returns
  have hts := atoms_spec (ws := ws_Line_character) B.pre
  have hown : s.vm.findClass RX2 = some m.cls := findClass_of_methodNamed B.named
  have hlocks := B.notSynchronized
  have C : wcx p s m [.ref h_t, .int p0].toArray meth c b_Line_character (some .int) 2 RX2 ws_Line_character := ⟨hx, hb, hr, hml, hown, hts, hlocks⟩
  subst hsz
  have hD := hD0.self (sz := s.heap.size)
  generalize hAe : va_A [(h_t, .inr (2, [.ref h_t_row, .int v_t_length])), (h_t_row, .inl (cI, 60, .inl v_t_row))] s.heap.size = A at hD hZ ⊢
  have hA : ∀ q : Nat, s.heap.size ≤ q → A q := fun q h => by rw [← hAe]; exact Or.inr h
  have hS : va_S A s.heap s.heap [] := va_S.rf
  have hP : va_P (dC, dI) vwCl [(h_t, .inr (2, [.ref h_t_row, .int v_t_length])), (h_t_row, .inl (cI, 60, .inl v_t_row))] s.heap := hP
  have hl := lv_entry [.ref h_t, .int p0] (n := 2) (Nat.le_of_ble_eq_true rfl)
  rw [lg_entry_eq]
  generalize (lg_sl [.ref h_t, .int p0] ++ List.replicate (2 - (lg_sl [.ref h_t, .int p0]).length) Slot.unset).toArray = ls at hl ⊢
  have hl : lv_has ls 2 [(0, .ref h_t), (1, .int p0)] := hl
  refine wentry hP hS hl (fun H locs ls hP hS hl => ?_)
  have h : (if p0 < 0 then (some (0 : Int32)) else (if v_t_length ≤ p0 then (some (0 : Int32)) else (if (60 : Int32) ≤ p0 then (some (0 : Int32)) else (wgd p0 60 (some (v_t_row p0.toNatClampNeg)))))) = some r := hq
  refine lv_iload_n hx hb d_Line_character_0 rfl (lv_at hl 1 rfl) ?_
  refine lv_if_lt (tgt := 30) hx hb d_Line_character_1 (by decide) (fun c_26 => ?_) (fun c_26 => ?_)
  · have h := wif_p c_26 h
    refine lv_iconst (v := 0) hx hb d_Line_character_30 (by decide) ?_
    have h := Option.some.inj h
    subst h
    exact W.iret hx hb hr (fun t ht hW => ⟨⟨_, (), rfl, rfl, by rw [ht]; exact hP, va_K.moved hW.alike hK, hD⟩, hS.F ht⟩) hS.2.2 d_Line_character_31
  · have h := wif_n c_26 h
    refine lv_iload_n hx hb d_Line_character_4 rfl (lv_at hl 1 rfl) ?_
    refine lv_aload_n hx hb d_Line_character_5 rfl (lv_at hl 0 rfl) ?_
    refine va_get (D := (dC, dI)) (ci := 2) (v := .int v_t_length) (C := RX2) (T := TX2) (N := 2) hx hb hts (fun w h => List.mem_cons_of_mem _ (tu_2 w h)) hown hK hP 0 rfl rfl 1 (by decide) (hts _ (List.mem_cons_of_mem _ tw_29)) (fun _ h9 => h9) rfl d_Line_character_6 ?_
    refine lv_icmp_ge (tgt := 30) hx hb d_Line_character_9 (by decide) (fun c_27 => ?_) (fun c_27 => ?_)
    · have h := wif_p c_27 h
      refine lv_iconst (v := 0) hx hb d_Line_character_30 (by decide) ?_
      have h := Option.some.inj h
      subst h
      exact W.iret hx hb hr (fun t ht hW => ⟨⟨_, (), rfl, rfl, by rw [ht]; exact hP, va_K.moved hW.alike hK, hD⟩, hS.F ht⟩) hS.2.2 d_Line_character_31
    · have h := wif_n c_27 h
      refine lv_iload_n hx hb d_Line_character_12 rfl (lv_at hl 1 rfl) ?_
      refine lv_aload_n hx hb d_Line_character_13 rfl (lv_at hl 0 rfl) ?_
      refine va_get (D := (dC, dI)) (ci := 2) (v := .ref h_t_row) (C := RX2) (T := TX2) (N := 2) hx hb hts (fun w h => List.mem_cons_of_mem _ (tu_2 w h)) hown hK hP 0 rfl rfl 0 (by decide) (hts _ (List.mem_cons_of_mem _ tw_28)) (fun _ h9 => h9) rfl d_Line_character_14 ?_
      refine va_alen hx hb hK hP 1 0 (v := 60) rfl rfl rfl d_Line_character_17 ?_
      refine lv_icmp_ge (tgt := 30) hx hb d_Line_character_18 (by decide) (fun c_28 => ?_) (fun c_28 => ?_)
      · have h := wif_p c_28 h
        refine lv_iconst (v := 0) hx hb d_Line_character_30 (by decide) ?_
        have h := Option.some.inj h
        subst h
        exact W.iret hx hb hr (fun t ht hW => ⟨⟨_, (), rfl, rfl, by rw [ht]; exact hP, va_K.moved hW.alike hK, hD⟩, hS.F ht⟩) hS.2.2 d_Line_character_31
      · have h := wif_n c_28 h
        refine lv_aload_n hx hb d_Line_character_21 rfl (lv_at hl 0 rfl) ?_
        refine va_get (D := (dC, dI)) (ci := 2) (v := .ref h_t_row) (C := RX2) (T := TX2) (N := 2) hx hb hts (fun w h => List.mem_cons_of_mem _ (tu_2 w h)) hown hK hP 0 rfl rfl 0 (by decide) (hts _ (List.mem_cons_of_mem _ tw_28)) (fun _ h9 => h9) rfl d_Line_character_22 ?_
        refine lv_iload_n hx hb d_Line_character_25 rfl (lv_at hl 1 rfl) ?_
        obtain ⟨g_29, h⟩ := wgd_s h
        refine va_iald hx hb hK hP 1 0 rfl rfl g_29 d_Line_character_26 ?_
        refine lv_goto (tgt := 31) hx hb d_Line_character_27 (by decide) ?_
        have h := Option.some.inj h
        subst h
        exact W.iret hx hb hr (fun t ht hW => ⟨⟨_, (), rfl, rfl, by rw [ht]; exact hP, va_K.moved hW.alike hK, hD⟩, hS.F ht⟩) hS.2.2 d_Line_character_31
abbrev rm_Digits_digit : Room := { frames := 0, cells := 0, slots := 0, locals := 0 }
set_option maxHeartbeats 4000000 in
set_option maxRecDepth 100000 in
theorem c_Digits_digit (l : Launch) (dC : Nat → ClassId) (dI : Nat → Nat → Nat) (cI cZ : ClassId) (z : zT) (h_t h_t_came : Nat) (sz : Nat) (v_t_lost : Int32) (v_t_lostAhead : Int32) (v_t_allZero : Int32) (v_t_negative : Int32) (v_t_came : Nat → Int32) (p0 : Int32) (r : Int32) (hq : F_Digits_digit v_t_came p0 = some r) : Met l y_Digits_digit ws_Digits_digit rm_Digits_digit (wP (dC, dI) vwCl [(cI, .int), (cZ, .boolean)] z [.ref h_t, .int p0] [(h_t, .inr (0, [.ref h_t_came, .int v_t_lost, .int v_t_lostAhead, .int v_t_allZero, .int v_t_negative])), (h_t_came, .inl (cI, 18, .inl v_t_came))] sz) (wQi (dC, dI) vwCl [(cI, .int), (cZ, .boolean)] [(h_t, .inr (0, [.ref h_t_came, .int v_t_lost, .int v_t_lostAhead, .int v_t_allZero, .int v_t_negative])), (h_t_came, .inl (cI, 18, .inl v_t_came))] (va_A [(h_t, .inr (0, [.ref h_t_came, .int v_t_lost, .int v_t_lostAhead, .int v_t_allZero, .int v_t_negative])), (h_t_came, .inl (cI, 18, .inl v_t_came))] sz) r) 0 0 (va_A [(h_t, .inr (0, [.ref h_t_came, .int v_t_lost, .int v_t_lostAhead, .int v_t_allZero, .int v_t_negative])), (h_t_came, .inl (cI, 18, .inl v_t_came))] sz) := by
  refine Met.ofW (cc := b_Digits_digit) (maxL := 2) (ret := (some .int)) (by decide) rfl ?_
  intro p e s m args below meth c s₁ B hml hv
  obtain ⟨rfl, hsz, hP, hK, hD0, hZ⟩ := hv
  have hx := B.exec
  have hb := B.bytes
  have hr := B.returns
  have hts := atoms_spec (ws := ws_Digits_digit) B.pre
  have hown : s.vm.findClass RX0 = some m.cls := findClass_of_methodNamed B.named
  have hlocks := B.notSynchronized
  have C : wcx p s m [.ref h_t, .int p0].toArray meth c b_Digits_digit (some .int) 2 RX0 ws_Digits_digit := ⟨hx, hb, hr, hml, hown, hts, hlocks⟩
  subst hsz
  have hD := hD0.self (sz := s.heap.size)
  generalize hAe : va_A [(h_t, .inr (0, [.ref h_t_came, .int v_t_lost, .int v_t_lostAhead, .int v_t_allZero, .int v_t_negative])), (h_t_came, .inl (cI, 18, .inl v_t_came))] s.heap.size = A at hD hZ ⊢
  have hA : ∀ q : Nat, s.heap.size ≤ q → A q := fun q h => by rw [← hAe]; exact Or.inr h
  have hS : va_S A s.heap s.heap [] := va_S.rf
  have hP : va_P (dC, dI) vwCl [(h_t, .inr (0, [.ref h_t_came, .int v_t_lost, .int v_t_lostAhead, .int v_t_allZero, .int v_t_negative])), (h_t_came, .inl (cI, 18, .inl v_t_came))] s.heap := hP
  have hl := lv_entry [.ref h_t, .int p0] (n := 2) (Nat.le_of_ble_eq_true rfl)
  rw [lg_entry_eq]
  generalize (lg_sl [.ref h_t, .int p0] ++ List.replicate (2 - (lg_sl [.ref h_t, .int p0]).length) Slot.unset).toArray = ls at hl ⊢
  have hl : lv_has ls 2 [(0, .ref h_t), (1, .int p0)] := hl
  refine wentry hP hS hl (fun H locs ls hP hS hl => ?_)
  have h : (if p0 < 0 then (some (0 : Int32)) else (if (18 : Int32) ≤ p0 then (some (0 : Int32)) else (wgd p0 18 (some (v_t_came p0.toNatClampNeg))))) = some r := hq
  refine lv_iload_n hx hb d_Digits_digit_0 rfl (lv_at hl 1 rfl) ?_
  refine lv_if_lt (tgt := 22) hx hb d_Digits_digit_1 (by decide) (fun c_167 => ?_) (fun c_167 => ?_)
  · have h := wif_p c_167 h
    refine lv_iconst (v := 0) hx hb d_Digits_digit_22 (by decide) ?_
    have h := Option.some.inj h
    subst h
    exact W.iret hx hb hr (fun t ht hW => ⟨⟨_, (), rfl, rfl, by rw [ht]; exact hP, va_K.moved hW.alike hK, hD⟩, hS.F ht⟩) hS.2.2 d_Digits_digit_23
  · have h := wif_n c_167 h
    refine lv_iload_n hx hb d_Digits_digit_4 rfl (lv_at hl 1 rfl) ?_
    refine lv_aload_n hx hb d_Digits_digit_5 rfl (lv_at hl 0 rfl) ?_
    refine va_get (D := (dC, dI)) (ci := 0) (v := .ref h_t_came) (C := RX0) (T := TX0) (N := 5) hx hb hts (fun w h => List.mem_cons_of_mem _ (tu_0 w h)) hown hK hP 0 rfl rfl 0 (by decide) (hts _ (List.mem_cons_of_mem _ tw_99)) (fun _ h9 => h9) rfl d_Digits_digit_6 ?_
    refine va_alen hx hb hK hP 1 0 (v := 18) rfl rfl rfl d_Digits_digit_9 ?_
    refine lv_icmp_ge (tgt := 22) hx hb d_Digits_digit_10 (by decide) (fun c_168 => ?_) (fun c_168 => ?_)
    · have h := wif_p c_168 h
      refine lv_iconst (v := 0) hx hb d_Digits_digit_22 (by decide) ?_
      have h := Option.some.inj h
      subst h
      exact W.iret hx hb hr (fun t ht hW => ⟨⟨_, (), rfl, rfl, by rw [ht]; exact hP, va_K.moved hW.alike hK, hD⟩, hS.F ht⟩) hS.2.2 d_Digits_digit_23
    · have h := wif_n c_168 h
      refine lv_aload_n hx hb d_Digits_digit_13 rfl (lv_at hl 0 rfl) ?_
      refine va_get (D := (dC, dI)) (ci := 0) (v := .ref h_t_came) (C := RX0) (T := TX0) (N := 5) hx hb hts (fun w h => List.mem_cons_of_mem _ (tu_0 w h)) hown hK hP 0 rfl rfl 0 (by decide) (hts _ (List.mem_cons_of_mem _ tw_99)) (fun _ h9 => h9) rfl d_Digits_digit_14 ?_
      refine lv_iload_n hx hb d_Digits_digit_17 rfl (lv_at hl 1 rfl) ?_
      obtain ⟨g_169, h⟩ := wgd_s h
      refine va_iald hx hb hK hP 1 0 rfl rfl g_169 d_Digits_digit_18 ?_
      refine lv_goto (tgt := 23) hx hb d_Digits_digit_19 (by decide) ?_
      have h := Option.some.inj h
      subst h
      exact W.iret hx hb hr (fun t ht hW => ⟨⟨_, (), rfl, rfl, by rw [ht]; exact hP, va_K.moved hW.alike hK, hD⟩, hS.F ht⟩) hS.2.2 d_Digits_digit_23
abbrev rm_Digits_clear : Room := { frames := 0, cells := 0, slots := 0, locals := 0 }
def GB_Digits_clear_2 (p : Program) (l : Launch) (e : Env) (s : State) (m : MethodId) (args : Array Value) (below : List Frame) (meth : Method) (c : Code) (dC : Nat → ClassId) (dI : Nat → Nat → Nat) (cI cZ : ClassId) (z : zT) (A : Nat → Prop) (h_t h_t_came : Nat) (r : Int32 × Int32 × Int32 × Int32 × (Nat → Int32)) (f : Int32 → Int32 → Int32 → Int32 → (Nat → Int32) → Int32 → Option (Int32 × Int32 × Int32 × Int32 × (Nat → Int32))) : Prop := ∀ (v_t_lost : Int32) (v_t_lostAhead : Int32) (v_t_allZero : Int32) (v_t_negative : Int32) (v_t_came : Nat → Int32) (x1 : Int32) (H : Heap) (locs : List Loc) (ls : Array Slot), f v_t_lost v_t_lostAhead v_t_allZero v_t_negative v_t_came x1 = some r → va_P (dC, dI) vwCl [(h_t, .inr (0, [.ref h_t_came, .int v_t_lost, .int v_t_lostAhead, .int v_t_allZero, .int v_t_negative])), (h_t_came, .inl (cI, 18, .inl v_t_came))] H → va_D A [(h_t, .inr (0, [.ref h_t_came, .int v_t_lost, .int v_t_lostAhead, .int v_t_allZero, .int v_t_negative])), (h_t_came, .inl (cI, 18, .inl v_t_came))] → va_S A s.heap H locs → lv_has ls 2 [(0, .ref h_t), (1, .int x1)] → W p l e rm_Digits_clear s m args below meth c H locs 0 0 (MQ below (wQv (dC, dI) vwCl [(cI, .int), (cZ, .boolean)] [(h_t, .inr (0, [.ref h_t_came, .int r.1, .int r.2.1, .int r.2.2.1, .int r.2.2.2.1])), (h_t_came, .inl (cI, 18, .inl r.2.2.2.2))] A) args s 0 0 A) (F0 m 2 ls [])
set_option maxHeartbeats 4000000 in
set_option maxRecDepth 100000 in
theorem kB_Digits_clear_2 {p : Program} {l : Launch} {e : Env} {s : State} {m : MethodId} {args : Array Value} {below : List Frame} {meth : Method} {c : Code} {dC : Nat → ClassId} {dI : Nat → Nat → Nat} {cI cZ : ClassId} {z : zT} {A : Nat → Prop} {h_t h_t_came : Nat} {r : Int32 × Int32 × Int32 × Int32 × (Nat → Int32)} (C : wcx p s m args meth c b_Digits_clear none 2 RX0 ws_Digits_clear) (hA : ∀ q : Nat, s.heap.size ≤ q → A q) (hK : va_K (dC, dI) vwCl [(cI, .int), (cZ, .boolean)] s) (hZ : zz z A s s.heap) (n : Nat) : GB_Digits_clear_2 p l e s m args below meth c dC dI cI cZ z A h_t h_t_came r (B_Digits_clear_2 n) := by
  obtain ⟨hx, hb, hr, hml, hown, hts, hlocks⟩ := id C
  induction n with
  | zero =>
    intro v_t_lost v_t_lostAhead v_t_allZero v_t_negative v_t_came x1 H locs ls h
    exact absurd h (fun z => by cases z)
  | succ n ih =>
    intro v_t_lost v_t_lostAhead v_t_allZero v_t_negative v_t_came x1 H locs ls h hP hD hS hl
    have h : (if (18 : Int32) ≤ x1 then (some ((0 : Int32), (0 : Int32), (1 : Int32), (0 : Int32), v_t_came)) else (wgd x1 18 ((B_Digits_clear_2 n) v_t_lost v_t_lostAhead v_t_allZero v_t_negative (upd v_t_came x1.toNatClampNeg (0 : Int32)) (x1 + (1 : Int32))))) = some r := h
    refine lv_iload_n hx hb d_Digits_clear_2 rfl (lv_at hl 1 rfl) ?_
    refine lv_aload_n hx hb d_Digits_clear_3 rfl (lv_at hl 0 rfl) ?_
    refine va_get (D := (dC, dI)) (ci := 0) (v := .ref h_t_came) (C := RX0) (T := TX0) (N := 5) hx hb hts (fun w h => List.mem_cons_of_mem _ (tu_0 w h)) hown hK hP 0 rfl rfl 0 (by decide) (hts _ (List.mem_cons_of_mem _ tw_99)) (fun _ h9 => h9) rfl d_Digits_clear_4 ?_
    refine va_alen hx hb hK hP 1 0 (v := 18) rfl rfl rfl d_Digits_clear_7 ?_
    refine lv_icmp_ge (tgt := 24) hx hb d_Digits_clear_8 (by decide) (fun c_170 => ?_) (fun c_170 => ?_)
    · have h := wif_p c_170 h
      refine lv_aload_n hx hb d_Digits_clear_24 rfl (lv_at hl 0 rfl) ?_
      refine lv_iconst (v := 0) hx hb d_Digits_clear_25 (by decide) ?_
      refine va_put (D := (dC, dI)) (ci := 0) (v := .int (0 : Int32)) (ty := tyX0 1) (C := RX0) (T := TX0) (N := 5) hx hb hts (fun w h => List.mem_cons_of_mem _ (tu_0 w h)) tyX0 tyX0_ok nmX0 hown hK hP hD hS 0 rfl rfl 1 (by decide) (hts _ (List.mem_cons_of_mem _ tw_100)) (fun _ h9 => h9) rfl (tyX0_ok 1 (by decide)) rfl rfl (Nat.le_of_ble_eq_true rfl) d_Digits_clear_26 (fun H locs hP hD hS => ?_)
      have hP : va_P (dC, dI) vwCl [(h_t, .inr (0, [.ref h_t_came, .int (0 : Int32), .int v_t_lostAhead, .int v_t_allZero, .int v_t_negative])), (h_t_came, .inl (cI, 18, .inl v_t_came))] H := hP
      have hD : va_D A [(h_t, .inr (0, [.ref h_t_came, .int (0 : Int32), .int v_t_lostAhead, .int v_t_allZero, .int v_t_negative])), (h_t_came, .inl (cI, 18, .inl v_t_came))] := hD
      refine lv_aload_n hx hb d_Digits_clear_29 rfl (lv_at hl 0 rfl) ?_
      refine lv_iconst (v := 0) hx hb d_Digits_clear_30 (by decide) ?_
      refine va_put (D := (dC, dI)) (ci := 0) (v := .int (0 : Int32)) (ty := tyX0 2) (C := RX0) (T := TX0) (N := 5) hx hb hts (fun w h => List.mem_cons_of_mem _ (tu_0 w h)) tyX0 tyX0_ok nmX0 hown hK hP hD hS 0 rfl rfl 2 (by decide) (hts _ (List.mem_cons_of_mem _ tw_102)) (fun _ h9 => h9) rfl (tyX0_ok 2 (by decide)) rfl rfl (Nat.le_of_ble_eq_true rfl) d_Digits_clear_31 (fun H locs hP hD hS => ?_)
      have hP : va_P (dC, dI) vwCl [(h_t, .inr (0, [.ref h_t_came, .int (0 : Int32), .int (0 : Int32), .int v_t_allZero, .int v_t_negative])), (h_t_came, .inl (cI, 18, .inl v_t_came))] H := hP
      have hD : va_D A [(h_t, .inr (0, [.ref h_t_came, .int (0 : Int32), .int (0 : Int32), .int v_t_allZero, .int v_t_negative])), (h_t_came, .inl (cI, 18, .inl v_t_came))] := hD
      refine lv_aload_n hx hb d_Digits_clear_34 rfl (lv_at hl 0 rfl) ?_
      refine lv_iconst (v := 1) hx hb d_Digits_clear_35 (by decide) ?_
      refine va_put (D := (dC, dI)) (ci := 0) (v := .int (1 : Int32)) (ty := tyX0 3) (C := RX0) (T := TX0) (N := 5) hx hb hts (fun w h => List.mem_cons_of_mem _ (tu_0 w h)) tyX0 tyX0_ok nmX0 hown hK hP hD hS 0 rfl rfl 3 (by decide) (hts _ (List.mem_cons_of_mem _ tw_104)) (fun _ h9 => h9) rfl (tyX0_ok 3 (by decide)) rfl rfl (Nat.le_of_ble_eq_true rfl) d_Digits_clear_36 (fun H locs hP hD hS => ?_)
      have hP : va_P (dC, dI) vwCl [(h_t, .inr (0, [.ref h_t_came, .int (0 : Int32), .int (0 : Int32), .int (1 : Int32), .int v_t_negative])), (h_t_came, .inl (cI, 18, .inl v_t_came))] H := hP
      have hD : va_D A [(h_t, .inr (0, [.ref h_t_came, .int (0 : Int32), .int (0 : Int32), .int (1 : Int32), .int v_t_negative])), (h_t_came, .inl (cI, 18, .inl v_t_came))] := hD
      refine lv_aload_n hx hb d_Digits_clear_39 rfl (lv_at hl 0 rfl) ?_
      refine lv_iconst (v := 0) hx hb d_Digits_clear_40 (by decide) ?_
      refine va_put (D := (dC, dI)) (ci := 0) (v := .int (0 : Int32)) (ty := tyX0 4) (C := RX0) (T := TX0) (N := 5) hx hb hts (fun w h => List.mem_cons_of_mem _ (tu_0 w h)) tyX0 tyX0_ok nmX0 hown hK hP hD hS 0 rfl rfl 4 (by decide) (hts _ (List.mem_cons_of_mem _ tw_106)) (fun _ h9 => h9) rfl (tyX0_ok 4 (by decide)) rfl rfl (Nat.le_of_ble_eq_true rfl) d_Digits_clear_41 (fun H locs hP hD hS => ?_)
      have hP : va_P (dC, dI) vwCl [(h_t, .inr (0, [.ref h_t_came, .int (0 : Int32), .int (0 : Int32), .int (1 : Int32), .int (0 : Int32)])), (h_t_came, .inl (cI, 18, .inl v_t_came))] H := hP
      have hD : va_D A [(h_t, .inr (0, [.ref h_t_came, .int (0 : Int32), .int (0 : Int32), .int (1 : Int32), .int (0 : Int32)])), (h_t_came, .inl (cI, 18, .inl v_t_came))] := hD
      have h := Option.some.inj h
      subst h
      exact W.vret hx hb hr (fun t ht hW => ⟨⟨(), rfl, trivial, by rw [ht]; exact hP, va_K.moved hW.alike hK, hD⟩, hS.F ht⟩) hS.2.2 d_Digits_clear_44
    · have h := wif_n c_170 h
      refine lv_aload_n hx hb d_Digits_clear_11 rfl (lv_at hl 0 rfl) ?_
      refine va_get (D := (dC, dI)) (ci := 0) (v := .ref h_t_came) (C := RX0) (T := TX0) (N := 5) hx hb hts (fun w h => List.mem_cons_of_mem _ (tu_0 w h)) hown hK hP 0 rfl rfl 0 (by decide) (hts _ (List.mem_cons_of_mem _ tw_99)) (fun _ h9 => h9) rfl d_Digits_clear_12 ?_
      refine lv_iload_n hx hb d_Digits_clear_15 rfl (lv_at hl 1 rfl) ?_
      refine lv_iconst (v := 0) hx hb d_Digits_clear_16 (by decide) ?_
      obtain ⟨g_171, h⟩ := wgd_s h
      refine va_iast hx hb hK hP hD hS 1 0 rfl rfl g_171 d_Digits_clear_17 (fun H locs hP hD hS => ?_)
      have hP : va_P (dC, dI) vwCl [(h_t, .inr (0, [.ref h_t_came, .int v_t_lost, .int v_t_lostAhead, .int v_t_allZero, .int v_t_negative])), (h_t_came, .inl (cI, 18, .inl (upd v_t_came x1.toNatClampNeg (0 : Int32))))] H := hP
      have hD : va_D A [(h_t, .inr (0, [.ref h_t_came, .int v_t_lost, .int v_t_lostAhead, .int v_t_allZero, .int v_t_negative])), (h_t_came, .inl (cI, 18, .inl (upd v_t_came x1.toNatClampNeg (0 : Int32))))] := hD
      refine lv_iinc (v := (x1 + (1 : Int32))) (lv' := [(1, .int (x1 + (1 : Int32))), (0, .ref h_t)]) hx hb d_Digits_clear_18 hl (k := 1) rfl rfl (by decide) rfl (fun ls hl => ?_)
      refine lv_goto (tgt := 2) hx hb d_Digits_clear_21 (by decide) ?_
      exact ih v_t_lost v_t_lostAhead v_t_allZero v_t_negative (upd v_t_came x1.toNatClampNeg (0 : Int32)) (x1 + (1 : Int32)) _ _ _ h hP hD hS (lv_sub hl [1, 0] rfl)
set_option maxHeartbeats 4000000 in
set_option maxRecDepth 100000 in
theorem c_Digits_clear (l : Launch) (dC : Nat → ClassId) (dI : Nat → Nat → Nat) (cI cZ : ClassId) (z : zT) (h_t h_t_came : Nat) (sz : Nat) (v_t_lost : Int32) (v_t_lostAhead : Int32) (v_t_allZero : Int32) (v_t_negative : Int32) (v_t_came : Nat → Int32) (r : Int32 × Int32 × Int32 × Int32 × (Nat → Int32)) (hq : F_Digits_clear v_t_lost v_t_lostAhead v_t_allZero v_t_negative v_t_came = some r) : Met l y_Digits_clear ws_Digits_clear rm_Digits_clear (wP (dC, dI) vwCl [(cI, .int), (cZ, .boolean)] z [.ref h_t] [(h_t, .inr (0, [.ref h_t_came, .int v_t_lost, .int v_t_lostAhead, .int v_t_allZero, .int v_t_negative])), (h_t_came, .inl (cI, 18, .inl v_t_came))] sz) (wQv (dC, dI) vwCl [(cI, .int), (cZ, .boolean)] [(h_t, .inr (0, [.ref h_t_came, .int r.1, .int r.2.1, .int r.2.2.1, .int r.2.2.2.1])), (h_t_came, .inl (cI, 18, .inl r.2.2.2.2))] (va_A [(h_t, .inr (0, [.ref h_t_came, .int v_t_lost, .int v_t_lostAhead, .int v_t_allZero, .int v_t_negative])), (h_t_came, .inl (cI, 18, .inl v_t_came))] sz)) 0 0 (va_A [(h_t, .inr (0, [.ref h_t_came, .int v_t_lost, .int v_t_lostAhead, .int v_t_allZero, .int v_t_negative])), (h_t_came, .inl (cI, 18, .inl v_t_came))] sz) := by
  refine Met.ofW (cc := b_Digits_clear) (maxL := 2) (ret := none) (by decide) rfl ?_
  intro p e s m args below meth c s₁ B hml hv
  obtain ⟨rfl, hsz, hP, hK, hD0, hZ⟩ := hv
  have hx := B.exec
  have hb := B.bytes
  have hr := B.returns
  have hts := atoms_spec (ws := ws_Digits_clear) B.pre
  have hown : s.vm.findClass RX0 = some m.cls := findClass_of_methodNamed B.named
  have hlocks := B.notSynchronized
  have C : wcx p s m [.ref h_t].toArray meth c b_Digits_clear none 2 RX0 ws_Digits_clear := ⟨hx, hb, hr, hml, hown, hts, hlocks⟩
  subst hsz
  have hD := hD0.self (sz := s.heap.size)
  generalize hAe : va_A [(h_t, .inr (0, [.ref h_t_came, .int v_t_lost, .int v_t_lostAhead, .int v_t_allZero, .int v_t_negative])), (h_t_came, .inl (cI, 18, .inl v_t_came))] s.heap.size = A at hD hZ ⊢
  have hA : ∀ q : Nat, s.heap.size ≤ q → A q := fun q h => by rw [← hAe]; exact Or.inr h
  have hS : va_S A s.heap s.heap [] := va_S.rf
  have hP : va_P (dC, dI) vwCl [(h_t, .inr (0, [.ref h_t_came, .int v_t_lost, .int v_t_lostAhead, .int v_t_allZero, .int v_t_negative])), (h_t_came, .inl (cI, 18, .inl v_t_came))] s.heap := hP
  have hl := lv_entry [.ref h_t] (n := 2) (Nat.le_of_ble_eq_true rfl)
  rw [lg_entry_eq]
  generalize (lg_sl [.ref h_t] ++ List.replicate (2 - (lg_sl [.ref h_t]).length) Slot.unset).toArray = ls at hl ⊢
  have hl : lv_has ls 2 [(0, .ref h_t)] := hl
  refine wentry hP hS hl (fun H locs ls hP hS hl => ?_)
  have h : (B_Digits_clear_2 fu) v_t_lost v_t_lostAhead v_t_allZero v_t_negative v_t_came (0 : Int32) = some r := hq
  refine lv_iconst (v := 0) hx hb d_Digits_clear_0 (by decide) ?_
  refine lv_istore_n (lv' := [(1, .int (0 : Int32)), (0, .ref h_t)]) hx hb d_Digits_clear_1 rfl hl (by decide) rfl (fun ls hl => ?_)
  exact (kB_Digits_clear_2 C hA hK hZ fu) v_t_lost v_t_lostAhead v_t_allZero v_t_negative v_t_came (0 : Int32) _ _ _ h hP hD hS (lv_sub hl [1, 0] rfl)
abbrev rm_Digits_bringOne : Room := { frames := 0, cells := 0, slots := 0, locals := 0 }
def GB_Digits_bringOne_31 (p : Program) (l : Launch) (e : Env) (s : State) (m : MethodId) (args : Array Value) (below : List Frame) (meth : Method) (c : Code) (dC : Nat → ClassId) (dI : Nat → Nat → Nat) (cI cZ : ClassId) (z : zT) (A : Nat → Prop) (h_t h_t_came : Nat) (v_t_negative : Int32) (r : Int32 × Int32 × Int32 × (Nat → Int32)) (f : Int32 → Int32 → Int32 → (Nat → Int32) → Int32 → Option (Int32 × Int32 × Int32 × (Nat → Int32))) : Prop := ∀ (v_t_lost : Int32) (v_t_lostAhead : Int32) (v_t_allZero : Int32) (v_t_came : Nat → Int32) (x2 : Int32) (H : Heap) (locs : List Loc) (ls : Array Slot), f v_t_lost v_t_lostAhead v_t_allZero v_t_came x2 = some r → va_P (dC, dI) vwCl [(h_t, .inr (0, [.ref h_t_came, .int v_t_lost, .int v_t_lostAhead, .int v_t_allZero, .int v_t_negative])), (h_t_came, .inl (cI, 18, .inl v_t_came))] H → va_D A [(h_t, .inr (0, [.ref h_t_came, .int v_t_lost, .int v_t_lostAhead, .int v_t_allZero, .int v_t_negative])), (h_t_came, .inl (cI, 18, .inl v_t_came))] → va_S A s.heap H locs → lv_has ls 4 [(0, .ref h_t), (2, .int x2)] → W p l e rm_Digits_bringOne s m args below meth c H locs 0 0 (MQ below (wQv (dC, dI) vwCl [(cI, .int), (cZ, .boolean)] [(h_t, .inr (0, [.ref h_t_came, .int r.1, .int r.2.1, .int r.2.2.1, .int v_t_negative])), (h_t_came, .inl (cI, 18, .inl r.2.2.2))] A) args s 0 0 A) (F0 m 31 ls [])
set_option maxHeartbeats 4000000 in
set_option maxRecDepth 100000 in
theorem kB_Digits_bringOne_31 {p : Program} {l : Launch} {e : Env} {s : State} {m : MethodId} {args : Array Value} {below : List Frame} {meth : Method} {c : Code} {dC : Nat → ClassId} {dI : Nat → Nat → Nat} {cI cZ : ClassId} {z : zT} {A : Nat → Prop} {h_t h_t_came : Nat} {v_t_negative : Int32} {r : Int32 × Int32 × Int32 × (Nat → Int32)} (C : wcx p s m args meth c b_Digits_bringOne none 4 RX0 ws_Digits_bringOne) (hA : ∀ q : Nat, s.heap.size ≤ q → A q) (hK : va_K (dC, dI) vwCl [(cI, .int), (cZ, .boolean)] s) (hZ : zz z A s s.heap) : GB_Digits_bringOne_31 p l e s m args below meth c dC dI cI cZ z A h_t h_t_came v_t_negative r (B_Digits_bringOne_31) := by
  obtain ⟨hx, hb, hr, hml, hown, hts, hlocks⟩ := id C
  intro v_t_lost v_t_lostAhead v_t_allZero v_t_came x2 H locs ls h hP hD hS hl
  have h : (if 0 ≤ x2 then (some ((v_t_lost + (1 : Int32)), v_t_lostAhead, v_t_allZero, v_t_came)) else (some ((v_t_lost + (1 : Int32)), (1 : Int32), v_t_allZero, v_t_came))) = some r := h
  refine lv_aload_n hx hb d_Digits_bringOne_31 rfl (lv_at hl 0 rfl) ?_
  refine lv_dup hx hb d_Digits_bringOne_32 rfl ?_
  refine va_get (D := (dC, dI)) (ci := 0) (v := .int v_t_lost) (C := RX0) (T := TX0) (N := 5) hx hb hts (fun w h => List.mem_cons_of_mem _ (tu_0 w h)) hown hK hP 0 rfl rfl 1 (by decide) (hts _ (List.mem_cons_of_mem _ tw_100)) (fun _ h9 => h9) rfl d_Digits_bringOne_33 ?_
  refine lv_iconst (v := 1) hx hb d_Digits_bringOne_36 (by decide) ?_
  refine lv_iadd hx hb d_Digits_bringOne_37 ?_
  refine va_put (D := (dC, dI)) (ci := 0) (v := .int (v_t_lost + (1 : Int32))) (ty := tyX0 1) (C := RX0) (T := TX0) (N := 5) hx hb hts (fun w h => List.mem_cons_of_mem _ (tu_0 w h)) tyX0 tyX0_ok nmX0 hown hK hP hD hS 0 rfl rfl 1 (by decide) (hts _ (List.mem_cons_of_mem _ tw_100)) (fun _ h9 => h9) rfl (tyX0_ok 1 (by decide)) rfl rfl (Nat.le_of_ble_eq_true rfl) d_Digits_bringOne_38 (fun H locs hP hD hS => ?_)
  have hP : va_P (dC, dI) vwCl [(h_t, .inr (0, [.ref h_t_came, .int (v_t_lost + (1 : Int32)), .int v_t_lostAhead, .int v_t_allZero, .int v_t_negative])), (h_t_came, .inl (cI, 18, .inl v_t_came))] H := hP
  have hD : va_D A [(h_t, .inr (0, [.ref h_t_came, .int (v_t_lost + (1 : Int32)), .int v_t_lostAhead, .int v_t_allZero, .int v_t_negative])), (h_t_came, .inl (cI, 18, .inl v_t_came))] := hD
  refine lv_iload_n hx hb d_Digits_bringOne_41 rfl (lv_at hl 1 rfl) ?_
  refine lv_if_ge (tgt := 50) hx hb d_Digits_bringOne_42 (by decide) (fun c_172 => ?_) (fun c_172 => ?_)
  · have h := wif_p c_172 h
    have h := Option.some.inj h
    subst h
    exact W.vret hx hb hr (fun t ht hW => ⟨⟨(), rfl, trivial, by rw [ht]; exact hP, va_K.moved hW.alike hK, hD⟩, hS.F ht⟩) hS.2.2 d_Digits_bringOne_50
  · have h := wif_n c_172 h
    refine lv_aload_n hx hb d_Digits_bringOne_45 rfl (lv_at hl 0 rfl) ?_
    refine lv_iconst (v := 1) hx hb d_Digits_bringOne_46 (by decide) ?_
    refine va_put (D := (dC, dI)) (ci := 0) (v := .int (1 : Int32)) (ty := tyX0 2) (C := RX0) (T := TX0) (N := 5) hx hb hts (fun w h => List.mem_cons_of_mem _ (tu_0 w h)) tyX0 tyX0_ok nmX0 hown hK hP hD hS 0 rfl rfl 2 (by decide) (hts _ (List.mem_cons_of_mem _ tw_102)) (fun _ h9 => h9) rfl (tyX0_ok 2 (by decide)) rfl rfl (Nat.le_of_ble_eq_true rfl) d_Digits_bringOne_47 (fun H locs hP hD hS => ?_)
    have hP : va_P (dC, dI) vwCl [(h_t, .inr (0, [.ref h_t_came, .int (v_t_lost + (1 : Int32)), .int (1 : Int32), .int v_t_allZero, .int v_t_negative])), (h_t_came, .inl (cI, 18, .inl v_t_came))] H := hP
    have hD : va_D A [(h_t, .inr (0, [.ref h_t_came, .int (v_t_lost + (1 : Int32)), .int (1 : Int32), .int v_t_allZero, .int v_t_negative])), (h_t_came, .inl (cI, 18, .inl v_t_came))] := hD
    have h := Option.some.inj h
    subst h
    exact W.vret hx hb hr (fun t ht hW => ⟨⟨(), rfl, trivial, by rw [ht]; exact hP, va_K.moved hW.alike hK, hD⟩, hS.F ht⟩) hS.2.2 d_Digits_bringOne_50
set_option maxHeartbeats 4000000 in
set_option maxRecDepth 100000 in
theorem c_Digits_bringOne (l : Launch) (dC : Nat → ClassId) (dI : Nat → Nat → Nat) (cI cZ : ClassId) (z : zT) (h_t h_t_came : Nat) (sz : Nat) (v_t_lost : Int32) (v_t_lostAhead : Int32) (v_t_allZero : Int32) (v_t_negative : Int32) (v_t_came : Nat → Int32) (p0 : Int32) (p1 : Int32) (p2 : Int32) (r : Int32 × Int32 × Int32 × (Nat → Int32)) (hq : F_Digits_bringOne v_t_lost v_t_lostAhead v_t_allZero v_t_came p0 p1 p2 = some r) : Met l y_Digits_bringOne ws_Digits_bringOne rm_Digits_bringOne (wP (dC, dI) vwCl [(cI, .int), (cZ, .boolean)] z [.ref h_t, .int p0, .int p1, .int p2] [(h_t, .inr (0, [.ref h_t_came, .int v_t_lost, .int v_t_lostAhead, .int v_t_allZero, .int v_t_negative])), (h_t_came, .inl (cI, 18, .inl v_t_came))] sz) (wQv (dC, dI) vwCl [(cI, .int), (cZ, .boolean)] [(h_t, .inr (0, [.ref h_t_came, .int r.1, .int r.2.1, .int r.2.2.1, .int v_t_negative])), (h_t_came, .inl (cI, 18, .inl r.2.2.2))] (va_A [(h_t, .inr (0, [.ref h_t_came, .int v_t_lost, .int v_t_lostAhead, .int v_t_allZero, .int v_t_negative])), (h_t_came, .inl (cI, 18, .inl v_t_came))] sz)) 0 0 (va_A [(h_t, .inr (0, [.ref h_t_came, .int v_t_lost, .int v_t_lostAhead, .int v_t_allZero, .int v_t_negative])), (h_t_came, .inl (cI, 18, .inl v_t_came))] sz) := by
  refine Met.ofW (cc := b_Digits_bringOne) (maxL := 4) (ret := none) (by decide) rfl ?_
  intro p e s m args below meth c s₁ B hml hv
  obtain ⟨rfl, hsz, hP, hK, hD0, hZ⟩ := hv
  have hx := B.exec
  have hb := B.bytes
  have hr := B.returns
  have hts := atoms_spec (ws := ws_Digits_bringOne) B.pre
  have hown : s.vm.findClass RX0 = some m.cls := findClass_of_methodNamed B.named
  have hlocks := B.notSynchronized
  have C : wcx p s m [.ref h_t, .int p0, .int p1, .int p2].toArray meth c b_Digits_bringOne none 4 RX0 ws_Digits_bringOne := ⟨hx, hb, hr, hml, hown, hts, hlocks⟩
  subst hsz
  have hD := hD0.self (sz := s.heap.size)
  generalize hAe : va_A [(h_t, .inr (0, [.ref h_t_came, .int v_t_lost, .int v_t_lostAhead, .int v_t_allZero, .int v_t_negative])), (h_t_came, .inl (cI, 18, .inl v_t_came))] s.heap.size = A at hD hZ ⊢
  have hA : ∀ q : Nat, s.heap.size ≤ q → A q := fun q h => by rw [← hAe]; exact Or.inr h
  have hS : va_S A s.heap s.heap [] := va_S.rf
  have hP : va_P (dC, dI) vwCl [(h_t, .inr (0, [.ref h_t_came, .int v_t_lost, .int v_t_lostAhead, .int v_t_allZero, .int v_t_negative])), (h_t_came, .inl (cI, 18, .inl v_t_came))] s.heap := hP
  have hl := lv_entry [.ref h_t, .int p0, .int p1, .int p2] (n := 4) (Nat.le_of_ble_eq_true rfl)
  rw [lg_entry_eq]
  generalize (lg_sl [.ref h_t, .int p0, .int p1, .int p2] ++ List.replicate (4 - (lg_sl [.ref h_t, .int p0, .int p1, .int p2]).length) Slot.unset).toArray = ls at hl ⊢
  have hl : lv_has ls 4 [(0, .ref h_t), (1, .int p0), (2, .int p1), (3, .int p2)] := hl
  refine wentry hP hS hl (fun H locs ls hP hS hl => ?_)
  have h : (if p1 < 0 then (B_Digits_bringOne_31) v_t_lost v_t_lostAhead v_t_allZero v_t_came p1 else (if p2 ≤ p1 then (B_Digits_bringOne_31) v_t_lost v_t_lostAhead v_t_allZero v_t_came p1 else (if (18 : Int32) ≤ p1 then (B_Digits_bringOne_31) v_t_lost v_t_lostAhead v_t_allZero v_t_came p1 else (wgd p1 18 (some (v_t_lost, v_t_lostAhead, (0 : Int32), (upd v_t_came p1.toNatClampNeg p0))))))) = some r := hq
  refine lv_iload_n hx hb d_Digits_bringOne_0 rfl (lv_at hl 2 rfl) ?_
  refine lv_if_lt (tgt := 31) hx hb d_Digits_bringOne_1 (by decide) (fun c_173 => ?_) (fun c_173 => ?_)
  · have h := wif_p c_173 h
    exact (kB_Digits_bringOne_31 C hA hK hZ) v_t_lost v_t_lostAhead v_t_allZero v_t_came p1 _ _ _ h hP hD hS (lv_sub hl [0, 2] rfl)
  · have h := wif_n c_173 h
    refine lv_iload_n hx hb d_Digits_bringOne_4 rfl (lv_at hl 2 rfl) ?_
    refine lv_iload_n hx hb d_Digits_bringOne_5 rfl (lv_at hl 3 rfl) ?_
    refine lv_icmp_ge (tgt := 31) hx hb d_Digits_bringOne_6 (by decide) (fun c_174 => ?_) (fun c_174 => ?_)
    · have h := wif_p c_174 h
      exact (kB_Digits_bringOne_31 C hA hK hZ) v_t_lost v_t_lostAhead v_t_allZero v_t_came p1 _ _ _ h hP hD hS (lv_sub hl [0, 2] rfl)
    · have h := wif_n c_174 h
      refine lv_iload_n hx hb d_Digits_bringOne_9 rfl (lv_at hl 2 rfl) ?_
      refine lv_aload_n hx hb d_Digits_bringOne_10 rfl (lv_at hl 0 rfl) ?_
      refine va_get (D := (dC, dI)) (ci := 0) (v := .ref h_t_came) (C := RX0) (T := TX0) (N := 5) hx hb hts (fun w h => List.mem_cons_of_mem _ (tu_0 w h)) hown hK hP 0 rfl rfl 0 (by decide) (hts _ (List.mem_cons_of_mem _ tw_99)) (fun _ h9 => h9) rfl d_Digits_bringOne_11 ?_
      refine va_alen hx hb hK hP 1 0 (v := 18) rfl rfl rfl d_Digits_bringOne_14 ?_
      refine lv_icmp_ge (tgt := 31) hx hb d_Digits_bringOne_15 (by decide) (fun c_175 => ?_) (fun c_175 => ?_)
      · have h := wif_p c_175 h
        exact (kB_Digits_bringOne_31 C hA hK hZ) v_t_lost v_t_lostAhead v_t_allZero v_t_came p1 _ _ _ h hP hD hS (lv_sub hl [0, 2] rfl)
      · have h := wif_n c_175 h
        refine lv_aload_n hx hb d_Digits_bringOne_18 rfl (lv_at hl 0 rfl) ?_
        refine va_get (D := (dC, dI)) (ci := 0) (v := .ref h_t_came) (C := RX0) (T := TX0) (N := 5) hx hb hts (fun w h => List.mem_cons_of_mem _ (tu_0 w h)) hown hK hP 0 rfl rfl 0 (by decide) (hts _ (List.mem_cons_of_mem _ tw_99)) (fun _ h9 => h9) rfl d_Digits_bringOne_19 ?_
        refine lv_iload_n hx hb d_Digits_bringOne_22 rfl (lv_at hl 2 rfl) ?_
        refine lv_iload_n hx hb d_Digits_bringOne_23 rfl (lv_at hl 1 rfl) ?_
        obtain ⟨g_176, h⟩ := wgd_s h
        refine va_iast hx hb hK hP hD hS 1 0 rfl rfl g_176 d_Digits_bringOne_24 (fun H locs hP hD hS => ?_)
        have hP : va_P (dC, dI) vwCl [(h_t, .inr (0, [.ref h_t_came, .int v_t_lost, .int v_t_lostAhead, .int v_t_allZero, .int v_t_negative])), (h_t_came, .inl (cI, 18, .inl (upd v_t_came p1.toNatClampNeg p0)))] H := hP
        have hD : va_D A [(h_t, .inr (0, [.ref h_t_came, .int v_t_lost, .int v_t_lostAhead, .int v_t_allZero, .int v_t_negative])), (h_t_came, .inl (cI, 18, .inl (upd v_t_came p1.toNatClampNeg p0)))] := hD
        refine lv_aload_n hx hb d_Digits_bringOne_25 rfl (lv_at hl 0 rfl) ?_
        refine lv_iconst (v := 0) hx hb d_Digits_bringOne_26 (by decide) ?_
        refine va_put (D := (dC, dI)) (ci := 0) (v := .int (0 : Int32)) (ty := tyX0 3) (C := RX0) (T := TX0) (N := 5) hx hb hts (fun w h => List.mem_cons_of_mem _ (tu_0 w h)) tyX0 tyX0_ok nmX0 hown hK hP hD hS 0 rfl rfl 3 (by decide) (hts _ (List.mem_cons_of_mem _ tw_104)) (fun _ h9 => h9) rfl (tyX0_ok 3 (by decide)) rfl rfl (Nat.le_of_ble_eq_true rfl) d_Digits_bringOne_27 (fun H locs hP hD hS => ?_)
        have hP : va_P (dC, dI) vwCl [(h_t, .inr (0, [.ref h_t_came, .int v_t_lost, .int v_t_lostAhead, .int (0 : Int32), .int v_t_negative])), (h_t_came, .inl (cI, 18, .inl (upd v_t_came p1.toNatClampNeg p0)))] H := hP
        have hD : va_D A [(h_t, .inr (0, [.ref h_t_came, .int v_t_lost, .int v_t_lostAhead, .int (0 : Int32), .int v_t_negative])), (h_t_came, .inl (cI, 18, .inl (upd v_t_came p1.toNatClampNeg p0)))] := hD
        have h := Option.some.inj h
        subst h
        exact W.vret hx hb hr (fun t ht hW => ⟨⟨(), rfl, trivial, by rw [ht]; exact hP, va_K.moved hW.alike hK, hD⟩, hS.F ht⟩) hS.2.2 d_Digits_bringOne_30
abbrev rm_Digits_bring : Room := { frames := 1, cells := 0, slots := 0, locals := 23 }
def GB_Digits_bring_53 (p : Program) (l : Launch) (e : Env) (s : State) (m : MethodId) (args : Array Value) (below : List Frame) (meth : Method) (c : Code) (dC : Nat → ClassId) (dI : Nat → Nat → Nat) (cI cZ : ClassId) (z : zT) (A : Nat → Prop) (h_t h_t_came : Nat) (r : Int32 × Int32 × Int32 × Int32 × (Nat → Int32)) (f : Int32 → Int32 → Int32 → Int32 → (Nat → Int32) → Int64 → Int32 → Int32 → Int32 → Int64 → Int32 → Int32 → Option (Int32 × Int32 × Int32 × Int32 × (Nat → Int32))) : Prop := ∀ (v_t_lost : Int32) (v_t_lostAhead : Int32) (v_t_allZero : Int32) (v_t_negative : Int32) (v_t_came : Nat → Int32) (x1 : Int64) (x3 : Int32) (x4 : Int32) (x5 : Int32) (x6 : Int64) (x8 : Int32) (s1 : Int32) (H : Heap) (locs : List Loc) (ls : Array Slot), f v_t_lost v_t_lostAhead v_t_allZero v_t_negative v_t_came x1 x3 x4 x5 x6 x8 s1 = some r → va_P (dC, dI) vwCl [(h_t, .inr (0, [.ref h_t_came, .int v_t_lost, .int v_t_lostAhead, .int v_t_allZero, .int v_t_negative])), (h_t_came, .inl (cI, 18, .inl v_t_came))] H → va_D A [(h_t, .inr (0, [.ref h_t_came, .int v_t_lost, .int v_t_lostAhead, .int v_t_allZero, .int v_t_negative])), (h_t_came, .inl (cI, 18, .inl v_t_came))] → va_S A s.heap H locs → lv_has ls 10 [(0, .ref h_t), (1, .long x1), (3, .int x3), (4, .int x4), (5, .int x5), (6, .long x6), (8, .int x8)] → W p l e rm_Digits_bring s m args below meth c H locs 0 0 (MQ below (wQv (dC, dI) vwCl [(cI, .int), (cZ, .boolean)] [(h_t, .inr (0, [.ref h_t_came, .int r.1, .int r.2.1, .int r.2.2.1, .int r.2.2.2.1])), (h_t_came, .inl (cI, 18, .inl r.2.2.2.2))] A) args s 0 0 A) (F0 m 53 ls [.int s1, .ref h_t])
def GB_Digits_bring_10 (p : Program) (l : Launch) (e : Env) (s : State) (m : MethodId) (args : Array Value) (below : List Frame) (meth : Method) (c : Code) (dC : Nat → ClassId) (dI : Nat → Nat → Nat) (cI cZ : ClassId) (z : zT) (A : Nat → Prop) (h_t h_t_came : Nat) (r : Int32 × Int32 × Int32 × Int32 × (Nat → Int32)) (f : Int32 → Int32 → Int32 → Int32 → (Nat → Int32) → Int64 → Int32 → Int32 → Int32 → Int64 → Int32 → Option (Int32 × Int32 × Int32 × Int32 × (Nat → Int32))) : Prop := ∀ (v_t_lost : Int32) (v_t_lostAhead : Int32) (v_t_allZero : Int32) (v_t_negative : Int32) (v_t_came : Nat → Int32) (x1 : Int64) (x3 : Int32) (x4 : Int32) (x5 : Int32) (x6 : Int64) (x8 : Int32) (H : Heap) (locs : List Loc) (ls : Array Slot), f v_t_lost v_t_lostAhead v_t_allZero v_t_negative v_t_came x1 x3 x4 x5 x6 x8 = some r → va_P (dC, dI) vwCl [(h_t, .inr (0, [.ref h_t_came, .int v_t_lost, .int v_t_lostAhead, .int v_t_allZero, .int v_t_negative])), (h_t_came, .inl (cI, 18, .inl v_t_came))] H → va_D A [(h_t, .inr (0, [.ref h_t_came, .int v_t_lost, .int v_t_lostAhead, .int v_t_allZero, .int v_t_negative])), (h_t_came, .inl (cI, 18, .inl v_t_came))] → va_S A s.heap H locs → lv_has ls 10 [(0, .ref h_t), (1, .long x1), (3, .int x3), (4, .int x4), (5, .int x5), (6, .long x6), (8, .int x8)] → W p l e rm_Digits_bring s m args below meth c H locs 0 0 (MQ below (wQv (dC, dI) vwCl [(cI, .int), (cZ, .boolean)] [(h_t, .inr (0, [.ref h_t_came, .int r.1, .int r.2.1, .int r.2.2.1, .int r.2.2.2.1])), (h_t_came, .inl (cI, 18, .inl r.2.2.2.2))] A) args s 0 0 A) (F0 m 10 ls [])
set_option maxHeartbeats 4000000 in
set_option maxRecDepth 100000 in
theorem kB_Digits_bring_53 {p : Program} {l : Launch} {e : Env} {s : State} {m : MethodId} {args : Array Value} {below : List Frame} {meth : Method} {c : Code} {dC : Nat → ClassId} {dI : Nat → Nat → Nat} {cI cZ : ClassId} {z : zT} {A : Nat → Prop} {h_t h_t_came : Nat} {r : Int32 × Int32 × Int32 × Int32 × (Nat → Int32)} (C : wcx p s m args meth c b_Digits_bring none 10 RX0 ws_Digits_bring) (hA : ∀ q : Nat, s.heap.size ≤ q → A q) (hK : va_K (dC, dI) vwCl [(cI, .int), (cZ, .boolean)] s) (hZ : zz z A s s.heap) (k_10 : Int32 → Int32 → Int32 → Int32 → (Nat → Int32) → Int64 → Int32 → Int32 → Int32 → Int64 → Int32 → (Option (Int32 × Int32 × Int32 × Int32 × (Nat → Int32)))) (hk_10 : GB_Digits_bring_10 p l e s m args below meth c dC dI cI cZ z A h_t h_t_came r k_10) : GB_Digits_bring_53 p l e s m args below meth c dC dI cI cZ z A h_t h_t_came r (B_Digits_bring_53 k_10) := by
  obtain ⟨hx, hb, hr, hml, hown, hts, hlocks⟩ := id C
  intro v_t_lost v_t_lostAhead v_t_allZero v_t_negative v_t_came x1 x3 x4 x5 x6 x8 s1 H locs ls h hP hD hS hl
  have h : ((F_Digits_bringOne v_t_lost v_t_lostAhead v_t_allZero v_t_came s1 ((x4 - (1 : Int32)) - (x8 - x3)) (x4 + x5)).bind (fun r_177 => k_10 r_177.1 r_177.2.1 r_177.2.2.1 v_t_negative r_177.2.2.2 x1 x3 x4 x5 x6 (x8 + (1 : Int32)))) = some r := h
  refine lv_iload hx hb d_Digits_bring_53 (lv_at hl 3 rfl) ?_
  refine lv_iconst (v := 1) hx hb d_Digits_bring_55 (by decide) ?_
  refine lv_isub hx hb d_Digits_bring_56 ?_
  refine lv_iload hx hb d_Digits_bring_57 (lv_at hl 6 rfl) ?_
  refine lv_iload_n hx hb d_Digits_bring_59 rfl (lv_at hl 2 rfl) ?_
  refine lv_isub hx hb d_Digits_bring_60 ?_
  refine lv_isub hx hb d_Digits_bring_61 ?_
  refine lv_iload hx hb d_Digits_bring_62 (lv_at hl 3 rfl) ?_
  refine lv_iload hx hb d_Digits_bring_64 (lv_at hl 4 rfl) ?_
  refine lv_iadd hx hb d_Digits_bring_66 ?_
  obtain ⟨r_177, q_177, h⟩ := wbs h
  refine wcall_v (wr := []) (w1 := [(h_t, .inr (0, [.ref h_t_came, .int r_177.1, .int r_177.2.1, .int r_177.2.2.1, .int v_t_negative])), (h_t_came, .inl (cI, 18, .inl r_177.2.2.2))]) (ws' := [(h_t, .inr (0, [.ref h_t_came, .int r_177.1, .int r_177.2.1, .int r_177.2.2.1, .int v_t_negative])), (h_t_came, .inl (cI, 18, .inl r_177.2.2.2))]) (va_runV (As := [.int s1, .int ((x4 - (1 : Int32)) - (x8 - x3)), .int (x4 + x5)]) (rest := []) ⟨hx, hb, hml, hown, hts⟩ (c_Digits_bringOne l dC dI cI cZ z h_t h_t_came H.size v_t_lost v_t_lostAhead v_t_allZero v_t_negative v_t_came s1 ((x4 - (1 : Int32)) - (x8 - x3)) (x4 + x5) r_177 q_177) (cwV 3 hts (wA_V (fun w h => List.mem_cons_of_mem _ h) tw_424 tw_426 tp_16 tw_5 tw_427) rfl rfl rfl (by decide +kernel) ⟨Nat.le_of_ble_eq_true rfl, Nat.le_of_ble_eq_true rfl⟩) (wpreV hK hP hD hS hA hZ [0, 1] (wc := [(h_t, .inr (0, [.ref h_t_came, .int v_t_lost, .int v_t_lostAhead, .int v_t_allZero, .int v_t_negative])), (h_t_came, .inl (cI, 18, .inl v_t_came))]) rfl (by decide) (ci := 0) (q0 := 0) rfl rfl) rfl rfl hl.1 rfl (lv_room (Nat.le_of_ble_eq_true rfl)) d_Digits_bring_67 ⟨Nat.le_of_ble_eq_true rfl, Nat.le_of_ble_eq_true rfl⟩) hP hD hS hA [0, 1] [] [0, 1] rfl rfl (by decide) (by decide) (by decide) rfl (fun H locs hP hD hS => ?_)
  refine lv_iinc (v := (x8 + (1 : Int32))) (lv' := [(8, .int (x8 + (1 : Int32))), (0, .ref h_t), (1, .long x1), (3, .int x3), (4, .int x4), (5, .int x5), (6, .long x6)]) hx hb d_Digits_bring_70 hl (k := 6) rfl rfl (by decide) rfl (fun ls hl => ?_)
  refine lv_goto (tgt := 10) hx hb d_Digits_bring_73 (by decide) ?_
  exact hk_10 r_177.1 r_177.2.1 r_177.2.2.1 v_t_negative r_177.2.2.2 x1 x3 x4 x5 x6 (x8 + (1 : Int32)) _ _ _ h hP hD hS (lv_sub hl [1, 2, 3, 4, 5, 6, 0] rfl)
set_option maxHeartbeats 4000000 in
set_option maxRecDepth 100000 in
theorem kB_Digits_bring_10 {p : Program} {l : Launch} {e : Env} {s : State} {m : MethodId} {args : Array Value} {below : List Frame} {meth : Method} {c : Code} {dC : Nat → ClassId} {dI : Nat → Nat → Nat} {cI cZ : ClassId} {z : zT} {A : Nat → Prop} {h_t h_t_came : Nat} {r : Int32 × Int32 × Int32 × Int32 × (Nat → Int32)} (C : wcx p s m args meth c b_Digits_bring none 10 RX0 ws_Digits_bring) (hA : ∀ q : Nat, s.heap.size ≤ q → A q) (hK : va_K (dC, dI) vwCl [(cI, .int), (cZ, .boolean)] s) (hZ : zz z A s s.heap) (n : Nat) : GB_Digits_bring_10 p l e s m args below meth c dC dI cI cZ z A h_t h_t_came r (B_Digits_bring_10 n) := by
  obtain ⟨hx, hb, hr, hml, hown, hts, hlocks⟩ := id C
  induction n with
  | zero =>
    intro v_t_lost v_t_lostAhead v_t_allZero v_t_negative v_t_came x1 x3 x4 x5 x6 x8 H locs ls h
    exact absurd h (fun z => by cases z)
  | succ n ih =>
    intro v_t_lost v_t_lostAhead v_t_allZero v_t_negative v_t_came x1 x3 x4 x5 x6 x8 H locs ls h hP hD hS hl
    have h : (if (19 : Int32) ≤ x8 then (if 0 ≤ (lg_cmp x1 (0 : Int64)) then (some (v_t_lost, v_t_lostAhead, v_t_allZero, (0 : Int32), v_t_came)) else (if v_t_allZero = 0 then (some (v_t_lost, v_t_lostAhead, v_t_allZero, (1 : Int32), v_t_came)) else (some (v_t_lost, v_t_lostAhead, v_t_allZero, (0 : Int32), v_t_came)))) else (if ((x6 - x6 / (10 : Int64) * (10 : Int64)).toInt32) = 0 then (B_Digits_bring_10 n) v_t_lost v_t_lostAhead v_t_allZero v_t_negative v_t_came x1 x3 x4 x5 (x6 / (10 : Int64)) (x8 + (1 : Int32)) else (if 0 ≤ ((x6 - x6 / (10 : Int64) * (10 : Int64)).toInt32) then (B_Digits_bring_53 (B_Digits_bring_10 n)) v_t_lost v_t_lostAhead v_t_allZero v_t_negative v_t_came x1 x3 x4 x5 (x6 / (10 : Int64)) x8 ((x6 - x6 / (10 : Int64) * (10 : Int64)).toInt32) else (B_Digits_bring_53 (B_Digits_bring_10 n)) v_t_lost v_t_lostAhead v_t_allZero v_t_negative v_t_came x1 x3 x4 x5 (x6 / (10 : Int64)) x8 (-((x6 - x6 / (10 : Int64) * (10 : Int64)).toInt32))))) = some r := h
    refine lv_iload hx hb d_Digits_bring_10 (lv_at hl 6 rfl) ?_
    refine lv_bipush (v := 19) hx hb d_Digits_bring_12 (by decide) ?_
    refine lv_icmp_ge (tgt := 76) hx hb d_Digits_bring_14 (by decide) (fun c_178 => ?_) (fun c_178 => ?_)
    · have h := wif_p c_178 h
      refine lv_aload_n hx hb d_Digits_bring_76 rfl (lv_at hl 0 rfl) ?_
      refine lv_lload_n hx hb d_Digits_bring_77 rfl (lv_at hl 1 rfl) ?_
      refine lv_lconst (v := 0) hx hb d_Digits_bring_78 (by decide) ?_
      refine W.lcmp hx hb d_Digits_bring_79 ?_
      refine lv_if_ge (tgt := 94) hx hb d_Digits_bring_80 (by decide) (fun c_179 => ?_) (fun c_179 => ?_)
      · have h := wif_p c_179 h
        refine lv_iconst (v := 0) hx hb d_Digits_bring_94 (by decide) ?_
        refine va_put (D := (dC, dI)) (ci := 0) (v := .int (0 : Int32)) (ty := tyX0 4) (C := RX0) (T := TX0) (N := 5) hx hb hts (fun w h => List.mem_cons_of_mem _ (tu_0 w h)) tyX0 tyX0_ok nmX0 hown hK hP hD hS 0 rfl rfl 4 (by decide) (hts _ (List.mem_cons_of_mem _ tw_106)) (fun _ h9 => h9) rfl (tyX0_ok 4 (by decide)) rfl rfl (Nat.le_of_ble_eq_true rfl) d_Digits_bring_95 (fun H locs hP hD hS => ?_)
        have hP : va_P (dC, dI) vwCl [(h_t, .inr (0, [.ref h_t_came, .int v_t_lost, .int v_t_lostAhead, .int v_t_allZero, .int (0 : Int32)])), (h_t_came, .inl (cI, 18, .inl v_t_came))] H := hP
        have hD : va_D A [(h_t, .inr (0, [.ref h_t_came, .int v_t_lost, .int v_t_lostAhead, .int v_t_allZero, .int (0 : Int32)])), (h_t_came, .inl (cI, 18, .inl v_t_came))] := hD
        have h := Option.some.inj h
        subst h
        exact W.vret hx hb hr (fun t ht hW => ⟨⟨(), rfl, trivial, by rw [ht]; exact hP, va_K.moved hW.alike hK, hD⟩, hS.F ht⟩) hS.2.2 d_Digits_bring_98
      · have h := wif_n c_179 h
        refine lv_aload_n hx hb d_Digits_bring_83 rfl (lv_at hl 0 rfl) ?_
        refine va_get (D := (dC, dI)) (ci := 0) (v := .int v_t_allZero) (C := RX0) (T := TX0) (N := 5) hx hb hts (fun w h => List.mem_cons_of_mem _ (tu_0 w h)) hown hK hP 0 rfl rfl 3 (by decide) (hts _ (List.mem_cons_of_mem _ tw_104)) (fun _ h9 => h9) rfl d_Digits_bring_84 ?_
        refine lv_if_ne (tgt := 94) hx hb d_Digits_bring_87 (by decide) (fun c_180 => ?_) (fun c_180 => ?_)
        · have h := wif_n c_180 h
          refine lv_iconst (v := 0) hx hb d_Digits_bring_94 (by decide) ?_
          refine va_put (D := (dC, dI)) (ci := 0) (v := .int (0 : Int32)) (ty := tyX0 4) (C := RX0) (T := TX0) (N := 5) hx hb hts (fun w h => List.mem_cons_of_mem _ (tu_0 w h)) tyX0 tyX0_ok nmX0 hown hK hP hD hS 0 rfl rfl 4 (by decide) (hts _ (List.mem_cons_of_mem _ tw_106)) (fun _ h9 => h9) rfl (tyX0_ok 4 (by decide)) rfl rfl (Nat.le_of_ble_eq_true rfl) d_Digits_bring_95 (fun H locs hP hD hS => ?_)
          have hP : va_P (dC, dI) vwCl [(h_t, .inr (0, [.ref h_t_came, .int v_t_lost, .int v_t_lostAhead, .int v_t_allZero, .int (0 : Int32)])), (h_t_came, .inl (cI, 18, .inl v_t_came))] H := hP
          have hD : va_D A [(h_t, .inr (0, [.ref h_t_came, .int v_t_lost, .int v_t_lostAhead, .int v_t_allZero, .int (0 : Int32)])), (h_t_came, .inl (cI, 18, .inl v_t_came))] := hD
          have h := Option.some.inj h
          subst h
          exact W.vret hx hb hr (fun t ht hW => ⟨⟨(), rfl, trivial, by rw [ht]; exact hP, va_K.moved hW.alike hK, hD⟩, hS.F ht⟩) hS.2.2 d_Digits_bring_98
        · have h := wif_p c_180 h
          refine lv_iconst (v := 1) hx hb d_Digits_bring_90 (by decide) ?_
          refine lv_goto (tgt := 95) hx hb d_Digits_bring_91 (by decide) ?_
          refine va_put (D := (dC, dI)) (ci := 0) (v := .int (1 : Int32)) (ty := tyX0 4) (C := RX0) (T := TX0) (N := 5) hx hb hts (fun w h => List.mem_cons_of_mem _ (tu_0 w h)) tyX0 tyX0_ok nmX0 hown hK hP hD hS 0 rfl rfl 4 (by decide) (hts _ (List.mem_cons_of_mem _ tw_106)) (fun _ h9 => h9) rfl (tyX0_ok 4 (by decide)) rfl rfl (Nat.le_of_ble_eq_true rfl) d_Digits_bring_95 (fun H locs hP hD hS => ?_)
          have hP : va_P (dC, dI) vwCl [(h_t, .inr (0, [.ref h_t_came, .int v_t_lost, .int v_t_lostAhead, .int v_t_allZero, .int (1 : Int32)])), (h_t_came, .inl (cI, 18, .inl v_t_came))] H := hP
          have hD : va_D A [(h_t, .inr (0, [.ref h_t_came, .int v_t_lost, .int v_t_lostAhead, .int v_t_allZero, .int (1 : Int32)])), (h_t_came, .inl (cI, 18, .inl v_t_came))] := hD
          have h := Option.some.inj h
          subst h
          exact W.vret hx hb hr (fun t ht hW => ⟨⟨(), rfl, trivial, by rw [ht]; exact hP, va_K.moved hW.alike hK, hD⟩, hS.F ht⟩) hS.2.2 d_Digits_bring_98
    · have h := wif_n c_178 h
      refine lv_lload hx hb d_Digits_bring_17 (lv_at hl 5 rfl) ?_
      refine lv_ldc2 (v := 10) hx hb hown (hts _ (List.mem_cons_of_mem _ tw_423)) d_Digits_bring_19 ?_
      refine lv_lrem hx hb d_Digits_bring_22 (by decide) ?_
      refine lv_l2i hx hb d_Digits_bring_23 rfl ?_
      refine lv_istore (lv' := [(9, .int ((x6 - x6 / (10 : Int64) * (10 : Int64)).toInt32)), (0, .ref h_t), (1, .long x1), (3, .int x3), (4, .int x4), (5, .int x5), (6, .long x6), (8, .int x8)]) hx hb d_Digits_bring_24 hl (by decide) rfl (fun ls hl => ?_)
      refine lv_lload hx hb d_Digits_bring_26 (lv_at hl 6 rfl) ?_
      refine lv_ldc2 (v := 10) hx hb hown (hts _ (List.mem_cons_of_mem _ tw_423)) d_Digits_bring_28 ?_
      refine lv_ldiv hx hb d_Digits_bring_31 (by decide) ?_
      refine lv_lstore (lv' := [(6, .long (x6 / (10 : Int64))), (9, .int ((x6 - x6 / (10 : Int64) * (10 : Int64)).toInt32)), (0, .ref h_t), (1, .long x1), (3, .int x3), (4, .int x4), (5, .int x5), (8, .int x8)]) hx hb d_Digits_bring_32 hl (by decide) rfl (fun ls hl => ?_)
      refine lv_iload hx hb d_Digits_bring_34 (lv_at hl 1 rfl) ?_
      refine lv_if_eq (tgt := 70) hx hb d_Digits_bring_36 (by decide) (fun c_181 => ?_) (fun c_181 => ?_)
      · have h := wif_p c_181 h
        refine lv_iinc (v := (x8 + (1 : Int32))) (lv' := [(8, .int (x8 + (1 : Int32))), (6, .long (x6 / (10 : Int64))), (9, .int ((x6 - x6 / (10 : Int64) * (10 : Int64)).toInt32)), (0, .ref h_t), (1, .long x1), (3, .int x3), (4, .int x4), (5, .int x5)]) hx hb d_Digits_bring_70 hl (k := 7) rfl rfl (by decide) rfl (fun ls hl => ?_)
        refine lv_goto (tgt := 10) hx hb d_Digits_bring_73 (by decide) ?_
        exact ih v_t_lost v_t_lostAhead v_t_allZero v_t_negative v_t_came x1 x3 x4 x5 (x6 / (10 : Int64)) (x8 + (1 : Int32)) _ _ _ h hP hD hS (lv_sub hl [3, 4, 5, 6, 7, 1, 0] rfl)
      · have h := wif_n c_181 h
        refine lv_aload_n hx hb d_Digits_bring_39 rfl (lv_at hl 2 rfl) ?_
        refine lv_iload hx hb d_Digits_bring_40 (lv_at hl 1 rfl) ?_
        refine lv_if_ge (tgt := 51) hx hb d_Digits_bring_42 (by decide) (fun c_182 => ?_) (fun c_182 => ?_)
        · have h := wif_p c_182 h
          refine lv_iload hx hb d_Digits_bring_51 (lv_at hl 1 rfl) ?_
          exact (kB_Digits_bring_53 C hA hK hZ (B_Digits_bring_10 n) ih) v_t_lost v_t_lostAhead v_t_allZero v_t_negative v_t_came x1 x3 x4 x5 (x6 / (10 : Int64)) x8 ((x6 - x6 / (10 : Int64) * (10 : Int64)).toInt32) _ _ _ h hP hD hS (lv_sub hl [2, 3, 4, 5, 6, 0, 7] rfl)
        · have h := wif_n c_182 h
          refine lv_iload hx hb d_Digits_bring_45 (lv_at hl 1 rfl) ?_
          refine lv_ineg hx hb d_Digits_bring_47 ?_
          refine lv_goto (tgt := 53) hx hb d_Digits_bring_48 (by decide) ?_
          exact (kB_Digits_bring_53 C hA hK hZ (B_Digits_bring_10 n) ih) v_t_lost v_t_lostAhead v_t_allZero v_t_negative v_t_came x1 x3 x4 x5 (x6 / (10 : Int64)) x8 (-((x6 - x6 / (10 : Int64) * (10 : Int64)).toInt32)) _ _ _ h hP hD hS (lv_sub hl [2, 3, 4, 5, 6, 0, 7] rfl)
set_option maxHeartbeats 4000000 in
set_option maxRecDepth 100000 in
theorem c_Digits_bring (l : Launch) (dC : Nat → ClassId) (dI : Nat → Nat → Nat) (cI cZ : ClassId) (z : zT) (h_t h_t_came : Nat) (sz : Nat) (v_t_lost : Int32) (v_t_lostAhead : Int32) (v_t_allZero : Int32) (v_t_negative : Int32) (v_t_came : Nat → Int32) (p0 : Int64) (p1 : Int32) (p2 : Int32) (p3 : Int32) (r : Int32 × Int32 × Int32 × Int32 × (Nat → Int32)) (hq : F_Digits_bring v_t_lost v_t_lostAhead v_t_allZero v_t_negative v_t_came p0 p1 p2 p3 = some r) : Met l y_Digits_bring ws_Digits_bring rm_Digits_bring (wP (dC, dI) vwCl [(cI, .int), (cZ, .boolean)] z [.ref h_t, .long p0, .int p1, .int p2, .int p3] [(h_t, .inr (0, [.ref h_t_came, .int v_t_lost, .int v_t_lostAhead, .int v_t_allZero, .int v_t_negative])), (h_t_came, .inl (cI, 18, .inl v_t_came))] sz) (wQv (dC, dI) vwCl [(cI, .int), (cZ, .boolean)] [(h_t, .inr (0, [.ref h_t_came, .int r.1, .int r.2.1, .int r.2.2.1, .int r.2.2.2.1])), (h_t_came, .inl (cI, 18, .inl r.2.2.2.2))] (va_A [(h_t, .inr (0, [.ref h_t_came, .int v_t_lost, .int v_t_lostAhead, .int v_t_allZero, .int v_t_negative])), (h_t_came, .inl (cI, 18, .inl v_t_came))] sz)) 0 0 (va_A [(h_t, .inr (0, [.ref h_t_came, .int v_t_lost, .int v_t_lostAhead, .int v_t_allZero, .int v_t_negative])), (h_t_came, .inl (cI, 18, .inl v_t_came))] sz) := by
  refine Met.ofW (cc := b_Digits_bring) (maxL := 10) (ret := none) (by decide) rfl ?_
  intro p e s m args below meth c s₁ B hml hv
  obtain ⟨rfl, hsz, hP, hK, hD0, hZ⟩ := hv
  have hx := B.exec
  have hb := B.bytes
  have hr := B.returns
  have hts := atoms_spec (ws := ws_Digits_bring) B.pre
  have hown : s.vm.findClass RX0 = some m.cls := findClass_of_methodNamed B.named
  have hlocks := B.notSynchronized
  have C : wcx p s m [.ref h_t, .long p0, .int p1, .int p2, .int p3].toArray meth c b_Digits_bring none 10 RX0 ws_Digits_bring := ⟨hx, hb, hr, hml, hown, hts, hlocks⟩
  subst hsz
  have hD := hD0.self (sz := s.heap.size)
  generalize hAe : va_A [(h_t, .inr (0, [.ref h_t_came, .int v_t_lost, .int v_t_lostAhead, .int v_t_allZero, .int v_t_negative])), (h_t_came, .inl (cI, 18, .inl v_t_came))] s.heap.size = A at hD hZ ⊢
  have hA : ∀ q : Nat, s.heap.size ≤ q → A q := fun q h => by rw [← hAe]; exact Or.inr h
  have hS : va_S A s.heap s.heap [] := va_S.rf
  have hP : va_P (dC, dI) vwCl [(h_t, .inr (0, [.ref h_t_came, .int v_t_lost, .int v_t_lostAhead, .int v_t_allZero, .int v_t_negative])), (h_t_came, .inl (cI, 18, .inl v_t_came))] s.heap := hP
  have hl := lv_entry [.ref h_t, .long p0, .int p1, .int p2, .int p3] (n := 10) (Nat.le_of_ble_eq_true rfl)
  rw [lg_entry_eq]
  generalize (lg_sl [.ref h_t, .long p0, .int p1, .int p2, .int p3] ++ List.replicate (10 - (lg_sl [.ref h_t, .long p0, .int p1, .int p2, .int p3]).length) Slot.unset).toArray = ls at hl ⊢
  have hl : lv_has ls 10 [(0, .ref h_t), (1, .long p0), (3, .int p1), (4, .int p2), (5, .int p3)] := hl
  refine wentry hP hS hl (fun H locs ls hP hS hl => ?_)
  have h : ((F_Digits_clear v_t_lost v_t_lostAhead v_t_allZero v_t_negative v_t_came).bind (fun r_183 => (B_Digits_bring_10 fu) r_183.1 r_183.2.1 r_183.2.2.1 r_183.2.2.2.1 r_183.2.2.2.2 p0 p1 p2 p3 p0 (0 : Int32))) = some r := hq
  refine lv_aload_n hx hb d_Digits_bring_0 rfl (lv_at hl 0 rfl) ?_
  obtain ⟨r_183, q_183, h⟩ := wbs h
  refine wcall_v (wr := []) (w1 := [(h_t, .inr (0, [.ref h_t_came, .int r_183.1, .int r_183.2.1, .int r_183.2.2.1, .int r_183.2.2.2.1])), (h_t_came, .inl (cI, 18, .inl r_183.2.2.2.2))]) (ws' := [(h_t, .inr (0, [.ref h_t_came, .int r_183.1, .int r_183.2.1, .int r_183.2.2.1, .int r_183.2.2.2.1])), (h_t_came, .inl (cI, 18, .inl r_183.2.2.2.2))]) (va_runV (As := []) (rest := []) ⟨hx, hb, hml, hown, hts⟩ (c_Digits_clear l dC dI cI cZ z h_t h_t_came H.size v_t_lost v_t_lostAhead v_t_allZero v_t_negative v_t_came r_183 q_183) (cwV 0 hts (wA_V (fun w h => List.mem_cons_of_mem _ h) tw_419 tw_421 tp_15 tw_5 tw_422) rfl rfl rfl (by decide +kernel) ⟨Nat.le_of_ble_eq_true rfl, Nat.le_of_ble_eq_true rfl⟩) (wpreV hK hP hD hS hA hZ [0, 1] (wc := [(h_t, .inr (0, [.ref h_t_came, .int v_t_lost, .int v_t_lostAhead, .int v_t_allZero, .int v_t_negative])), (h_t_came, .inl (cI, 18, .inl v_t_came))]) rfl (by decide) (ci := 0) (q0 := 0) rfl rfl) rfl rfl hl.1 rfl (lv_room (Nat.le_of_ble_eq_true rfl)) d_Digits_bring_1 ⟨Nat.le_of_ble_eq_true rfl, Nat.le_of_ble_eq_true rfl⟩) hP hD hS hA [0, 1] [] [0, 1] rfl rfl (by decide) (by decide) (by decide) rfl (fun H locs hP hD hS => ?_)
  refine lv_lload_n hx hb d_Digits_bring_4 rfl (lv_at hl 1 rfl) ?_
  refine lv_lstore (lv' := [(6, .long p0), (0, .ref h_t), (1, .long p0), (3, .int p1), (4, .int p2), (5, .int p3)]) hx hb d_Digits_bring_5 hl (by decide) rfl (fun ls hl => ?_)
  refine lv_iconst (v := 0) hx hb d_Digits_bring_7 (by decide) ?_
  refine lv_istore (lv' := [(8, .int (0 : Int32)), (6, .long p0), (0, .ref h_t), (1, .long p0), (3, .int p1), (4, .int p2), (5, .int p3)]) hx hb d_Digits_bring_8 hl (by decide) rfl (fun ls hl => ?_)
  exact (kB_Digits_bring_10 C hA hK hZ fu) r_183.1 r_183.2.1 r_183.2.2.1 r_183.2.2.2.1 r_183.2.2.2.2 p0 p1 p2 p3 p0 (0 : Int32) _ _ _ h hP hD hS (lv_sub hl [2, 3, 4, 5, 6, 1, 0] rfl)
abbrev rm_Result_drop : Room := { frames := 0, cells := 0, slots := 0, locals := 0 }
set_option maxHeartbeats 4000000 in
set_option maxRecDepth 100000 in
theorem c_Result_drop (l : Launch) (dC : Nat → ClassId) (dI : Nat → Nat → Nat) (cI cZ : ClassId) (z : zT) (h_t h_t_row h_t_shownDigit : Nat) (sz : Nat) (v_t_kind : Int32) (v_t_length : Int32) (v_t_hiddenPlaces : Int32) (r : Int32 × Int32 × Int32) (hq : F_Result_drop v_t_kind v_t_length v_t_hiddenPlaces = some r) : Met l y_Result_drop ws_Result_drop rm_Result_drop (wP (dC, dI) vwCl [(cI, .int), (cZ, .boolean)] z [.ref h_t] [(h_t, .inr (4, [.ref h_t_row, .ref h_t_shownDigit, .int v_t_kind, .int v_t_length, .int v_t_hiddenPlaces]))] sz) (wQv (dC, dI) vwCl [(cI, .int), (cZ, .boolean)] [(h_t, .inr (4, [.ref h_t_row, .ref h_t_shownDigit, .int r.1, .int r.2.1, .int r.2.2]))] (va_A [(h_t, .inr (4, [.ref h_t_row, .ref h_t_shownDigit, .int v_t_kind, .int v_t_length, .int v_t_hiddenPlaces]))] sz)) 0 0 (va_A [(h_t, .inr (4, [.ref h_t_row, .ref h_t_shownDigit, .int v_t_kind, .int v_t_length, .int v_t_hiddenPlaces]))] sz) := by
  refine Met.ofW (cc := b_Result_drop) (maxL := 1) (ret := none) (by decide) rfl ?_
  intro p e s m args below meth c s₁ B hml hv
  obtain ⟨rfl, hsz, hP, hK, hD0, hZ⟩ := hv
  have hx := B.exec
  have hb := B.bytes
  have hr := B.returns
  have hts := atoms_spec (ws := ws_Result_drop) B.pre
  have hown : s.vm.findClass RX4 = some m.cls := findClass_of_methodNamed B.named
  have hlocks := B.notSynchronized
  have C : wcx p s m [.ref h_t].toArray meth c b_Result_drop none 1 RX4 ws_Result_drop := ⟨hx, hb, hr, hml, hown, hts, hlocks⟩
  subst hsz
  have hD := hD0.self (sz := s.heap.size)
  generalize hAe : va_A [(h_t, .inr (4, [.ref h_t_row, .ref h_t_shownDigit, .int v_t_kind, .int v_t_length, .int v_t_hiddenPlaces]))] s.heap.size = A at hD hZ ⊢
  have hA : ∀ q : Nat, s.heap.size ≤ q → A q := fun q h => by rw [← hAe]; exact Or.inr h
  have hS : va_S A s.heap s.heap [] := va_S.rf
  have hP : va_P (dC, dI) vwCl [(h_t, .inr (4, [.ref h_t_row, .ref h_t_shownDigit, .int v_t_kind, .int v_t_length, .int v_t_hiddenPlaces]))] s.heap := hP
  have hl := lv_entry [.ref h_t] (n := 1) (Nat.le_of_ble_eq_true rfl)
  rw [lg_entry_eq]
  generalize (lg_sl [.ref h_t] ++ List.replicate (1 - (lg_sl [.ref h_t]).length) Slot.unset).toArray = ls at hl ⊢
  have hl : lv_has ls 1 [(0, .ref h_t)] := hl
  refine wentry hP hS hl (fun H locs ls hP hS hl => ?_)
  have h : (some ((0 : Int32), (0 : Int32), (0 : Int32))) = some r := hq
  refine lv_aload_n hx hb d_Result_drop_0 rfl (lv_at hl 0 rfl) ?_
  refine lv_iconst (v := 0) hx hb d_Result_drop_1 (by decide) ?_
  refine va_put (D := (dC, dI)) (ci := 4) (v := .int (0 : Int32)) (ty := tyX4 2) (C := RX4) (T := TX4) (N := 5) hx hb hts (fun w h => List.mem_cons_of_mem _ (tu_4 w h)) tyX4 tyX4_ok nmX4 hown hK hP hD hS 0 rfl rfl 2 (by decide) (hts _ (List.mem_cons_of_mem _ tw_127)) (fun _ h9 => h9) rfl (tyX4_ok 2 (by decide)) rfl rfl (Nat.le_of_ble_eq_true rfl) d_Result_drop_2 (fun H locs hP hD hS => ?_)
  have hP : va_P (dC, dI) vwCl [(h_t, .inr (4, [.ref h_t_row, .ref h_t_shownDigit, .int (0 : Int32), .int v_t_length, .int v_t_hiddenPlaces]))] H := hP
  have hD : va_D A [(h_t, .inr (4, [.ref h_t_row, .ref h_t_shownDigit, .int (0 : Int32), .int v_t_length, .int v_t_hiddenPlaces]))] := hD
  refine lv_aload_n hx hb d_Result_drop_5 rfl (lv_at hl 0 rfl) ?_
  refine lv_iconst (v := 0) hx hb d_Result_drop_6 (by decide) ?_
  refine va_put (D := (dC, dI)) (ci := 4) (v := .int (0 : Int32)) (ty := tyX4 3) (C := RX4) (T := TX4) (N := 5) hx hb hts (fun w h => List.mem_cons_of_mem _ (tu_4 w h)) tyX4 tyX4_ok nmX4 hown hK hP hD hS 0 rfl rfl 3 (by decide) (hts _ (List.mem_cons_of_mem _ tw_130)) (fun _ h9 => h9) rfl (tyX4_ok 3 (by decide)) rfl rfl (Nat.le_of_ble_eq_true rfl) d_Result_drop_7 (fun H locs hP hD hS => ?_)
  have hP : va_P (dC, dI) vwCl [(h_t, .inr (4, [.ref h_t_row, .ref h_t_shownDigit, .int (0 : Int32), .int (0 : Int32), .int v_t_hiddenPlaces]))] H := hP
  have hD : va_D A [(h_t, .inr (4, [.ref h_t_row, .ref h_t_shownDigit, .int (0 : Int32), .int (0 : Int32), .int v_t_hiddenPlaces]))] := hD
  refine lv_aload_n hx hb d_Result_drop_10 rfl (lv_at hl 0 rfl) ?_
  refine lv_iconst (v := 0) hx hb d_Result_drop_11 (by decide) ?_
  refine va_put (D := (dC, dI)) (ci := 4) (v := .int (0 : Int32)) (ty := tyX4 4) (C := RX4) (T := TX4) (N := 5) hx hb hts (fun w h => List.mem_cons_of_mem _ (tu_4 w h)) tyX4 tyX4_ok nmX4 hown hK hP hD hS 0 rfl rfl 4 (by decide) (hts _ (List.mem_cons_of_mem _ tw_132)) (fun _ h9 => h9) rfl (tyX4_ok 4 (by decide)) rfl rfl (Nat.le_of_ble_eq_true rfl) d_Result_drop_12 (fun H locs hP hD hS => ?_)
  have hP : va_P (dC, dI) vwCl [(h_t, .inr (4, [.ref h_t_row, .ref h_t_shownDigit, .int (0 : Int32), .int (0 : Int32), .int (0 : Int32)]))] H := hP
  have hD : va_D A [(h_t, .inr (4, [.ref h_t_row, .ref h_t_shownDigit, .int (0 : Int32), .int (0 : Int32), .int (0 : Int32)]))] := hD
  have h := Option.some.inj h
  subst h
  exact W.vret hx hb hr (fun t ht hW => ⟨⟨(), rfl, trivial, by rw [ht]; exact hP, va_K.moved hW.alike hK, hD⟩, hS.F ht⟩) hS.2.2 d_Result_drop_15
abbrev rm_Result_put : Room := { frames := 0, cells := 0, slots := 0, locals := 0 }
set_option maxHeartbeats 4000000 in
set_option maxRecDepth 100000 in
theorem c_Result_put (l : Launch) (dC : Nat → ClassId) (dI : Nat → Nat → Nat) (cI cZ : ClassId) (z : zT) (h_t h_t_row h_t_shownDigit : Nat) (sz : Nat) (v_t_kind : Int32) (v_t_length : Int32) (v_t_hiddenPlaces : Int32) (v_t_row : Nat → Int32) (v_t_shownDigit : Nat → Int32) (p0 : Int32) (p1 : Int32) (r : Int32 × (Nat → Int32) × (Nat → Int32)) (hq : F_Result_put v_t_length v_t_row v_t_shownDigit p0 p1 = some r) : Met l y_Result_put ws_Result_put rm_Result_put (wP (dC, dI) vwCl [(cI, .int), (cZ, .boolean)] z [.ref h_t, .int p0, .int p1] [(h_t, .inr (4, [.ref h_t_row, .ref h_t_shownDigit, .int v_t_kind, .int v_t_length, .int v_t_hiddenPlaces])), (h_t_row, .inl (cI, 200, .inl v_t_row)), (h_t_shownDigit, .inl (cZ, 200, .inl v_t_shownDigit))] sz) (wQv (dC, dI) vwCl [(cI, .int), (cZ, .boolean)] [(h_t, .inr (4, [.ref h_t_row, .ref h_t_shownDigit, .int v_t_kind, .int r.1, .int v_t_hiddenPlaces])), (h_t_row, .inl (cI, 200, .inl r.2.1)), (h_t_shownDigit, .inl (cZ, 200, .inl r.2.2))] (va_A [(h_t, .inr (4, [.ref h_t_row, .ref h_t_shownDigit, .int v_t_kind, .int v_t_length, .int v_t_hiddenPlaces])), (h_t_row, .inl (cI, 200, .inl v_t_row)), (h_t_shownDigit, .inl (cZ, 200, .inl v_t_shownDigit))] sz)) 0 0 (va_A [(h_t, .inr (4, [.ref h_t_row, .ref h_t_shownDigit, .int v_t_kind, .int v_t_length, .int v_t_hiddenPlaces])), (h_t_row, .inl (cI, 200, .inl v_t_row)), (h_t_shownDigit, .inl (cZ, 200, .inl v_t_shownDigit))] sz) := by
  refine Met.ofW (cc := b_Result_put) (maxL := 3) (ret := none) (by decide) rfl ?_
  intro p e s m args below meth c s₁ B hml hv
  obtain ⟨rfl, hsz, hP, hK, hD0, hZ⟩ := hv
  have hx := B.exec
  have hb := B.bytes
  have hr := B.returns
  have hts := atoms_spec (ws := ws_Result_put) B.pre
  have hown : s.vm.findClass RX4 = some m.cls := findClass_of_methodNamed B.named
  have hlocks := B.notSynchronized
  have C : wcx p s m [.ref h_t, .int p0, .int p1].toArray meth c b_Result_put none 3 RX4 ws_Result_put := ⟨hx, hb, hr, hml, hown, hts, hlocks⟩
  subst hsz
  have hD := hD0.self (sz := s.heap.size)
  generalize hAe : va_A [(h_t, .inr (4, [.ref h_t_row, .ref h_t_shownDigit, .int v_t_kind, .int v_t_length, .int v_t_hiddenPlaces])), (h_t_row, .inl (cI, 200, .inl v_t_row)), (h_t_shownDigit, .inl (cZ, 200, .inl v_t_shownDigit))] s.heap.size = A at hD hZ ⊢
  have hA : ∀ q : Nat, s.heap.size ≤ q → A q := fun q h => by rw [← hAe]; exact Or.inr h
  have hS : va_S A s.heap s.heap [] := va_S.rf
  have hP : va_P (dC, dI) vwCl [(h_t, .inr (4, [.ref h_t_row, .ref h_t_shownDigit, .int v_t_kind, .int v_t_length, .int v_t_hiddenPlaces])), (h_t_row, .inl (cI, 200, .inl v_t_row)), (h_t_shownDigit, .inl (cZ, 200, .inl v_t_shownDigit))] s.heap := hP
  have hl := lv_entry [.ref h_t, .int p0, .int p1] (n := 3) (Nat.le_of_ble_eq_true rfl)
  rw [lg_entry_eq]
  generalize (lg_sl [.ref h_t, .int p0, .int p1] ++ List.replicate (3 - (lg_sl [.ref h_t, .int p0, .int p1]).length) Slot.unset).toArray = ls at hl ⊢
  have hl : lv_has ls 3 [(0, .ref h_t), (1, .int p0), (2, .int p1)] := hl
  refine wentry hP hS hl (fun H locs ls hP hS hl => ?_)
  have h : (if v_t_length < 0 then (some (v_t_length, v_t_row, v_t_shownDigit)) else (if (200 : Int32) ≤ v_t_length then (some (v_t_length, v_t_row, v_t_shownDigit)) else (if (200 : Int32) ≤ v_t_length then (some (v_t_length, v_t_row, v_t_shownDigit)) else (wgd v_t_length 200 (wgd v_t_length 200 (some ((v_t_length + (1 : Int32)), (upd v_t_row v_t_length.toNatClampNeg p0), (upd v_t_shownDigit v_t_length.toNatClampNeg (vp_nar .boolean p1))))))))) = some r := hq
  refine lv_aload_n hx hb d_Result_put_0 rfl (lv_at hl 0 rfl) ?_
  refine va_get (D := (dC, dI)) (ci := 4) (v := .int v_t_length) (C := RX4) (T := TX4) (N := 5) hx hb hts (fun w h => List.mem_cons_of_mem _ (tu_4 w h)) hown hK hP 0 rfl rfl 3 (by decide) (hts _ (List.mem_cons_of_mem _ tw_130)) (fun _ h9 => h9) rfl d_Result_put_1 ?_
  refine lv_if_lt (tgt := 61) hx hb d_Result_put_4 (by decide) (fun c_184 => ?_) (fun c_184 => ?_)
  · have h := wif_p c_184 h
    have h := Option.some.inj h
    subst h
    exact W.vret hx hb hr (fun t ht hW => ⟨⟨(), rfl, trivial, by rw [ht]; exact hP, va_K.moved hW.alike hK, hD⟩, hS.F ht⟩) hS.2.2 d_Result_put_61
  · have h := wif_n c_184 h
    refine lv_aload_n hx hb d_Result_put_7 rfl (lv_at hl 0 rfl) ?_
    refine va_get (D := (dC, dI)) (ci := 4) (v := .int v_t_length) (C := RX4) (T := TX4) (N := 5) hx hb hts (fun w h => List.mem_cons_of_mem _ (tu_4 w h)) hown hK hP 0 rfl rfl 3 (by decide) (hts _ (List.mem_cons_of_mem _ tw_130)) (fun _ h9 => h9) rfl d_Result_put_8 ?_
    refine lv_aload_n hx hb d_Result_put_11 rfl (lv_at hl 0 rfl) ?_
    refine va_get (D := (dC, dI)) (ci := 4) (v := .ref h_t_row) (C := RX4) (T := TX4) (N := 5) hx hb hts (fun w h => List.mem_cons_of_mem _ (tu_4 w h)) hown hK hP 0 rfl rfl 0 (by decide) (hts _ (List.mem_cons_of_mem _ tw_125)) (fun _ h9 => h9) rfl d_Result_put_12 ?_
    refine va_alen hx hb hK hP 1 0 (v := 200) rfl rfl rfl d_Result_put_15 ?_
    refine lv_icmp_ge (tgt := 61) hx hb d_Result_put_16 (by decide) (fun c_185 => ?_) (fun c_185 => ?_)
    · have h := wif_p c_185 h
      have h := Option.some.inj h
      subst h
      exact W.vret hx hb hr (fun t ht hW => ⟨⟨(), rfl, trivial, by rw [ht]; exact hP, va_K.moved hW.alike hK, hD⟩, hS.F ht⟩) hS.2.2 d_Result_put_61
    · have h := wif_n c_185 h
      refine lv_aload_n hx hb d_Result_put_19 rfl (lv_at hl 0 rfl) ?_
      refine va_get (D := (dC, dI)) (ci := 4) (v := .int v_t_length) (C := RX4) (T := TX4) (N := 5) hx hb hts (fun w h => List.mem_cons_of_mem _ (tu_4 w h)) hown hK hP 0 rfl rfl 3 (by decide) (hts _ (List.mem_cons_of_mem _ tw_130)) (fun _ h9 => h9) rfl d_Result_put_20 ?_
      refine lv_aload_n hx hb d_Result_put_23 rfl (lv_at hl 0 rfl) ?_
      refine va_get (D := (dC, dI)) (ci := 4) (v := .ref h_t_shownDigit) (C := RX4) (T := TX4) (N := 5) hx hb hts (fun w h => List.mem_cons_of_mem _ (tu_4 w h)) hown hK hP 0 rfl rfl 1 (by decide) (hts _ (List.mem_cons_of_mem _ tw_126)) (fun _ h9 => h9) rfl d_Result_put_24 ?_
      refine va_alen hx hb hK hP 2 1 (v := 200) rfl rfl rfl d_Result_put_27 ?_
      refine lv_icmp_ge (tgt := 61) hx hb d_Result_put_28 (by decide) (fun c_186 => ?_) (fun c_186 => ?_)
      · have h := wif_p c_186 h
        have h := Option.some.inj h
        subst h
        exact W.vret hx hb hr (fun t ht hW => ⟨⟨(), rfl, trivial, by rw [ht]; exact hP, va_K.moved hW.alike hK, hD⟩, hS.F ht⟩) hS.2.2 d_Result_put_61
      · have h := wif_n c_186 h
        refine lv_aload_n hx hb d_Result_put_31 rfl (lv_at hl 0 rfl) ?_
        refine va_get (D := (dC, dI)) (ci := 4) (v := .ref h_t_row) (C := RX4) (T := TX4) (N := 5) hx hb hts (fun w h => List.mem_cons_of_mem _ (tu_4 w h)) hown hK hP 0 rfl rfl 0 (by decide) (hts _ (List.mem_cons_of_mem _ tw_125)) (fun _ h9 => h9) rfl d_Result_put_32 ?_
        refine lv_aload_n hx hb d_Result_put_35 rfl (lv_at hl 0 rfl) ?_
        refine va_get (D := (dC, dI)) (ci := 4) (v := .int v_t_length) (C := RX4) (T := TX4) (N := 5) hx hb hts (fun w h => List.mem_cons_of_mem _ (tu_4 w h)) hown hK hP 0 rfl rfl 3 (by decide) (hts _ (List.mem_cons_of_mem _ tw_130)) (fun _ h9 => h9) rfl d_Result_put_36 ?_
        refine lv_iload_n hx hb d_Result_put_39 rfl (lv_at hl 1 rfl) ?_
        obtain ⟨g_187, h⟩ := wgd_s h
        refine va_iast hx hb hK hP hD hS 1 0 rfl rfl g_187 d_Result_put_40 (fun H locs hP hD hS => ?_)
        have hP : va_P (dC, dI) vwCl [(h_t, .inr (4, [.ref h_t_row, .ref h_t_shownDigit, .int v_t_kind, .int v_t_length, .int v_t_hiddenPlaces])), (h_t_row, .inl (cI, 200, .inl (upd v_t_row v_t_length.toNatClampNeg p0))), (h_t_shownDigit, .inl (cZ, 200, .inl v_t_shownDigit))] H := hP
        have hD : va_D A [(h_t, .inr (4, [.ref h_t_row, .ref h_t_shownDigit, .int v_t_kind, .int v_t_length, .int v_t_hiddenPlaces])), (h_t_row, .inl (cI, 200, .inl (upd v_t_row v_t_length.toNatClampNeg p0))), (h_t_shownDigit, .inl (cZ, 200, .inl v_t_shownDigit))] := hD
        refine lv_aload_n hx hb d_Result_put_41 rfl (lv_at hl 0 rfl) ?_
        refine va_get (D := (dC, dI)) (ci := 4) (v := .ref h_t_shownDigit) (C := RX4) (T := TX4) (N := 5) hx hb hts (fun w h => List.mem_cons_of_mem _ (tu_4 w h)) hown hK hP 0 rfl rfl 1 (by decide) (hts _ (List.mem_cons_of_mem _ tw_126)) (fun _ h9 => h9) rfl d_Result_put_42 ?_
        refine lv_aload_n hx hb d_Result_put_45 rfl (lv_at hl 0 rfl) ?_
        refine va_get (D := (dC, dI)) (ci := 4) (v := .int v_t_length) (C := RX4) (T := TX4) (N := 5) hx hb hts (fun w h => List.mem_cons_of_mem _ (tu_4 w h)) hown hK hP 0 rfl rfl 3 (by decide) (hts _ (List.mem_cons_of_mem _ tw_130)) (fun _ h9 => h9) rfl d_Result_put_46 ?_
        refine lv_iload_n hx hb d_Result_put_49 rfl (lv_at hl 2 rfl) ?_
        obtain ⟨g_188, h⟩ := wgd_s h
        refine va_zast hx hb hK hP hD hS 2 1 rfl rfl g_188 d_Result_put_50 (fun H locs hP hD hS => ?_)
        have hP : va_P (dC, dI) vwCl [(h_t, .inr (4, [.ref h_t_row, .ref h_t_shownDigit, .int v_t_kind, .int v_t_length, .int v_t_hiddenPlaces])), (h_t_row, .inl (cI, 200, .inl (upd v_t_row v_t_length.toNatClampNeg p0))), (h_t_shownDigit, .inl (cZ, 200, .inl (upd v_t_shownDigit v_t_length.toNatClampNeg (vp_nar .boolean p1))))] H := hP
        have hD : va_D A [(h_t, .inr (4, [.ref h_t_row, .ref h_t_shownDigit, .int v_t_kind, .int v_t_length, .int v_t_hiddenPlaces])), (h_t_row, .inl (cI, 200, .inl (upd v_t_row v_t_length.toNatClampNeg p0))), (h_t_shownDigit, .inl (cZ, 200, .inl (upd v_t_shownDigit v_t_length.toNatClampNeg (vp_nar .boolean p1))))] := hD
        refine lv_aload_n hx hb d_Result_put_51 rfl (lv_at hl 0 rfl) ?_
        refine lv_dup hx hb d_Result_put_52 rfl ?_
        refine va_get (D := (dC, dI)) (ci := 4) (v := .int v_t_length) (C := RX4) (T := TX4) (N := 5) hx hb hts (fun w h => List.mem_cons_of_mem _ (tu_4 w h)) hown hK hP 0 rfl rfl 3 (by decide) (hts _ (List.mem_cons_of_mem _ tw_130)) (fun _ h9 => h9) rfl d_Result_put_53 ?_
        refine lv_iconst (v := 1) hx hb d_Result_put_56 (by decide) ?_
        refine lv_iadd hx hb d_Result_put_57 ?_
        refine va_put (D := (dC, dI)) (ci := 4) (v := .int (v_t_length + (1 : Int32))) (ty := tyX4 3) (C := RX4) (T := TX4) (N := 5) hx hb hts (fun w h => List.mem_cons_of_mem _ (tu_4 w h)) tyX4 tyX4_ok nmX4 hown hK hP hD hS 0 rfl rfl 3 (by decide) (hts _ (List.mem_cons_of_mem _ tw_130)) (fun _ h9 => h9) rfl (tyX4_ok 3 (by decide)) rfl rfl (Nat.le_of_ble_eq_true rfl) d_Result_put_58 (fun H locs hP hD hS => ?_)
        have hP : va_P (dC, dI) vwCl [(h_t, .inr (4, [.ref h_t_row, .ref h_t_shownDigit, .int v_t_kind, .int (v_t_length + (1 : Int32)), .int v_t_hiddenPlaces])), (h_t_row, .inl (cI, 200, .inl (upd v_t_row v_t_length.toNatClampNeg p0))), (h_t_shownDigit, .inl (cZ, 200, .inl (upd v_t_shownDigit v_t_length.toNatClampNeg (vp_nar .boolean p1))))] H := hP
        have hD : va_D A [(h_t, .inr (4, [.ref h_t_row, .ref h_t_shownDigit, .int v_t_kind, .int (v_t_length + (1 : Int32)), .int v_t_hiddenPlaces])), (h_t_row, .inl (cI, 200, .inl (upd v_t_row v_t_length.toNatClampNeg p0))), (h_t_shownDigit, .inl (cZ, 200, .inl (upd v_t_shownDigit v_t_length.toNatClampNeg (vp_nar .boolean p1))))] := hD
        have h := Option.some.inj h
        subst h
        exact W.vret hx hb hr (fun t ht hW => ⟨⟨(), rfl, trivial, by rw [ht]; exact hP, va_K.moved hW.alike hK, hD⟩, hS.F ht⟩) hS.2.2 d_Result_put_61
abbrev rm_Result_hide : Room := { frames := 1, cells := 0, slots := 0, locals := 22 }
set_option maxHeartbeats 4000000 in
set_option maxRecDepth 100000 in
theorem c_Result_hide (l : Launch) (dC : Nat → ClassId) (dI : Nat → Nat → Nat) (cI cZ : ClassId) (z : zT) (h_t h_t_row h_t_shownDigit : Nat) (sz : Nat) (v_t_kind : Int32) (v_t_length : Int32) (v_t_hiddenPlaces : Int32) (v_t_row : Nat → Int32) (v_t_shownDigit : Nat → Int32) (p0 : Int32) (r : Int32 × Int32 × (Nat → Int32) × (Nat → Int32)) (hq : F_Result_hide v_t_length v_t_hiddenPlaces v_t_row v_t_shownDigit p0 = some r) : Met l y_Result_hide ws_Result_hide rm_Result_hide (wP (dC, dI) vwCl [(cI, .int), (cZ, .boolean)] z [.ref h_t, .int p0] [(h_t, .inr (4, [.ref h_t_row, .ref h_t_shownDigit, .int v_t_kind, .int v_t_length, .int v_t_hiddenPlaces])), (h_t_row, .inl (cI, 200, .inl v_t_row)), (h_t_shownDigit, .inl (cZ, 200, .inl v_t_shownDigit))] sz) (wQv (dC, dI) vwCl [(cI, .int), (cZ, .boolean)] [(h_t, .inr (4, [.ref h_t_row, .ref h_t_shownDigit, .int v_t_kind, .int r.1, .int r.2.1])), (h_t_row, .inl (cI, 200, .inl r.2.2.1)), (h_t_shownDigit, .inl (cZ, 200, .inl r.2.2.2))] (va_A [(h_t, .inr (4, [.ref h_t_row, .ref h_t_shownDigit, .int v_t_kind, .int v_t_length, .int v_t_hiddenPlaces])), (h_t_row, .inl (cI, 200, .inl v_t_row)), (h_t_shownDigit, .inl (cZ, 200, .inl v_t_shownDigit))] sz)) 0 0 (va_A [(h_t, .inr (4, [.ref h_t_row, .ref h_t_shownDigit, .int v_t_kind, .int v_t_length, .int v_t_hiddenPlaces])), (h_t_row, .inl (cI, 200, .inl v_t_row)), (h_t_shownDigit, .inl (cZ, 200, .inl v_t_shownDigit))] sz) := by
  refine Met.ofW (cc := b_Result_hide) (maxL := 2) (ret := none) (by decide) rfl ?_
  intro p e s m args below meth c s₁ B hml hv
  obtain ⟨rfl, hsz, hP, hK, hD0, hZ⟩ := hv
  have hx := B.exec
  have hb := B.bytes
  have hr := B.returns
  have hts := atoms_spec (ws := ws_Result_hide) B.pre
  have hown : s.vm.findClass RX4 = some m.cls := findClass_of_methodNamed B.named
  have hlocks := B.notSynchronized
  have C : wcx p s m [.ref h_t, .int p0].toArray meth c b_Result_hide none 2 RX4 ws_Result_hide := ⟨hx, hb, hr, hml, hown, hts, hlocks⟩
  subst hsz
  have hD := hD0.self (sz := s.heap.size)
  generalize hAe : va_A [(h_t, .inr (4, [.ref h_t_row, .ref h_t_shownDigit, .int v_t_kind, .int v_t_length, .int v_t_hiddenPlaces])), (h_t_row, .inl (cI, 200, .inl v_t_row)), (h_t_shownDigit, .inl (cZ, 200, .inl v_t_shownDigit))] s.heap.size = A at hD hZ ⊢
  have hA : ∀ q : Nat, s.heap.size ≤ q → A q := fun q h => by rw [← hAe]; exact Or.inr h
  have hS : va_S A s.heap s.heap [] := va_S.rf
  have hP : va_P (dC, dI) vwCl [(h_t, .inr (4, [.ref h_t_row, .ref h_t_shownDigit, .int v_t_kind, .int v_t_length, .int v_t_hiddenPlaces])), (h_t_row, .inl (cI, 200, .inl v_t_row)), (h_t_shownDigit, .inl (cZ, 200, .inl v_t_shownDigit))] s.heap := hP
  have hl := lv_entry [.ref h_t, .int p0] (n := 2) (Nat.le_of_ble_eq_true rfl)
  rw [lg_entry_eq]
  generalize (lg_sl [.ref h_t, .int p0] ++ List.replicate (2 - (lg_sl [.ref h_t, .int p0]).length) Slot.unset).toArray = ls at hl ⊢
  have hl : lv_has ls 2 [(0, .ref h_t), (1, .int p0)] := hl
  refine wentry hP hS hl (fun H locs ls hP hS hl => ?_)
  have h : ((F_Result_put v_t_length v_t_row v_t_shownDigit p0 (0 : Int32)).bind (fun r_189 => (some (r_189.1, (v_t_hiddenPlaces + (1 : Int32)), r_189.2.1, r_189.2.2)))) = some r := hq
  refine lv_aload_n hx hb d_Result_hide_0 rfl (lv_at hl 0 rfl) ?_
  refine lv_iload_n hx hb d_Result_hide_1 rfl (lv_at hl 1 rfl) ?_
  refine lv_iconst (v := 0) hx hb d_Result_hide_2 (by decide) ?_
  obtain ⟨r_189, q_189, h⟩ := wbs h
  refine wcall_v (wr := []) (w1 := [(h_t, .inr (4, [.ref h_t_row, .ref h_t_shownDigit, .int v_t_kind, .int r_189.1, .int v_t_hiddenPlaces])), (h_t_row, .inl (cI, 200, .inl r_189.2.1)), (h_t_shownDigit, .inl (cZ, 200, .inl r_189.2.2))]) (ws' := [(h_t, .inr (4, [.ref h_t_row, .ref h_t_shownDigit, .int v_t_kind, .int r_189.1, .int v_t_hiddenPlaces])), (h_t_row, .inl (cI, 200, .inl r_189.2.1)), (h_t_shownDigit, .inl (cZ, 200, .inl r_189.2.2))]) (va_runV (As := [.int p0, .int (0 : Int32)]) (rest := []) ⟨hx, hb, hml, hown, hts⟩ (c_Result_put l dC dI cI cZ z h_t h_t_row h_t_shownDigit H.size v_t_kind v_t_length v_t_hiddenPlaces v_t_row v_t_shownDigit p0 (0 : Int32) r_189 q_189) (cwV 2 hts (wA_V (fun w h => List.mem_cons_of_mem _ h) tw_441 tw_408 tw_409 tw_6 tw_410) rfl rfl rfl (by decide +kernel) ⟨Nat.le_of_ble_eq_true rfl, Nat.le_of_ble_eq_true rfl⟩) (wpreV hK hP hD hS hA hZ [0, 1, 2] (wc := [(h_t, .inr (4, [.ref h_t_row, .ref h_t_shownDigit, .int v_t_kind, .int v_t_length, .int v_t_hiddenPlaces])), (h_t_row, .inl (cI, 200, .inl v_t_row)), (h_t_shownDigit, .inl (cZ, 200, .inl v_t_shownDigit))]) rfl (by decide) (ci := 4) (q0 := 0) rfl rfl) rfl rfl hl.1 rfl (lv_room (Nat.le_of_ble_eq_true rfl)) d_Result_hide_3 ⟨Nat.le_of_ble_eq_true rfl, Nat.le_of_ble_eq_true rfl⟩) hP hD hS hA [0, 1, 2] [] [0, 1, 2] rfl rfl (by decide) (by decide) (by decide) rfl (fun H locs hP hD hS => ?_)
  refine lv_aload_n hx hb d_Result_hide_6 rfl (lv_at hl 0 rfl) ?_
  refine lv_dup hx hb d_Result_hide_7 rfl ?_
  refine va_get (D := (dC, dI)) (ci := 4) (v := .int v_t_hiddenPlaces) (C := RX4) (T := TX4) (N := 5) hx hb hts (fun w h => List.mem_cons_of_mem _ (tu_4 w h)) hown hK hP 0 rfl rfl 4 (by decide) (hts _ (List.mem_cons_of_mem _ tw_132)) (fun _ h9 => h9) rfl d_Result_hide_8 ?_
  refine lv_iconst (v := 1) hx hb d_Result_hide_11 (by decide) ?_
  refine lv_iadd hx hb d_Result_hide_12 ?_
  refine va_put (D := (dC, dI)) (ci := 4) (v := .int (v_t_hiddenPlaces + (1 : Int32))) (ty := tyX4 4) (C := RX4) (T := TX4) (N := 5) hx hb hts (fun w h => List.mem_cons_of_mem _ (tu_4 w h)) tyX4 tyX4_ok nmX4 hown hK hP hD hS 0 rfl rfl 4 (by decide) (hts _ (List.mem_cons_of_mem _ tw_132)) (fun _ h9 => h9) rfl (tyX4_ok 4 (by decide)) rfl rfl (Nat.le_of_ble_eq_true rfl) d_Result_hide_13 (fun H locs hP hD hS => ?_)
  have hP : va_P (dC, dI) vwCl [(h_t, .inr (4, [.ref h_t_row, .ref h_t_shownDigit, .int v_t_kind, .int r_189.1, .int (v_t_hiddenPlaces + (1 : Int32))])), (h_t_row, .inl (cI, 200, .inl r_189.2.1)), (h_t_shownDigit, .inl (cZ, 200, .inl r_189.2.2))] H := hP
  have hD : va_D A [(h_t, .inr (4, [.ref h_t_row, .ref h_t_shownDigit, .int v_t_kind, .int r_189.1, .int (v_t_hiddenPlaces + (1 : Int32))])), (h_t_row, .inl (cI, 200, .inl r_189.2.1)), (h_t_shownDigit, .inl (cZ, 200, .inl r_189.2.2))] := hD
  have h := Option.some.inj h
  subst h
  exact W.vret hx hb hr (fun t ht hW => ⟨⟨(), rfl, trivial, by rw [ht]; exact hP, va_K.moved hW.alike hK, hD⟩, hS.F ht⟩) hS.2.2 d_Result_hide_16
abbrev rm_Result_replaceLast : Room := { frames := 0, cells := 0, slots := 0, locals := 0 }
set_option maxHeartbeats 4000000 in
set_option maxRecDepth 100000 in
theorem c_Result_replaceLast (l : Launch) (dC : Nat → ClassId) (dI : Nat → Nat → Nat) (cI cZ : ClassId) (z : zT) (h_t h_t_row h_t_shownDigit : Nat) (sz : Nat) (v_t_kind : Int32) (v_t_length : Int32) (v_t_hiddenPlaces : Int32) (v_t_row : Nat → Int32) (p0 : Int32) (r : (Nat → Int32)) (hq : F_Result_replaceLast v_t_length v_t_row p0 = some r) : Met l y_Result_replaceLast ws_Result_replaceLast rm_Result_replaceLast (wP (dC, dI) vwCl [(cI, .int), (cZ, .boolean)] z [.ref h_t, .int p0] [(h_t, .inr (4, [.ref h_t_row, .ref h_t_shownDigit, .int v_t_kind, .int v_t_length, .int v_t_hiddenPlaces])), (h_t_row, .inl (cI, 200, .inl v_t_row))] sz) (wQv (dC, dI) vwCl [(cI, .int), (cZ, .boolean)] [(h_t, .inr (4, [.ref h_t_row, .ref h_t_shownDigit, .int v_t_kind, .int v_t_length, .int v_t_hiddenPlaces])), (h_t_row, .inl (cI, 200, .inl r))] (va_A [(h_t, .inr (4, [.ref h_t_row, .ref h_t_shownDigit, .int v_t_kind, .int v_t_length, .int v_t_hiddenPlaces])), (h_t_row, .inl (cI, 200, .inl v_t_row))] sz)) 0 0 (va_A [(h_t, .inr (4, [.ref h_t_row, .ref h_t_shownDigit, .int v_t_kind, .int v_t_length, .int v_t_hiddenPlaces])), (h_t_row, .inl (cI, 200, .inl v_t_row))] sz) := by
  refine Met.ofW (cc := b_Result_replaceLast) (maxL := 2) (ret := none) (by decide) rfl ?_
  intro p e s m args below meth c s₁ B hml hv
  obtain ⟨rfl, hsz, hP, hK, hD0, hZ⟩ := hv
  have hx := B.exec
  have hb := B.bytes
  have hr := B.returns
  have hts := atoms_spec (ws := ws_Result_replaceLast) B.pre
  have hown : s.vm.findClass RX4 = some m.cls := findClass_of_methodNamed B.named
  have hlocks := B.notSynchronized
  have C : wcx p s m [.ref h_t, .int p0].toArray meth c b_Result_replaceLast none 2 RX4 ws_Result_replaceLast := ⟨hx, hb, hr, hml, hown, hts, hlocks⟩
  subst hsz
  have hD := hD0.self (sz := s.heap.size)
  generalize hAe : va_A [(h_t, .inr (4, [.ref h_t_row, .ref h_t_shownDigit, .int v_t_kind, .int v_t_length, .int v_t_hiddenPlaces])), (h_t_row, .inl (cI, 200, .inl v_t_row))] s.heap.size = A at hD hZ ⊢
  have hA : ∀ q : Nat, s.heap.size ≤ q → A q := fun q h => by rw [← hAe]; exact Or.inr h
  have hS : va_S A s.heap s.heap [] := va_S.rf
  have hP : va_P (dC, dI) vwCl [(h_t, .inr (4, [.ref h_t_row, .ref h_t_shownDigit, .int v_t_kind, .int v_t_length, .int v_t_hiddenPlaces])), (h_t_row, .inl (cI, 200, .inl v_t_row))] s.heap := hP
  have hl := lv_entry [.ref h_t, .int p0] (n := 2) (Nat.le_of_ble_eq_true rfl)
  rw [lg_entry_eq]
  generalize (lg_sl [.ref h_t, .int p0] ++ List.replicate (2 - (lg_sl [.ref h_t, .int p0]).length) Slot.unset).toArray = ls at hl ⊢
  have hl : lv_has ls 2 [(0, .ref h_t), (1, .int p0)] := hl
  refine wentry hP hS hl (fun H locs ls hP hS hl => ?_)
  have h : (if v_t_length ≤ 0 then (some v_t_row) else (if (200 : Int32) < v_t_length then (some v_t_row) else (wgd (v_t_length - (1 : Int32)) 200 (some (upd v_t_row (v_t_length - (1 : Int32)).toNatClampNeg p0))))) = some r := hq
  refine lv_aload_n hx hb d_Result_replaceLast_0 rfl (lv_at hl 0 rfl) ?_
  refine va_get (D := (dC, dI)) (ci := 4) (v := .int v_t_length) (C := RX4) (T := TX4) (N := 5) hx hb hts (fun w h => List.mem_cons_of_mem _ (tu_4 w h)) hown hK hP 0 rfl rfl 3 (by decide) (hts _ (List.mem_cons_of_mem _ tw_130)) (fun _ h9 => h9) rfl d_Result_replaceLast_1 ?_
  refine lv_if_le (tgt := 31) hx hb d_Result_replaceLast_4 (by decide) (fun c_190 => ?_) (fun c_190 => ?_)
  · have h := wif_p c_190 h
    have h := Option.some.inj h
    subst h
    exact W.vret hx hb hr (fun t ht hW => ⟨⟨(), rfl, trivial, by rw [ht]; exact hP, va_K.moved hW.alike hK, hD⟩, hS.F ht⟩) hS.2.2 d_Result_replaceLast_31
  · have h := wif_n c_190 h
    refine lv_aload_n hx hb d_Result_replaceLast_7 rfl (lv_at hl 0 rfl) ?_
    refine va_get (D := (dC, dI)) (ci := 4) (v := .int v_t_length) (C := RX4) (T := TX4) (N := 5) hx hb hts (fun w h => List.mem_cons_of_mem _ (tu_4 w h)) hown hK hP 0 rfl rfl 3 (by decide) (hts _ (List.mem_cons_of_mem _ tw_130)) (fun _ h9 => h9) rfl d_Result_replaceLast_8 ?_
    refine lv_aload_n hx hb d_Result_replaceLast_11 rfl (lv_at hl 0 rfl) ?_
    refine va_get (D := (dC, dI)) (ci := 4) (v := .ref h_t_row) (C := RX4) (T := TX4) (N := 5) hx hb hts (fun w h => List.mem_cons_of_mem _ (tu_4 w h)) hown hK hP 0 rfl rfl 0 (by decide) (hts _ (List.mem_cons_of_mem _ tw_125)) (fun _ h9 => h9) rfl d_Result_replaceLast_12 ?_
    refine va_alen hx hb hK hP 1 0 (v := 200) rfl rfl rfl d_Result_replaceLast_15 ?_
    refine lv_icmp_gt (tgt := 31) hx hb d_Result_replaceLast_16 (by decide) (fun c_191 => ?_) (fun c_191 => ?_)
    · have h := wif_p c_191 h
      have h := Option.some.inj h
      subst h
      exact W.vret hx hb hr (fun t ht hW => ⟨⟨(), rfl, trivial, by rw [ht]; exact hP, va_K.moved hW.alike hK, hD⟩, hS.F ht⟩) hS.2.2 d_Result_replaceLast_31
    · have h := wif_n c_191 h
      refine lv_aload_n hx hb d_Result_replaceLast_19 rfl (lv_at hl 0 rfl) ?_
      refine va_get (D := (dC, dI)) (ci := 4) (v := .ref h_t_row) (C := RX4) (T := TX4) (N := 5) hx hb hts (fun w h => List.mem_cons_of_mem _ (tu_4 w h)) hown hK hP 0 rfl rfl 0 (by decide) (hts _ (List.mem_cons_of_mem _ tw_125)) (fun _ h9 => h9) rfl d_Result_replaceLast_20 ?_
      refine lv_aload_n hx hb d_Result_replaceLast_23 rfl (lv_at hl 0 rfl) ?_
      refine va_get (D := (dC, dI)) (ci := 4) (v := .int v_t_length) (C := RX4) (T := TX4) (N := 5) hx hb hts (fun w h => List.mem_cons_of_mem _ (tu_4 w h)) hown hK hP 0 rfl rfl 3 (by decide) (hts _ (List.mem_cons_of_mem _ tw_130)) (fun _ h9 => h9) rfl d_Result_replaceLast_24 ?_
      refine lv_iconst (v := 1) hx hb d_Result_replaceLast_27 (by decide) ?_
      refine lv_isub hx hb d_Result_replaceLast_28 ?_
      refine lv_iload_n hx hb d_Result_replaceLast_29 rfl (lv_at hl 1 rfl) ?_
      obtain ⟨g_192, h⟩ := wgd_s h
      refine va_iast hx hb hK hP hD hS 1 0 rfl rfl g_192 d_Result_replaceLast_30 (fun H locs hP hD hS => ?_)
      have hP : va_P (dC, dI) vwCl [(h_t, .inr (4, [.ref h_t_row, .ref h_t_shownDigit, .int v_t_kind, .int v_t_length, .int v_t_hiddenPlaces])), (h_t_row, .inl (cI, 200, .inl (upd v_t_row (v_t_length - (1 : Int32)).toNatClampNeg p0)))] H := hP
      have hD : va_D A [(h_t, .inr (4, [.ref h_t_row, .ref h_t_shownDigit, .int v_t_kind, .int v_t_length, .int v_t_hiddenPlaces])), (h_t_row, .inl (cI, 200, .inl (upd v_t_row (v_t_length - (1 : Int32)).toNatClampNeg p0)))] := hD
      have h := Option.some.inj h
      subst h
      exact W.vret hx hb hr (fun t ht hW => ⟨⟨(), rfl, trivial, by rw [ht]; exact hP, va_K.moved hW.alike hK, hD⟩, hS.F ht⟩) hS.2.2 d_Result_replaceLast_31
abbrev rm_Result_character : Room := { frames := 0, cells := 0, slots := 0, locals := 0 }
set_option maxHeartbeats 4000000 in
set_option maxRecDepth 100000 in
theorem c_Result_character (l : Launch) (dC : Nat → ClassId) (dI : Nat → Nat → Nat) (cI cZ : ClassId) (z : zT) (h_t h_t_row h_t_shownDigit : Nat) (sz : Nat) (v_t_kind : Int32) (v_t_length : Int32) (v_t_hiddenPlaces : Int32) (v_t_row : Nat → Int32) (p0 : Int32) (r : Int32) (hq : F_Result_character v_t_length v_t_row p0 = some r) : Met l y_Result_character ws_Result_character rm_Result_character (wP (dC, dI) vwCl [(cI, .int), (cZ, .boolean)] z [.ref h_t, .int p0] [(h_t, .inr (4, [.ref h_t_row, .ref h_t_shownDigit, .int v_t_kind, .int v_t_length, .int v_t_hiddenPlaces])), (h_t_row, .inl (cI, 200, .inl v_t_row))] sz) (wQi (dC, dI) vwCl [(cI, .int), (cZ, .boolean)] [(h_t, .inr (4, [.ref h_t_row, .ref h_t_shownDigit, .int v_t_kind, .int v_t_length, .int v_t_hiddenPlaces])), (h_t_row, .inl (cI, 200, .inl v_t_row))] (va_A [(h_t, .inr (4, [.ref h_t_row, .ref h_t_shownDigit, .int v_t_kind, .int v_t_length, .int v_t_hiddenPlaces])), (h_t_row, .inl (cI, 200, .inl v_t_row))] sz) r) 0 0 (va_A [(h_t, .inr (4, [.ref h_t_row, .ref h_t_shownDigit, .int v_t_kind, .int v_t_length, .int v_t_hiddenPlaces])), (h_t_row, .inl (cI, 200, .inl v_t_row))] sz) := by
  refine Met.ofW (cc := b_Result_character) (maxL := 2) (ret := (some .int)) (by decide) rfl ?_
  intro p e s m args below meth c s₁ B hml hv
  obtain ⟨rfl, hsz, hP, hK, hD0, hZ⟩ := hv
  have hx := B.exec
  have hb := B.bytes
  have hr := B.returns
  have hts := atoms_spec (ws := ws_Result_character) B.pre
  have hown : s.vm.findClass RX4 = some m.cls := findClass_of_methodNamed B.named
  have hlocks := B.notSynchronized
  have C : wcx p s m [.ref h_t, .int p0].toArray meth c b_Result_character (some .int) 2 RX4 ws_Result_character := ⟨hx, hb, hr, hml, hown, hts, hlocks⟩
  subst hsz
  have hD := hD0.self (sz := s.heap.size)
  generalize hAe : va_A [(h_t, .inr (4, [.ref h_t_row, .ref h_t_shownDigit, .int v_t_kind, .int v_t_length, .int v_t_hiddenPlaces])), (h_t_row, .inl (cI, 200, .inl v_t_row))] s.heap.size = A at hD hZ ⊢
  have hA : ∀ q : Nat, s.heap.size ≤ q → A q := fun q h => by rw [← hAe]; exact Or.inr h
  have hS : va_S A s.heap s.heap [] := va_S.rf
  have hP : va_P (dC, dI) vwCl [(h_t, .inr (4, [.ref h_t_row, .ref h_t_shownDigit, .int v_t_kind, .int v_t_length, .int v_t_hiddenPlaces])), (h_t_row, .inl (cI, 200, .inl v_t_row))] s.heap := hP
  have hl := lv_entry [.ref h_t, .int p0] (n := 2) (Nat.le_of_ble_eq_true rfl)
  rw [lg_entry_eq]
  generalize (lg_sl [.ref h_t, .int p0] ++ List.replicate (2 - (lg_sl [.ref h_t, .int p0]).length) Slot.unset).toArray = ls at hl ⊢
  have hl : lv_has ls 2 [(0, .ref h_t), (1, .int p0)] := hl
  refine wentry hP hS hl (fun H locs ls hP hS hl => ?_)
  have h : (if p0 < 0 then (some (-1 : Int32)) else (if v_t_length ≤ p0 then (some (-1 : Int32)) else (if (200 : Int32) ≤ p0 then (some (-1 : Int32)) else (wgd p0 200 (some (v_t_row p0.toNatClampNeg)))))) = some r := hq
  refine lv_iload_n hx hb d_Result_character_0 rfl (lv_at hl 1 rfl) ?_
  refine lv_if_lt (tgt := 30) hx hb d_Result_character_1 (by decide) (fun c_193 => ?_) (fun c_193 => ?_)
  · have h := wif_p c_193 h
    refine lv_iconst (v := -1) hx hb d_Result_character_30 (by decide) ?_
    have h := Option.some.inj h
    subst h
    exact W.iret hx hb hr (fun t ht hW => ⟨⟨_, (), rfl, rfl, by rw [ht]; exact hP, va_K.moved hW.alike hK, hD⟩, hS.F ht⟩) hS.2.2 d_Result_character_31
  · have h := wif_n c_193 h
    refine lv_iload_n hx hb d_Result_character_4 rfl (lv_at hl 1 rfl) ?_
    refine lv_aload_n hx hb d_Result_character_5 rfl (lv_at hl 0 rfl) ?_
    refine va_get (D := (dC, dI)) (ci := 4) (v := .int v_t_length) (C := RX4) (T := TX4) (N := 5) hx hb hts (fun w h => List.mem_cons_of_mem _ (tu_4 w h)) hown hK hP 0 rfl rfl 3 (by decide) (hts _ (List.mem_cons_of_mem _ tw_130)) (fun _ h9 => h9) rfl d_Result_character_6 ?_
    refine lv_icmp_ge (tgt := 30) hx hb d_Result_character_9 (by decide) (fun c_194 => ?_) (fun c_194 => ?_)
    · have h := wif_p c_194 h
      refine lv_iconst (v := -1) hx hb d_Result_character_30 (by decide) ?_
      have h := Option.some.inj h
      subst h
      exact W.iret hx hb hr (fun t ht hW => ⟨⟨_, (), rfl, rfl, by rw [ht]; exact hP, va_K.moved hW.alike hK, hD⟩, hS.F ht⟩) hS.2.2 d_Result_character_31
    · have h := wif_n c_194 h
      refine lv_iload_n hx hb d_Result_character_12 rfl (lv_at hl 1 rfl) ?_
      refine lv_aload_n hx hb d_Result_character_13 rfl (lv_at hl 0 rfl) ?_
      refine va_get (D := (dC, dI)) (ci := 4) (v := .ref h_t_row) (C := RX4) (T := TX4) (N := 5) hx hb hts (fun w h => List.mem_cons_of_mem _ (tu_4 w h)) hown hK hP 0 rfl rfl 0 (by decide) (hts _ (List.mem_cons_of_mem _ tw_125)) (fun _ h9 => h9) rfl d_Result_character_14 ?_
      refine va_alen hx hb hK hP 1 0 (v := 200) rfl rfl rfl d_Result_character_17 ?_
      refine lv_icmp_ge (tgt := 30) hx hb d_Result_character_18 (by decide) (fun c_195 => ?_) (fun c_195 => ?_)
      · have h := wif_p c_195 h
        refine lv_iconst (v := -1) hx hb d_Result_character_30 (by decide) ?_
        have h := Option.some.inj h
        subst h
        exact W.iret hx hb hr (fun t ht hW => ⟨⟨_, (), rfl, rfl, by rw [ht]; exact hP, va_K.moved hW.alike hK, hD⟩, hS.F ht⟩) hS.2.2 d_Result_character_31
      · have h := wif_n c_195 h
        refine lv_aload_n hx hb d_Result_character_21 rfl (lv_at hl 0 rfl) ?_
        refine va_get (D := (dC, dI)) (ci := 4) (v := .ref h_t_row) (C := RX4) (T := TX4) (N := 5) hx hb hts (fun w h => List.mem_cons_of_mem _ (tu_4 w h)) hown hK hP 0 rfl rfl 0 (by decide) (hts _ (List.mem_cons_of_mem _ tw_125)) (fun _ h9 => h9) rfl d_Result_character_22 ?_
        refine lv_iload_n hx hb d_Result_character_25 rfl (lv_at hl 1 rfl) ?_
        obtain ⟨g_196, h⟩ := wgd_s h
        refine va_iald hx hb hK hP 1 0 rfl rfl g_196 d_Result_character_26 ?_
        refine lv_goto (tgt := 31) hx hb d_Result_character_27 (by decide) ?_
        have h := Option.some.inj h
        subst h
        exact W.iret hx hb hr (fun t ht hW => ⟨⟨_, (), rfl, rfl, by rw [ht]; exact hP, va_K.moved hW.alike hK, hD⟩, hS.F ht⟩) hS.2.2 d_Result_character_31
abbrev rm_Result_wholeNumber : Room := { frames := 0, cells := 0, slots := 0, locals := 0 }
def GB_Result_wholeNumber_105 (p : Program) (l : Launch) (e : Env) (s : State) (m : MethodId) (args : Array Value) (below : List Frame) (meth : Method) (c : Code) (dC : Nat → ClassId) (dI : Nat → Nat → Nat) (cI cZ : ClassId) (z : zT) (A : Nat → Prop) (h_t h_t_row h_t_shownDigit : Nat) (v_t_kind : Int32) (v_t_length : Int32) (v_t_hiddenPlaces : Int32) (v_t_row : Nat → Int32) (v_t_shownDigit : Nat → Int32) (r : Int64) (f : Int64 → Int32 → Option (Int64)) : Prop := ∀ (x1 : Int64) (x3 : Int32) (H : Heap) (locs : List Loc) (ls : Array Slot), f x1 x3 = some r → va_P (dC, dI) vwCl [(h_t, .inr (4, [.ref h_t_row, .ref h_t_shownDigit, .int v_t_kind, .int v_t_length, .int v_t_hiddenPlaces])), (h_t_row, .inl (cI, 200, .inl v_t_row)), (h_t_shownDigit, .inl (cZ, 200, .inl v_t_shownDigit))] H → va_D A [(h_t, .inr (4, [.ref h_t_row, .ref h_t_shownDigit, .int v_t_kind, .int v_t_length, .int v_t_hiddenPlaces])), (h_t_row, .inl (cI, 200, .inl v_t_row)), (h_t_shownDigit, .inl (cZ, 200, .inl v_t_shownDigit))] → va_S A s.heap H locs → lv_has ls 6 [(1, .long x1), (3, .int x3)] → W p l e rm_Result_wholeNumber s m args below meth c H locs 0 0 (MQ below (wQl (dC, dI) vwCl [(cI, .int), (cZ, .boolean)] [(h_t, .inr (4, [.ref h_t_row, .ref h_t_shownDigit, .int v_t_kind, .int v_t_length, .int v_t_hiddenPlaces])), (h_t_row, .inl (cI, 200, .inl v_t_row)), (h_t_shownDigit, .inl (cZ, 200, .inl v_t_shownDigit))] A r) args s 0 0 A) (F0 m 105 ls [])
def GB_Result_wholeNumber_68 (p : Program) (l : Launch) (e : Env) (s : State) (m : MethodId) (args : Array Value) (below : List Frame) (meth : Method) (c : Code) (dC : Nat → ClassId) (dI : Nat → Nat → Nat) (cI cZ : ClassId) (z : zT) (A : Nat → Prop) (h_t h_t_row h_t_shownDigit : Nat) (v_t_kind : Int32) (v_t_length : Int32) (v_t_hiddenPlaces : Int32) (v_t_row : Nat → Int32) (v_t_shownDigit : Nat → Int32) (r : Int64) (f : Int64 → Int32 → Int32 → Int32 → Option (Int64)) : Prop := ∀ (x1 : Int64) (x3 : Int32) (x4 : Int32) (x5 : Int32) (H : Heap) (locs : List Loc) (ls : Array Slot), f x1 x3 x4 x5 = some r → va_P (dC, dI) vwCl [(h_t, .inr (4, [.ref h_t_row, .ref h_t_shownDigit, .int v_t_kind, .int v_t_length, .int v_t_hiddenPlaces])), (h_t_row, .inl (cI, 200, .inl v_t_row)), (h_t_shownDigit, .inl (cZ, 200, .inl v_t_shownDigit))] H → va_D A [(h_t, .inr (4, [.ref h_t_row, .ref h_t_shownDigit, .int v_t_kind, .int v_t_length, .int v_t_hiddenPlaces])), (h_t_row, .inl (cI, 200, .inl v_t_row)), (h_t_shownDigit, .inl (cZ, 200, .inl v_t_shownDigit))] → va_S A s.heap H locs → lv_has ls 6 [(0, .ref h_t), (1, .long x1), (3, .int x3), (4, .int x4), (5, .int x5)] → W p l e rm_Result_wholeNumber s m args below meth c H locs 0 0 (MQ below (wQl (dC, dI) vwCl [(cI, .int), (cZ, .boolean)] [(h_t, .inr (4, [.ref h_t_row, .ref h_t_shownDigit, .int v_t_kind, .int v_t_length, .int v_t_hiddenPlaces])), (h_t_row, .inl (cI, 200, .inl v_t_row)), (h_t_shownDigit, .inl (cZ, 200, .inl v_t_shownDigit))] A r) args s 0 0 A) (F0 m 68 ls [])
def GB_Result_wholeNumber_7 (p : Program) (l : Launch) (e : Env) (s : State) (m : MethodId) (args : Array Value) (below : List Frame) (meth : Method) (c : Code) (dC : Nat → ClassId) (dI : Nat → Nat → Nat) (cI cZ : ClassId) (z : zT) (A : Nat → Prop) (h_t h_t_row h_t_shownDigit : Nat) (v_t_kind : Int32) (v_t_length : Int32) (v_t_hiddenPlaces : Int32) (v_t_row : Nat → Int32) (v_t_shownDigit : Nat → Int32) (r : Int64) (f : Int64 → Int32 → Int32 → Option (Int64)) : Prop := ∀ (x1 : Int64) (x3 : Int32) (x4 : Int32) (H : Heap) (locs : List Loc) (ls : Array Slot), f x1 x3 x4 = some r → va_P (dC, dI) vwCl [(h_t, .inr (4, [.ref h_t_row, .ref h_t_shownDigit, .int v_t_kind, .int v_t_length, .int v_t_hiddenPlaces])), (h_t_row, .inl (cI, 200, .inl v_t_row)), (h_t_shownDigit, .inl (cZ, 200, .inl v_t_shownDigit))] H → va_D A [(h_t, .inr (4, [.ref h_t_row, .ref h_t_shownDigit, .int v_t_kind, .int v_t_length, .int v_t_hiddenPlaces])), (h_t_row, .inl (cI, 200, .inl v_t_row)), (h_t_shownDigit, .inl (cZ, 200, .inl v_t_shownDigit))] → va_S A s.heap H locs → lv_has ls 6 [(0, .ref h_t), (1, .long x1), (3, .int x3), (4, .int x4)] → W p l e rm_Result_wholeNumber s m args below meth c H locs 0 0 (MQ below (wQl (dC, dI) vwCl [(cI, .int), (cZ, .boolean)] [(h_t, .inr (4, [.ref h_t_row, .ref h_t_shownDigit, .int v_t_kind, .int v_t_length, .int v_t_hiddenPlaces])), (h_t_row, .inl (cI, 200, .inl v_t_row)), (h_t_shownDigit, .inl (cZ, 200, .inl v_t_shownDigit))] A r) args s 0 0 A) (F0 m 7 ls [])
set_option maxHeartbeats 4000000 in
set_option maxRecDepth 100000 in
theorem kB_Result_wholeNumber_105 {p : Program} {l : Launch} {e : Env} {s : State} {m : MethodId} {args : Array Value} {below : List Frame} {meth : Method} {c : Code} {dC : Nat → ClassId} {dI : Nat → Nat → Nat} {cI cZ : ClassId} {z : zT} {A : Nat → Prop} {h_t h_t_row h_t_shownDigit : Nat} {v_t_kind : Int32} {v_t_length : Int32} {v_t_hiddenPlaces : Int32} {v_t_row : Nat → Int32} {v_t_shownDigit : Nat → Int32} {r : Int64} (C : wcx p s m args meth c b_Result_wholeNumber (some .long) 6 RX4 ws_Result_wholeNumber) (hA : ∀ q : Nat, s.heap.size ≤ q → A q) (hK : va_K (dC, dI) vwCl [(cI, .int), (cZ, .boolean)] s) (hZ : zz z A s s.heap) : GB_Result_wholeNumber_105 p l e s m args below meth c dC dI cI cZ z A h_t h_t_row h_t_shownDigit v_t_kind v_t_length v_t_hiddenPlaces v_t_row v_t_shownDigit r (B_Result_wholeNumber_105 v_t_length v_t_row v_t_shownDigit) := by
  obtain ⟨hx, hb, hr, hml, hown, hts, hlocks⟩ := id C
  intro x1 x3 H locs ls h hP hD hS hl
  have h : (if x3 = 0 then (some x1) else (some (-x1))) = some r := h
  refine lv_iload_n hx hb d_Result_wholeNumber_105 rfl (lv_at hl 1 rfl) ?_
  refine lv_if_eq (tgt := 114) hx hb d_Result_wholeNumber_106 (by decide) (fun c_197 => ?_) (fun c_197 => ?_)
  · have h := wif_p c_197 h
    refine lv_lload_n hx hb d_Result_wholeNumber_114 rfl (lv_at hl 0 rfl) ?_
    have h := Option.some.inj h
    subst h
    exact W.lret hx hb hr (fun t ht hW => ⟨⟨_, (), rfl, rfl, by rw [ht]; exact hP, va_K.moved hW.alike hK, hD⟩, hS.F ht⟩) hS.2.2 d_Result_wholeNumber_115
  · have h := wif_n c_197 h
    refine lv_lload_n hx hb d_Result_wholeNumber_109 rfl (lv_at hl 0 rfl) ?_
    refine lv_lneg hx hb d_Result_wholeNumber_110 ?_
    refine lv_goto (tgt := 115) hx hb d_Result_wholeNumber_111 (by decide) ?_
    have h := Option.some.inj h
    subst h
    exact W.lret hx hb hr (fun t ht hW => ⟨⟨_, (), rfl, rfl, by rw [ht]; exact hP, va_K.moved hW.alike hK, hD⟩, hS.F ht⟩) hS.2.2 d_Result_wholeNumber_115
set_option maxHeartbeats 4000000 in
set_option maxRecDepth 100000 in
theorem kB_Result_wholeNumber_68 {p : Program} {l : Launch} {e : Env} {s : State} {m : MethodId} {args : Array Value} {below : List Frame} {meth : Method} {c : Code} {dC : Nat → ClassId} {dI : Nat → Nat → Nat} {cI cZ : ClassId} {z : zT} {A : Nat → Prop} {h_t h_t_row h_t_shownDigit : Nat} {v_t_kind : Int32} {v_t_length : Int32} {v_t_hiddenPlaces : Int32} {v_t_row : Nat → Int32} {v_t_shownDigit : Nat → Int32} {r : Int64} (C : wcx p s m args meth c b_Result_wholeNumber (some .long) 6 RX4 ws_Result_wholeNumber) (hA : ∀ q : Nat, s.heap.size ≤ q → A q) (hK : va_K (dC, dI) vwCl [(cI, .int), (cZ, .boolean)] s) (hZ : zz z A s s.heap) (k_7 : Int64 → Int32 → Int32 → Option (Int64)) (hk_7 : GB_Result_wholeNumber_7 p l e s m args below meth c dC dI cI cZ z A h_t h_t_row h_t_shownDigit v_t_kind v_t_length v_t_hiddenPlaces v_t_row v_t_shownDigit r k_7) : GB_Result_wholeNumber_68 p l e s m args below meth c dC dI cI cZ z A h_t h_t_row h_t_shownDigit v_t_kind v_t_length v_t_hiddenPlaces v_t_row v_t_shownDigit r (B_Result_wholeNumber_68 v_t_length v_t_row v_t_shownDigit k_7) := by
  obtain ⟨hx, hb, hr, hml, hown, hts, hlocks⟩ := id C
  intro x1 x3 x4 x5 H locs ls h hP hD hS hl
  have h : (if x3 = 0 then (if x5 = (45 : Int32) then k_7 x1 (1 : Int32) (x4 + (1 : Int32)) else (if x5 = (67 : Int32) then k_7 x1 (1 : Int32) (x4 + (1 : Int32)) else (if x5 = (68 : Int32) then k_7 x1 (1 : Int32) (x4 + (1 : Int32)) else k_7 x1 (0 : Int32) (x4 + (1 : Int32))))) else k_7 x1 (1 : Int32) (x4 + (1 : Int32))) = some r := h
  refine lv_iload_n hx hb d_Result_wholeNumber_68 rfl (lv_at hl 2 rfl) ?_
  refine lv_if_ne (tgt := 93) hx hb d_Result_wholeNumber_69 (by decide) (fun c_198 => ?_) (fun c_198 => ?_)
  · have h := wif_n c_198 h
    refine lv_iconst (v := 1) hx hb d_Result_wholeNumber_93 (by decide) ?_
    refine lv_goto (tgt := 98) hx hb d_Result_wholeNumber_94 (by decide) ?_
    refine lv_istore_n (lv' := [(3, .int (1 : Int32)), (0, .ref h_t), (1, .long x1), (4, .int x4), (5, .int x5)]) hx hb d_Result_wholeNumber_98 rfl hl (by decide) rfl (fun ls hl => ?_)
    refine lv_iinc (v := (x4 + (1 : Int32))) (lv' := [(4, .int (x4 + (1 : Int32))), (3, .int (1 : Int32)), (0, .ref h_t), (1, .long x1), (5, .int x5)]) hx hb d_Result_wholeNumber_99 hl (k := 3) rfl rfl (by decide) rfl (fun ls hl => ?_)
    refine lv_goto (tgt := 7) hx hb d_Result_wholeNumber_102 (by decide) ?_
    exact hk_7 x1 (1 : Int32) (x4 + (1 : Int32)) _ _ _ h hP hD hS (lv_sub hl [2, 3, 1, 0] rfl)
  · have h := wif_p c_198 h
    refine lv_iload hx hb d_Result_wholeNumber_72 (lv_at hl 4 rfl) ?_
    refine lv_bipush (v := 45) hx hb d_Result_wholeNumber_74 (by decide) ?_
    refine lv_icmp_eq (tgt := 93) hx hb d_Result_wholeNumber_76 (by decide) (fun c_199 => ?_) (fun c_199 => ?_)
    · have h := wif_p c_199 h
      refine lv_iconst (v := 1) hx hb d_Result_wholeNumber_93 (by decide) ?_
      refine lv_goto (tgt := 98) hx hb d_Result_wholeNumber_94 (by decide) ?_
      refine lv_istore_n (lv' := [(3, .int (1 : Int32)), (0, .ref h_t), (1, .long x1), (4, .int x4), (5, .int x5)]) hx hb d_Result_wholeNumber_98 rfl hl (by decide) rfl (fun ls hl => ?_)
      refine lv_iinc (v := (x4 + (1 : Int32))) (lv' := [(4, .int (x4 + (1 : Int32))), (3, .int (1 : Int32)), (0, .ref h_t), (1, .long x1), (5, .int x5)]) hx hb d_Result_wholeNumber_99 hl (k := 3) rfl rfl (by decide) rfl (fun ls hl => ?_)
      refine lv_goto (tgt := 7) hx hb d_Result_wholeNumber_102 (by decide) ?_
      exact hk_7 x1 (1 : Int32) (x4 + (1 : Int32)) _ _ _ h hP hD hS (lv_sub hl [2, 3, 1, 0] rfl)
    · have h := wif_n c_199 h
      refine lv_iload hx hb d_Result_wholeNumber_79 (lv_at hl 4 rfl) ?_
      refine lv_bipush (v := 67) hx hb d_Result_wholeNumber_81 (by decide) ?_
      refine lv_icmp_eq (tgt := 93) hx hb d_Result_wholeNumber_83 (by decide) (fun c_200 => ?_) (fun c_200 => ?_)
      · have h := wif_p c_200 h
        refine lv_iconst (v := 1) hx hb d_Result_wholeNumber_93 (by decide) ?_
        refine lv_goto (tgt := 98) hx hb d_Result_wholeNumber_94 (by decide) ?_
        refine lv_istore_n (lv' := [(3, .int (1 : Int32)), (0, .ref h_t), (1, .long x1), (4, .int x4), (5, .int x5)]) hx hb d_Result_wholeNumber_98 rfl hl (by decide) rfl (fun ls hl => ?_)
        refine lv_iinc (v := (x4 + (1 : Int32))) (lv' := [(4, .int (x4 + (1 : Int32))), (3, .int (1 : Int32)), (0, .ref h_t), (1, .long x1), (5, .int x5)]) hx hb d_Result_wholeNumber_99 hl (k := 3) rfl rfl (by decide) rfl (fun ls hl => ?_)
        refine lv_goto (tgt := 7) hx hb d_Result_wholeNumber_102 (by decide) ?_
        exact hk_7 x1 (1 : Int32) (x4 + (1 : Int32)) _ _ _ h hP hD hS (lv_sub hl [2, 3, 1, 0] rfl)
      · have h := wif_n c_200 h
        refine lv_iload hx hb d_Result_wholeNumber_86 (lv_at hl 4 rfl) ?_
        refine lv_bipush (v := 68) hx hb d_Result_wholeNumber_88 (by decide) ?_
        refine lv_icmp_ne (tgt := 97) hx hb d_Result_wholeNumber_90 (by decide) (fun c_201 => ?_) (fun c_201 => ?_)
        · have h := wif_n c_201 h
          refine lv_iconst (v := 0) hx hb d_Result_wholeNumber_97 (by decide) ?_
          refine lv_istore_n (lv' := [(3, .int (0 : Int32)), (0, .ref h_t), (1, .long x1), (4, .int x4), (5, .int x5)]) hx hb d_Result_wholeNumber_98 rfl hl (by decide) rfl (fun ls hl => ?_)
          refine lv_iinc (v := (x4 + (1 : Int32))) (lv' := [(4, .int (x4 + (1 : Int32))), (3, .int (0 : Int32)), (0, .ref h_t), (1, .long x1), (5, .int x5)]) hx hb d_Result_wholeNumber_99 hl (k := 3) rfl rfl (by decide) rfl (fun ls hl => ?_)
          refine lv_goto (tgt := 7) hx hb d_Result_wholeNumber_102 (by decide) ?_
          exact hk_7 x1 (0 : Int32) (x4 + (1 : Int32)) _ _ _ h hP hD hS (lv_sub hl [2, 3, 1, 0] rfl)
        · have h := wif_p c_201 h
          refine lv_iconst (v := 1) hx hb d_Result_wholeNumber_93 (by decide) ?_
          refine lv_goto (tgt := 98) hx hb d_Result_wholeNumber_94 (by decide) ?_
          refine lv_istore_n (lv' := [(3, .int (1 : Int32)), (0, .ref h_t), (1, .long x1), (4, .int x4), (5, .int x5)]) hx hb d_Result_wholeNumber_98 rfl hl (by decide) rfl (fun ls hl => ?_)
          refine lv_iinc (v := (x4 + (1 : Int32))) (lv' := [(4, .int (x4 + (1 : Int32))), (3, .int (1 : Int32)), (0, .ref h_t), (1, .long x1), (5, .int x5)]) hx hb d_Result_wholeNumber_99 hl (k := 3) rfl rfl (by decide) rfl (fun ls hl => ?_)
          refine lv_goto (tgt := 7) hx hb d_Result_wholeNumber_102 (by decide) ?_
          exact hk_7 x1 (1 : Int32) (x4 + (1 : Int32)) _ _ _ h hP hD hS (lv_sub hl [2, 3, 1, 0] rfl)
set_option maxHeartbeats 4000000 in
set_option maxRecDepth 100000 in
theorem kB_Result_wholeNumber_7 {p : Program} {l : Launch} {e : Env} {s : State} {m : MethodId} {args : Array Value} {below : List Frame} {meth : Method} {c : Code} {dC : Nat → ClassId} {dI : Nat → Nat → Nat} {cI cZ : ClassId} {z : zT} {A : Nat → Prop} {h_t h_t_row h_t_shownDigit : Nat} {v_t_kind : Int32} {v_t_length : Int32} {v_t_hiddenPlaces : Int32} {v_t_row : Nat → Int32} {v_t_shownDigit : Nat → Int32} {r : Int64} (C : wcx p s m args meth c b_Result_wholeNumber (some .long) 6 RX4 ws_Result_wholeNumber) (hA : ∀ q : Nat, s.heap.size ≤ q → A q) (hK : va_K (dC, dI) vwCl [(cI, .int), (cZ, .boolean)] s) (hZ : zz z A s s.heap) (n : Nat) : GB_Result_wholeNumber_7 p l e s m args below meth c dC dI cI cZ z A h_t h_t_row h_t_shownDigit v_t_kind v_t_length v_t_hiddenPlaces v_t_row v_t_shownDigit r (B_Result_wholeNumber_7 v_t_length v_t_row v_t_shownDigit n) := by
  obtain ⟨hx, hb, hr, hml, hown, hts, hlocks⟩ := id C
  induction n with
  | zero =>
    intro x1 x3 x4 H locs ls h
    exact absurd h (fun z => by cases z)
  | succ n ih =>
    intro x1 x3 x4 H locs ls h hP hD hS hl
    have h : (if v_t_length ≤ x4 then (B_Result_wholeNumber_105 v_t_length v_t_row v_t_shownDigit) x1 x3 else (if (200 : Int32) ≤ x4 then (B_Result_wholeNumber_105 v_t_length v_t_row v_t_shownDigit) x1 x3 else (if (200 : Int32) ≤ x4 then (B_Result_wholeNumber_105 v_t_length v_t_row v_t_shownDigit) x1 x3 else (wgd x4 200 (wgd x4 200 (if (v_t_shownDigit x4.toNatClampNeg) = 0 then (B_Result_wholeNumber_68 v_t_length v_t_row v_t_shownDigit (B_Result_wholeNumber_7 v_t_length v_t_row v_t_shownDigit n)) x1 x3 x4 (v_t_row x4.toNatClampNeg) else (B_Result_wholeNumber_68 v_t_length v_t_row v_t_shownDigit (B_Result_wholeNumber_7 v_t_length v_t_row v_t_shownDigit n)) ((x1 * (10 : Int64)) + (((v_t_row x4.toNatClampNeg) - (48 : Int32)).toInt64)) x3 x4 (v_t_row x4.toNatClampNeg))))))) = some r := h
    refine lv_iload hx hb d_Result_wholeNumber_7 (lv_at hl 3 rfl) ?_
    refine lv_aload_n hx hb d_Result_wholeNumber_9 rfl (lv_at hl 0 rfl) ?_
    refine va_get (D := (dC, dI)) (ci := 4) (v := .int v_t_length) (C := RX4) (T := TX4) (N := 5) hx hb hts (fun w h => List.mem_cons_of_mem _ (tu_4 w h)) hown hK hP 0 rfl rfl 3 (by decide) (hts _ (List.mem_cons_of_mem _ tw_130)) (fun _ h9 => h9) rfl d_Result_wholeNumber_10 ?_
    refine lv_icmp_ge (tgt := 105) hx hb d_Result_wholeNumber_13 (by decide) (fun c_202 => ?_) (fun c_202 => ?_)
    · have h := wif_p c_202 h
      exact (kB_Result_wholeNumber_105 C hA hK hZ) x1 x3 _ _ _ h hP hD hS (lv_sub hl [1, 2] rfl)
    · have h := wif_n c_202 h
      refine lv_iload hx hb d_Result_wholeNumber_16 (lv_at hl 3 rfl) ?_
      refine lv_aload_n hx hb d_Result_wholeNumber_18 rfl (lv_at hl 0 rfl) ?_
      refine va_get (D := (dC, dI)) (ci := 4) (v := .ref h_t_row) (C := RX4) (T := TX4) (N := 5) hx hb hts (fun w h => List.mem_cons_of_mem _ (tu_4 w h)) hown hK hP 0 rfl rfl 0 (by decide) (hts _ (List.mem_cons_of_mem _ tw_125)) (fun _ h9 => h9) rfl d_Result_wholeNumber_19 ?_
      refine va_alen hx hb hK hP 1 0 (v := 200) rfl rfl rfl d_Result_wholeNumber_22 ?_
      refine lv_icmp_ge (tgt := 105) hx hb d_Result_wholeNumber_23 (by decide) (fun c_203 => ?_) (fun c_203 => ?_)
      · have h := wif_p c_203 h
        exact (kB_Result_wholeNumber_105 C hA hK hZ) x1 x3 _ _ _ h hP hD hS (lv_sub hl [1, 2] rfl)
      · have h := wif_n c_203 h
        refine lv_iload hx hb d_Result_wholeNumber_26 (lv_at hl 3 rfl) ?_
        refine lv_aload_n hx hb d_Result_wholeNumber_28 rfl (lv_at hl 0 rfl) ?_
        refine va_get (D := (dC, dI)) (ci := 4) (v := .ref h_t_shownDigit) (C := RX4) (T := TX4) (N := 5) hx hb hts (fun w h => List.mem_cons_of_mem _ (tu_4 w h)) hown hK hP 0 rfl rfl 1 (by decide) (hts _ (List.mem_cons_of_mem _ tw_126)) (fun _ h9 => h9) rfl d_Result_wholeNumber_29 ?_
        refine va_alen hx hb hK hP 2 1 (v := 200) rfl rfl rfl d_Result_wholeNumber_32 ?_
        refine lv_icmp_ge (tgt := 105) hx hb d_Result_wholeNumber_33 (by decide) (fun c_204 => ?_) (fun c_204 => ?_)
        · have h := wif_p c_204 h
          exact (kB_Result_wholeNumber_105 C hA hK hZ) x1 x3 _ _ _ h hP hD hS (lv_sub hl [1, 2] rfl)
        · have h := wif_n c_204 h
          refine lv_aload_n hx hb d_Result_wholeNumber_36 rfl (lv_at hl 0 rfl) ?_
          refine va_get (D := (dC, dI)) (ci := 4) (v := .ref h_t_row) (C := RX4) (T := TX4) (N := 5) hx hb hts (fun w h => List.mem_cons_of_mem _ (tu_4 w h)) hown hK hP 0 rfl rfl 0 (by decide) (hts _ (List.mem_cons_of_mem _ tw_125)) (fun _ h9 => h9) rfl d_Result_wholeNumber_37 ?_
          refine lv_iload hx hb d_Result_wholeNumber_40 (lv_at hl 3 rfl) ?_
          obtain ⟨g_205, h⟩ := wgd_s h
          refine va_iald hx hb hK hP 1 0 rfl rfl g_205 d_Result_wholeNumber_42 ?_
          refine lv_istore (lv' := [(5, .int (v_t_row x4.toNatClampNeg)), (0, .ref h_t), (1, .long x1), (3, .int x3), (4, .int x4)]) hx hb d_Result_wholeNumber_43 hl (by decide) rfl (fun ls hl => ?_)
          refine lv_aload_n hx hb d_Result_wholeNumber_45 rfl (lv_at hl 1 rfl) ?_
          refine va_get (D := (dC, dI)) (ci := 4) (v := .ref h_t_shownDigit) (C := RX4) (T := TX4) (N := 5) hx hb hts (fun w h => List.mem_cons_of_mem _ (tu_4 w h)) hown hK hP 0 rfl rfl 1 (by decide) (hts _ (List.mem_cons_of_mem _ tw_126)) (fun _ h9 => h9) rfl d_Result_wholeNumber_46 ?_
          refine lv_iload hx hb d_Result_wholeNumber_49 (lv_at hl 4 rfl) ?_
          obtain ⟨g_206, h⟩ := wgd_s h
          refine va_zald hx hb hK hP 2 1 rfl rfl g_206 d_Result_wholeNumber_51 ?_
          refine lv_if_eq (tgt := 68) hx hb d_Result_wholeNumber_52 (by decide) (fun c_207 => ?_) (fun c_207 => ?_)
          · have h := wif_p c_207 h
            exact (kB_Result_wholeNumber_68 C hA hK hZ (B_Result_wholeNumber_7 v_t_length v_t_row v_t_shownDigit n) ih) x1 x3 x4 (v_t_row x4.toNatClampNeg) _ _ _ h hP hD hS (lv_sub hl [1, 2, 3, 4, 0] rfl)
          · have h := wif_n c_207 h
            refine lv_lload_n hx hb d_Result_wholeNumber_55 rfl (lv_at hl 2 rfl) ?_
            refine lv_ldc2 (v := 10) hx hb hown (hts _ (List.mem_cons_of_mem _ tw_496)) d_Result_wholeNumber_56 ?_
            refine lv_lmul hx hb d_Result_wholeNumber_59 ?_
            refine lv_iload hx hb d_Result_wholeNumber_60 (lv_at hl 0 rfl) ?_
            refine lv_bipush (v := 48) hx hb d_Result_wholeNumber_62 (by decide) ?_
            refine lv_isub hx hb d_Result_wholeNumber_64 ?_
            refine lv_i2l hx hb d_Result_wholeNumber_65 rfl ?_
            refine lv_ladd hx hb d_Result_wholeNumber_66 ?_
            refine lv_lstore_n (lv' := [(1, .long ((x1 * (10 : Int64)) + (((v_t_row x4.toNatClampNeg) - (48 : Int32)).toInt64))), (5, .int (v_t_row x4.toNatClampNeg)), (0, .ref h_t), (3, .int x3), (4, .int x4)]) hx hb d_Result_wholeNumber_67 rfl hl (by decide) rfl (fun ls hl => ?_)
            exact (kB_Result_wholeNumber_68 C hA hK hZ (B_Result_wholeNumber_7 v_t_length v_t_row v_t_shownDigit n) ih) ((x1 * (10 : Int64)) + (((v_t_row x4.toNatClampNeg) - (48 : Int32)).toInt64)) x3 x4 (v_t_row x4.toNatClampNeg) _ _ _ h hP hD hS (lv_sub hl [2, 0, 3, 4, 1] rfl)
set_option maxHeartbeats 4000000 in
set_option maxRecDepth 100000 in
theorem c_Result_wholeNumber (l : Launch) (dC : Nat → ClassId) (dI : Nat → Nat → Nat) (cI cZ : ClassId) (z : zT) (h_t h_t_row h_t_shownDigit : Nat) (sz : Nat) (v_t_kind : Int32) (v_t_length : Int32) (v_t_hiddenPlaces : Int32) (v_t_row : Nat → Int32) (v_t_shownDigit : Nat → Int32) (r : Int64) (hq : F_Result_wholeNumber v_t_length v_t_row v_t_shownDigit = some r) : Met l y_Result_wholeNumber ws_Result_wholeNumber rm_Result_wholeNumber (wP (dC, dI) vwCl [(cI, .int), (cZ, .boolean)] z [.ref h_t] [(h_t, .inr (4, [.ref h_t_row, .ref h_t_shownDigit, .int v_t_kind, .int v_t_length, .int v_t_hiddenPlaces])), (h_t_row, .inl (cI, 200, .inl v_t_row)), (h_t_shownDigit, .inl (cZ, 200, .inl v_t_shownDigit))] sz) (wQl (dC, dI) vwCl [(cI, .int), (cZ, .boolean)] [(h_t, .inr (4, [.ref h_t_row, .ref h_t_shownDigit, .int v_t_kind, .int v_t_length, .int v_t_hiddenPlaces])), (h_t_row, .inl (cI, 200, .inl v_t_row)), (h_t_shownDigit, .inl (cZ, 200, .inl v_t_shownDigit))] (va_A [(h_t, .inr (4, [.ref h_t_row, .ref h_t_shownDigit, .int v_t_kind, .int v_t_length, .int v_t_hiddenPlaces])), (h_t_row, .inl (cI, 200, .inl v_t_row)), (h_t_shownDigit, .inl (cZ, 200, .inl v_t_shownDigit))] sz) r) 0 0 (va_A [(h_t, .inr (4, [.ref h_t_row, .ref h_t_shownDigit, .int v_t_kind, .int v_t_length, .int v_t_hiddenPlaces])), (h_t_row, .inl (cI, 200, .inl v_t_row)), (h_t_shownDigit, .inl (cZ, 200, .inl v_t_shownDigit))] sz) := by
  refine Met.ofW (cc := b_Result_wholeNumber) (maxL := 6) (ret := (some .long)) (by decide) rfl ?_
  intro p e s m args below meth c s₁ B hml hv
  obtain ⟨rfl, hsz, hP, hK, hD0, hZ⟩ := hv
  have hx := B.exec
  have hb := B.bytes
  have hr := B.returns
  have hts := atoms_spec (ws := ws_Result_wholeNumber) B.pre
  have hown : s.vm.findClass RX4 = some m.cls := findClass_of_methodNamed B.named
  have hlocks := B.notSynchronized
  have C : wcx p s m [.ref h_t].toArray meth c b_Result_wholeNumber (some .long) 6 RX4 ws_Result_wholeNumber := ⟨hx, hb, hr, hml, hown, hts, hlocks⟩
  subst hsz
  have hD := hD0.self (sz := s.heap.size)
  generalize hAe : va_A [(h_t, .inr (4, [.ref h_t_row, .ref h_t_shownDigit, .int v_t_kind, .int v_t_length, .int v_t_hiddenPlaces])), (h_t_row, .inl (cI, 200, .inl v_t_row)), (h_t_shownDigit, .inl (cZ, 200, .inl v_t_shownDigit))] s.heap.size = A at hD hZ ⊢
  have hA : ∀ q : Nat, s.heap.size ≤ q → A q := fun q h => by rw [← hAe]; exact Or.inr h
  have hS : va_S A s.heap s.heap [] := va_S.rf
  have hP : va_P (dC, dI) vwCl [(h_t, .inr (4, [.ref h_t_row, .ref h_t_shownDigit, .int v_t_kind, .int v_t_length, .int v_t_hiddenPlaces])), (h_t_row, .inl (cI, 200, .inl v_t_row)), (h_t_shownDigit, .inl (cZ, 200, .inl v_t_shownDigit))] s.heap := hP
  have hl := lv_entry [.ref h_t] (n := 6) (Nat.le_of_ble_eq_true rfl)
  rw [lg_entry_eq]
  generalize (lg_sl [.ref h_t] ++ List.replicate (6 - (lg_sl [.ref h_t]).length) Slot.unset).toArray = ls at hl ⊢
  have hl : lv_has ls 6 [(0, .ref h_t)] := hl
  refine wentry hP hS hl (fun H locs ls hP hS hl => ?_)
  have h : (B_Result_wholeNumber_7 v_t_length v_t_row v_t_shownDigit fu) (0 : Int64) (0 : Int32) (0 : Int32) = some r := hq
  refine lv_lconst (v := 0) hx hb d_Result_wholeNumber_0 (by decide) ?_
  refine lv_lstore_n (lv' := [(1, .long (0 : Int64)), (0, .ref h_t)]) hx hb d_Result_wholeNumber_1 rfl hl (by decide) rfl (fun ls hl => ?_)
  refine lv_iconst (v := 0) hx hb d_Result_wholeNumber_2 (by decide) ?_
  refine lv_istore_n (lv' := [(3, .int (0 : Int32)), (1, .long (0 : Int64)), (0, .ref h_t)]) hx hb d_Result_wholeNumber_3 rfl hl (by decide) rfl (fun ls hl => ?_)
  refine lv_iconst (v := 0) hx hb d_Result_wholeNumber_4 (by decide) ?_
  refine lv_istore (lv' := [(4, .int (0 : Int32)), (3, .int (0 : Int32)), (1, .long (0 : Int64)), (0, .ref h_t)]) hx hb d_Result_wholeNumber_5 hl (by decide) rfl (fun ls hl => ?_)
  exact (kB_Result_wholeNumber_7 C hA hK hZ fu) (0 : Int64) (0 : Int32) (0 : Int32) _ _ _ h hP hD hS (lv_sub hl [3, 2, 1, 0] rfl)
