/-! THE LAW'S LOOP, PURE, ON A SCRIPT OF AT MOST FOUR INTS: one call on a new object. -/
theorem p1_close {P : Prop} [Decidable P] {a b : Option Int32} (h : P) (ha : a = some 1) : (if P then a else b) = some 1 := by
  rw [if_pos h]
  exact ha
theorem p1_end {xs : Nat → Int32} {n : Nat} {x_amount : Int64} {x_decimals : Int32} {x_currencySign : Int32} {x_blankWhenZero : Int32} {x_sizeAsked : Int32} {x_lost : Int32} {x_readBack : Int64} {x_pictureLine_length : Int32} {x_pictureLine_row : Nat → Int32} {x_textLine_length : Int32} {x_textLine_row : Nat → Int32} {x_shape_cursor : Int32} {x_shape_runs : Int32} {x_shape_kind : Int32} {x_shape_places : Int32} {x_shape_digitsAhead : Int32} {x_shape_digitsBehind : Int32} {x_shape_allSuppressed : Int32} {x_shape_stringSign : Int32} {x_shape_floats : Int32} {x_shape_signs : Nat → Int32} {x_shape_counts : Nat → Int32} {x_editor_fill : Int32} {x_editor_nextDigit : Int32} {x_editor_begun : Int32} {x_editor_suppressing : Int32} {x_editor_digits_lost : Int32} {x_editor_digits_lostAhead : Int32} {x_editor_digits_allZero : Int32} {x_editor_digits_negative : Int32} {x_editor_digits_came : Nat → Int32} {x_editor_result_kind : Int32} {x_editor_result_length : Int32} {x_editor_result_hiddenPlaces : Int32} {x_editor_result_row : Nat → Int32} {x_editor_result_shownDigit : Nat → Int32} {m_pictures : Int32} {m_texts : Int32} {m_scale : Int32} {m_money : Int32} {m_value : Int64} {m_number : Int64} {m_blanks : Int32} {m_asked : Int32} {m_many : Int32} {m_sort : Int32} {m_ahead : Int32} {m_behind : Int32} {m_string : Int32} {m_begins : Int32} {m_strings : Int32} {m_nines : Int32} {m_places : Int32} {m_hidden : Int32} {m_cuts : Int32} {m_resultSort : Int32} {m_negative : Int32} {m_backDigits : Int32} {m_picture : Nat → Int32} {m_text : Nat → Int32} {m_row : Nat → Int32} {m_result : Nat → Int32} {m_came : Nat → Int32} {m_magnitude : Nat → Int32} {m_backRow : Nat → Int32} : B_law_18 4 xs (n + 1) x_amount x_decimals x_currencySign x_blankWhenZero x_sizeAsked x_lost x_readBack x_pictureLine_length x_pictureLine_row x_textLine_length x_textLine_row x_shape_cursor x_shape_runs x_shape_kind x_shape_places x_shape_digitsAhead x_shape_digitsBehind x_shape_allSuppressed x_shape_stringSign x_shape_floats x_shape_signs x_shape_counts x_editor_fill x_editor_nextDigit x_editor_begun x_editor_suppressing x_editor_digits_lost x_editor_digits_lostAhead x_editor_digits_allZero x_editor_digits_negative x_editor_digits_came x_editor_result_kind x_editor_result_length x_editor_result_hiddenPlaces x_editor_result_row x_editor_result_shownDigit m_pictures m_texts m_scale m_money m_value m_number m_blanks m_asked m_many m_sort m_ahead m_behind m_string m_begins m_strings m_nines m_places m_hidden m_cuts m_resultSort m_negative m_backDigits m_picture m_text m_row m_result m_came m_magnitude m_backRow (0 + 4) = some 1 := by
  unfold B_law_18
  exact if_pos (by decide)
theorem p1_w0 {α : Type} {k : Option α} : wgd (0 : Int32) 4 k = k := if_neg (by decide)
theorem p1_w1 {α : Type} {k : Option α} : wgd ((0 : Int32) + 1) 4 k = k := if_neg (by decide)
theorem p1_w2 {α : Type} {k : Option α} : wgd ((0 : Int32) + 2) 4 k = k := if_neg (by decide)
theorem p1_w3 {α : Type} {k : Option α} : wgd ((0 : Int32) + 3) 4 k = k := if_neg (by decide)
theorem mx_F_editn {n : Nat} (hn : n ≤ 60) {tn sc mon : Int32} {v : Int64} {bl sz : Int32} {pic txt : Nat → Int32} {m0 so a b str beg g nn pl hid cu rs neg bd : Int32} {row res came mag br : Nat → Int32} (hk : mx_look beg mon (px_lineL n pic) = none) :
    ∃ o, F_EditMovesModel_edit (nI n) tn sc mon v bl sz pic txt m0 so a b str beg g nn pl hid cu rs neg bd row res came mag br = some o ∧ o.1 = -2 := by
  have hL := mx_F_look (mon := mon) (pic := pic) hn (m0 := m0) (so := so) (a := a) (b := b) (str := str) (beg := beg) (g := g) (nn := nn) (row := row)
  unfold F_EditMovesModel_edit
  rw [hk] at hL
  obtain ⟨m1, a1, b1, c1, d1, e1, f1, r1, hL⟩ := hL
  rw [hL]
  exact ⟨_, rfl, rfl⟩
theorem p1_kind : px_kindOf 36 [] = none := rfl
theorem p1_look : mx_look 0 36 [] = none := rfl
theorem p1_editm : ∃ o, F_EditMovesModel_edit 0 0 0 36 0 0 0 (fun _ => 0) (fun _ => 0) 0 0 0 0 0 0 0 0 (-1) 0 0 0 0 0 (fun _ => 0) (fun _ => 0) (fun _ => 0) (fun _ => 0) (fun _ => 0) = some o ∧ o.1 = -2 :=
  mx_F_editn (n := 0) (by omega) p1_look
theorem p1_editx : ∃ o, F_EditMoves_edit 0 0 36 0 0 0 (fun _ => 0) 0 (fun _ => 0) 0 0 0 0 0 0 0 0 0 0 (fun _ => 0) (fun _ => 0) 0 0 0 0 0 0 0 0 (fun _ => 0) 0 0 0 (fun _ => 0) (fun _ => 0) = some o ∧ o.1 = -2 := by
  obtain ⟨b1, b2, b3, b4, b5, b6, b7, b8, b9, b10, b11, g1, g2, g3, g4, g5, g6, g7, g8, g9, h⟩ := px_X_edit (n0 := 0) (n1 := 0) (prow := fun _ => 0) (trow := fun _ => 0) (by omega) (by omega) (v := 0) (d := 0) (by omega) (cur := 36) (bw := false) (sz := false) (r0 := (0, fun _ => 0, fun _ => 0)) (k0 := 0) (h0 := 0) (l0 := 0) (len0 := 0) (c1 := 0) (c2 := 0) (c3 := 0) (c4 := 0) (c5 := 0) (c6 := 0) (c7 := 0) (c8 := 0) (c9 := 0) (c10 := fun _ => 0) (c11 := fun _ => 0) (e1 := 0) (e2 := 0) (e3 := 0) (e4 := 0) (e5 := 0) (e6 := 0) (e7 := 0) (e8 := 0) (e9 := fun _ => 0) rfl
  exact ⟨_, h, rfl⟩
theorem p1_nat {w : Int32} (h0 : ¬ w < 0) (h4 : ¬ (4 : Int32) < w) : w = 0 ∨ w = 1 ∨ w = 2 ∨ w = 3 ∨ w = 4 := by
  rw [px_notlt_le, Int32.le_iff_toInt_le] at h0 h4
  have z0 : (0 : Int32).toInt = 0 := by decide
  have z4 : (4 : Int32).toInt = 4 := by decide
  have e := px_N_of (x := w) (by omega)
  have q : w.toInt.toNat = 0 ∨ w.toInt.toNat = 1 ∨ w.toInt.toNat = 2 ∨ w.toInt.toNat = 3 ∨ w.toInt.toNat = 4 := by omega
  rcases q with q | q | q | q | q <;> rw [q] at e
  · exact Or.inl e
  · exact Or.inr (Or.inl e)
  · exact Or.inr (Or.inr (Or.inl e))
  · exact Or.inr (Or.inr (Or.inr (Or.inl e)))
  · exact Or.inr (Or.inr (Or.inr (Or.inr e)))
theorem p1_told {w : Int32} : px_toldS 36 [] w = mx_told 0 36 [] w := by
  unfold px_toldS mx_told
  rw [p1_kind, p1_look]
  by_cases c : w < 0 ∨ 4 < w
  · have n0 : ¬ w = 0 := by intro e; subst e; exact absurd c (by decide)
    have n1 : ¬ w = 1 := by intro e; subst e; exact absurd c (by decide)
    have n2 : ¬ w = 2 := by intro e; subst e; exact absurd c (by decide)
    have n3 : ¬ w = 3 := by intro e; subst e; exact absurd c (by decide)
    have n4 : ¬ w = 4 := by intro e; subst e; exact absurd c (by decide)
    rw [if_neg n0, if_neg n1, if_neg n2, if_neg n3, if_neg n4, if_pos c]
  · have q := p1_nat (fun q => c (Or.inl q)) (fun q => c (Or.inr q))
    rw [if_neg c]
    rcases q with q | q | q | q | q <;> subst q <;> rfl
theorem p1_atx {i : Int32} : F_EditMoves_at 0 (fun _ => 0) i = some (-1) := by
  have h := px_X_at (r := (0, fun _ => 0, fun _ => 0)) (i := i) (by show 0 ≤ 200; omega)
  have h' : F_EditMoves_at 0 (fun _ => 0) i = some (px_xget (0, fun _ => 0, fun _ => 0) i) := h
  rw [h']
  unfold px_xget
  rw [if_pos]
  by_cases q : i < 0
  · exact Or.inl q
  · exact Or.inr (px_notlt_le.mp q)
theorem p1_atm {i : Int32} : F_EditMovesModel_at (-1) (fun _ => 0) i = some (-1) := by
  unfold F_EditMovesModel_at
  by_cases q : i < 0
  · rw [if_pos q]
  · rw [if_neg q, if_pos]
    rw [px_notlt_le, Int32.le_iff_toInt_le] at q
    rw [Int32.le_iff_toInt_le]
    have z0 : (0 : Int32).toInt = 0 := by decide
    have z1 : (-1 : Int32).toInt = -1 := by decide
    omega
theorem p1_law {L : Nat} {xs : Nat → Int32} (hL : L ≤ 4) : B_law_18 L xs fu 0 0 (36) 0 0 0 0 0 (fun _ => 0) 0 (fun _ => 0) 0 0 0 0 0 0 0 0 0 (fun _ => 0) (fun _ => 0) 0 0 0 0 0 0 0 0 (fun _ => 0) 0 0 0 (fun _ => 0) (fun _ => 0) 0 0 0 (36) 0 0 0 0 0 0 0 0 0 0 0 0 (-1) 0 0 0 0 0 (fun _ => 0) (fun _ => 0) (fun _ => 0) (fun _ => 0) (fun _ => 0) (fun _ => 0) (fun _ => 0) (0 : Int32) = some 1 := by
  rw [show fu = 998 + 1 + 1 from rfl]
  by_cases h4 : L = 4
  · subst h4
    unfold B_law_18
    rw [if_neg (by decide), p1_w0]
    by_cases c0 : (xs (0 : Int32).toNatClampNeg &&& 15) = 0
    · obtain ⟨n1, r1, h1, _, _⟩ := px_X_picture (n := 0) (row := fun _ => 0) (c := xs ((0 : Int32) + 1).toNatClampNeg) (by omega)
      obtain ⟨n2, r2, h2, _, _⟩ := mx_F_picture (n := 0) (row := fun _ => 0) (c := xs ((0 : Int32) + 1).toNatClampNeg) (by omega)
      have h1' : F_EditMoves_picture 0 (fun _ => 0) (xs ((0 : Int32) + 1).toNatClampNeg) = _ := h1
      have h2' : F_EditMovesModel_picture 0 (fun _ => 0) (xs ((0 : Int32) + 1).toNatClampNeg) = _ := h2
      rw [if_pos c0, p1_w1, h1', Option.bind_some, p1_w1, h2', Option.bind_some]
      exact p1_end
    rw [if_neg c0]
    by_cases c1 : (xs (0 : Int32).toNatClampNeg &&& 15) = 1
    · rw [if_pos c1, p1_w1, p1_w2, p1_w3]
      have hx := fun (v : Int64) (sc : Int32) => px_X_value (a := 0) (v := v) (d := 0) (sc := sc) (by omega)
      obtain ⟨d', h1, _⟩ := hx ((((xs ((0 : Int32) + 1).toNatClampNeg).toInt64) <<< ((32 : Int32).toInt64 &&& 63)) ||| (((xs ((0 : Int32) + 2).toNatClampNeg).toInt64) &&& (4294967295 : Int64))) (xs ((0 : Int32) + 3).toNatClampNeg)
      have h1' : F_EditMoves_value 0 0 ((((xs ((0 : Int32) + 1).toNatClampNeg).toInt64) <<< ((32 : Int32).toInt64 &&& 63)) ||| (((xs ((0 : Int32) + 2).toNatClampNeg).toInt64) &&& (4294967295 : Int64))) (xs ((0 : Int32) + 3).toNatClampNeg) = _ := h1
      rw [h1', Option.bind_some, p1_w1, p1_w2, p1_w3, mx_F_value, Option.bind_some]
      refine p1_close ?_ p1_end
      by_cases hc : xs ((0 : Int32) + 3).toNatClampNeg < 0 ∨ 18 < xs ((0 : Int32) + 3).toNatClampNeg
      · rw [if_pos hc, if_pos hc]
      · rw [if_neg hc, if_neg hc]
    rw [if_neg c1]
    by_cases c2 : (xs (0 : Int32).toNatClampNeg &&& 15) = 2
    · obtain ⟨n1, r1, h1, _, _⟩ := px_X_text (n := 0) (row := fun _ => 0) (c := xs ((0 : Int32) + 1).toNatClampNeg) (by omega)
      obtain ⟨n2, r2, h2, _, _⟩ := mx_F_text (n := 0) (row := fun _ => 0) (c := xs ((0 : Int32) + 1).toNatClampNeg) (by omega)
      have h1' : F_EditMoves_text 0 (fun _ => 0) (xs ((0 : Int32) + 1).toNatClampNeg) = _ := h1
      have h2' : F_EditMovesModel_text 0 (fun _ => 0) (xs ((0 : Int32) + 1).toNatClampNeg) = _ := h2
      rw [if_pos c2, p1_w1, h1', Option.bind_some, p1_w1, h2', Option.bind_some]
      exact p1_end
    rw [if_neg c2]
    by_cases c3 : (xs (0 : Int32).toNatClampNeg &&& 15) = 3
    · obtain ⟨o1, h1, e1⟩ := p1_editx
      obtain ⟨o2, h2, e2⟩ := p1_editm
      rw [if_pos c3, h1, Option.bind_some, h2, Option.bind_some]
      exact p1_close (e1.trans e2.symm) p1_end
    rw [if_neg c3]
    by_cases c4 : (xs (0 : Int32).toNatClampNeg &&& 15) = 4
    · rw [if_pos c4, p1_w1, p1_atx, Option.bind_some, p1_w1, p1_atm, Option.bind_some]
      exact p1_close rfl p1_end
    rw [if_neg c4]
    by_cases c5 : (xs (0 : Int32).toNatClampNeg &&& 15) = 5
    · have h1 : F_EditMoves_back 0 0 (fun _ => 0) (fun _ => 0) 0 = some (0, 0) := px_X_back (r := (0, fun _ => 0, fun _ => 0)) (kind := 0) (b := 0) (by show 0 ≤ 200; omega)
      rw [if_pos c5, h1, Option.bind_some, mx_F_back0 (by decide), Option.bind_some]
      exact p1_close rfl p1_end
    rw [if_neg c5]
    by_cases c6 : (xs (0 : Int32).toNatClampNeg &&& 15) = 6
    · unfold F_EditMoves_number F_EditMovesModel_number
      rw [if_pos c6, Option.bind_some, Option.bind_some]
      exact p1_close (by decide) p1_end
    rw [if_neg c6]
    by_cases c7 : (xs (0 : Int32).toNatClampNeg &&& 15) = 7
    · rw [if_pos c7, p1_w1, p1_w2]
      unfold B_law_287
      by_cases z : xs ((0 : Int32) + 2).toNatClampNeg = 0
      · rw [if_pos z, px_X_currency, Option.bind_some, p1_w1, p1_w2, if_pos z, mx_F_currency, Option.bind_some]
        exact p1_close rfl p1_end
      · rw [if_neg z, px_X_currency, Option.bind_some, p1_w1, p1_w2, if_neg z, mx_F_currency, Option.bind_some]
        exact p1_close rfl p1_end
    rw [if_neg c7]
    by_cases c8 : (xs (0 : Int32).toNatClampNeg &&& 15) = 8
    · have a0 : F_EditMoves_zero 0 0 = some (0, 0) := rfl
      have a1 : F_EditMoves_zero 0 1 = some (0, 1) := rfl
      have b0 : F_EditMovesModel_zero 0 0 = some (0, 0) := rfl
      have b1 : F_EditMovesModel_zero 0 1 = some (0, 1) := rfl
      rw [if_pos c8, p1_w1]
      unfold B_law_331
      by_cases z : xs ((0 : Int32) + 1).toNatClampNeg = 0
      · rw [if_pos z, a0, Option.bind_some, p1_w1, if_pos z, b0, Option.bind_some]
        exact p1_close rfl p1_end
      · rw [if_neg z, a1, Option.bind_some, p1_w1, if_neg z, b1, Option.bind_some]
        exact p1_close rfl p1_end
    rw [if_neg c8]
    by_cases c9 : (xs (0 : Int32).toNatClampNeg &&& 15) = 9
    · have a0 : F_EditMoves_size 0 0 = some (0, 0) := rfl
      have a1 : F_EditMoves_size 0 1 = some (0, 1) := rfl
      have b0 : F_EditMovesModel_size 0 0 = some (0, 0) := rfl
      have b1 : F_EditMovesModel_size 0 1 = some (0, 1) := rfl
      rw [if_pos c9, p1_w1]
      unfold B_law_370
      by_cases z : xs ((0 : Int32) + 1).toNatClampNeg = 0
      · rw [if_pos z, a0, Option.bind_some, p1_w1, if_pos z, b0, Option.bind_some]
        exact p1_close rfl p1_end
      · rw [if_neg z, a1, Option.bind_some, p1_w1, if_neg z, b1, Option.bind_some]
        exact p1_close rfl p1_end
    rw [if_neg c9]
    by_cases c10 : (xs (0 : Int32).toNatClampNeg &&& 15) = 10
    · unfold F_EditMoves_suppressed F_EditMovesModel_suppressed
      rw [if_pos c10, Option.bind_some, Option.bind_some]
      exact p1_close rfl p1_end
    rw [if_neg c10]
    by_cases c11 : (xs (0 : Int32).toNatClampNeg &&& 15) = 11
    · unfold F_EditMoves_cut F_EditMovesModel_cut
      rw [if_pos c11, Option.bind_some, Option.bind_some]
      exact p1_close rfl p1_end
    rw [if_neg c11]
    by_cases c12 : (xs (0 : Int32).toNatClampNeg &&& 15) = 12
    · obtain ⟨b1, b2, b3, b4, b5, b6, b7, b8, b9, b10, b11, h1⟩ := px_X_told (n0 := 0) (prow := fun _ => 0) (by omega) (cur := 36) (w := xs ((0 : Int32) + 1).toNatClampNeg) (c1 := 0) (c2 := 0) (c3 := 0) (c4 := 0) (c5 := 0) (c6 := 0) (c7 := 0) (c8 := 0) (c9 := 0) (c10 := fun _ => 0) (c11 := fun _ => 0)
      obtain ⟨m1, m2, m3, m4, m5, m6, m7, m8, m9, h2⟩ := mx_F_told (n := 0) (mon := 36) (pic := fun _ => 0) (by omega) (m0 := 0) (so := 0) (a := 0) (b := 0) (str := 0) (beg := 0) (g := 0) (nn := 0) (w := xs ((0 : Int32) + 1).toNatClampNeg) (row := fun _ => 0)
      have h1' : F_EditMoves_told 36 0 (fun _ => 0) 0 0 0 0 0 0 0 0 0 (fun _ => 0) (fun _ => 0) (xs ((0 : Int32) + 1).toNatClampNeg) = _ := h1
      have h2' : F_EditMovesModel_told 0 36 (fun _ => 0) 0 0 0 0 0 0 0 0 (fun _ => 0) (xs ((0 : Int32) + 1).toNatClampNeg) = _ := h2
      rw [if_pos c12, p1_w1, h1', Option.bind_some, p1_w1, h2', Option.bind_some]
      exact p1_close p1_told p1_end
    rw [if_neg c12]
    exact p1_end
  · unfold B_law_18
    refine if_pos ?_
    have e : Int32.ofNat L = nI L := rfl
    rcases (show L = 0 ∨ L = 1 ∨ L = 2 ∨ L = 3 by omega) with q | q | q | q <;> subst q <;> decide
