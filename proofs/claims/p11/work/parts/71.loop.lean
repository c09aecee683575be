/-! THE LAW'S LOOP, PURE: every call of both ends, the compared ones answer alike. -/
theorem lr_main {L : Nat} {xs : Nat → Int32} (hL : L ≤ 2048) : ∀ (n i : Nat) {x_amount : Int64} {x_decimals : Int32} {x_currencySign : Int32} {x_blankWhenZero : Int32} {x_sizeAsked : Int32} {x_lost : Int32} {x_readBack : Int64} {x_pictureLine_length : Int32} {x_pictureLine_row : Nat → Int32} {x_textLine_length : Int32} {x_textLine_row : Nat → Int32} {x_shape_cursor : Int32} {x_shape_runs : Int32} {x_shape_kind : Int32} {x_shape_places : Int32} {x_shape_digitsAhead : Int32} {x_shape_digitsBehind : Int32} {x_shape_allSuppressed : Int32} {x_shape_stringSign : Int32} {x_shape_floats : Int32} {x_shape_signs : Nat → Int32} {x_shape_counts : Nat → Int32} {x_editor_fill : Int32} {x_editor_nextDigit : Int32} {x_editor_begun : Int32} {x_editor_suppressing : Int32} {x_editor_digits_lost : Int32} {x_editor_digits_lostAhead : Int32} {x_editor_digits_allZero : Int32} {x_editor_digits_negative : Int32} {x_editor_digits_came : Nat → Int32} {x_editor_result_kind : Int32} {x_editor_result_length : Int32} {x_editor_result_hiddenPlaces : Int32} {x_editor_result_row : Nat → Int32} {x_editor_result_shownDigit : Nat → Int32} {m_pictures : Int32} {m_texts : Int32} {m_scale : Int32} {m_money : Int32} {m_value : Int64} {m_number : Int64} {m_blanks : Int32} {m_asked : Int32} {m_many : Int32} {m_sort : Int32} {m_ahead : Int32} {m_behind : Int32} {m_string : Int32} {m_begins : Int32} {m_strings : Int32} {m_nines : Int32} {m_places : Int32} {m_hidden : Int32} {m_cuts : Int32} {m_resultSort : Int32} {m_negative : Int32} {m_backDigits : Int32} {m_picture : Nat → Int32} {m_text : Nat → Int32} {m_row : Nat → Int32} {m_result : Nat → Int32} {m_came : Nat → Int32} {m_magnitude : Nat → Int32} {m_backRow : Nat → Int32}, lr_I x_decimals x_currencySign x_blankWhenZero x_sizeAsked x_pictureLine_length x_textLine_length x_editor_result_length m_pictures m_texts m_scale m_money m_blanks m_asked m_places m_resultSort m_backDigits → L < 4 * i + 4 * n → 4 * i ≤ L → B_law_18 L xs n x_amount x_decimals x_currencySign x_blankWhenZero x_sizeAsked x_lost x_readBack x_pictureLine_length x_pictureLine_row x_textLine_length x_textLine_row x_shape_cursor x_shape_runs x_shape_kind x_shape_places x_shape_digitsAhead x_shape_digitsBehind x_shape_allSuppressed x_shape_stringSign x_shape_floats x_shape_signs x_shape_counts x_editor_fill x_editor_nextDigit x_editor_begun x_editor_suppressing x_editor_digits_lost x_editor_digits_lostAhead x_editor_digits_allZero x_editor_digits_negative x_editor_digits_came x_editor_result_kind x_editor_result_length x_editor_result_hiddenPlaces x_editor_result_row x_editor_result_shownDigit m_pictures m_texts m_scale m_money m_value m_number m_blanks m_asked m_many m_sort m_ahead m_behind m_string m_begins m_strings m_nines m_places m_hidden m_cuts m_resultSort m_negative m_backDigits m_picture m_text m_row m_result m_came m_magnitude m_backRow (nI (4 * i)) = some 1 := by
  intro n
  induction n with
  | zero =>
    intro i x_amount x_decimals x_currencySign x_blankWhenZero x_sizeAsked x_lost x_readBack x_pictureLine_length x_pictureLine_row x_textLine_length x_textLine_row x_shape_cursor x_shape_runs x_shape_kind x_shape_places x_shape_digitsAhead x_shape_digitsBehind x_shape_allSuppressed x_shape_stringSign x_shape_floats x_shape_signs x_shape_counts x_editor_fill x_editor_nextDigit x_editor_begun x_editor_suppressing x_editor_digits_lost x_editor_digits_lostAhead x_editor_digits_allZero x_editor_digits_negative x_editor_digits_came x_editor_result_kind x_editor_result_length x_editor_result_hiddenPlaces x_editor_result_row x_editor_result_shownDigit m_pictures m_texts m_scale m_money m_value m_number m_blanks m_asked m_many m_sort m_ahead m_behind m_string m_begins m_strings m_nines m_places m_hidden m_cuts m_resultSort m_negative m_backDigits m_picture m_text m_row m_result m_came m_magnitude m_backRow hI hn hi
    omega
  | succ n ih =>
    intro i x_amount x_decimals x_currencySign x_blankWhenZero x_sizeAsked x_lost x_readBack x_pictureLine_length x_pictureLine_row x_textLine_length x_textLine_row x_shape_cursor x_shape_runs x_shape_kind x_shape_places x_shape_digitsAhead x_shape_digitsBehind x_shape_allSuppressed x_shape_stringSign x_shape_floats x_shape_signs x_shape_counts x_editor_fill x_editor_nextDigit x_editor_begun x_editor_suppressing x_editor_digits_lost x_editor_digits_lostAhead x_editor_digits_allZero x_editor_digits_negative x_editor_digits_came x_editor_result_kind x_editor_result_length x_editor_result_hiddenPlaces x_editor_result_row x_editor_result_shownDigit m_pictures m_texts m_scale m_money m_value m_number m_blanks m_asked m_many m_sort m_ahead m_behind m_string m_begins m_strings m_nines m_places m_hidden m_cuts m_resultSort m_negative m_backDigits m_picture m_text m_row m_result m_came m_magnitude m_backRow hI hn hi
    obtain ⟨⟨d, hd, ed⟩, ⟨d2, hd2, ed2⟩, ec, ⟨bb, eb1, eb2⟩, ⟨bs, es1, es2⟩, ⟨n0, hn0, en0⟩, ⟨n1, hn1, en1⟩, ⟨q0, hq0, eq0⟩, ⟨q1, hq1, eq1⟩, ⟨kl, hkl, ekl⟩, hIV⟩ := hI
    subst ed ed2 ec eb1 eb2 es1 es2 en0 en1 eq0 eq1 ekl
    unfold B_law_18
    by_cases hend : Int32.ofNat L - (4 : Int32) < nI (4 * i)
    · exact if_pos hend
    rw [if_neg hend]
    rw [lr_end hL (by omega)] at hend
    have e4 : nI (4 * i) + 4 = nI (4 * (i + 1)) := px_N_add (4 * i) 4
    have w0 : ∀ (k : Option Int32), wgd (nI (4 * i)) L k = k := fun k => lr_w (j := 4 * i + 0) (by omega) hL
    have w1 : ∀ (k : Option Int32), wgd (nI (4 * i) + 1) L k = k := fun k => by rw [show nI (4 * i) + 1 = nI (4 * i + 1) from px_N_add (4 * i) 1]; exact lr_w (j := 4 * i + 1) (by omega) hL
    have w2 : ∀ (k : Option Int32), wgd (nI (4 * i) + 2) L k = k := fun k => by rw [show nI (4 * i) + 2 = nI (4 * i + 2) from px_N_add (4 * i) 2]; exact lr_w (j := 4 * i + 2) (by omega) hL
    have w3 : ∀ (k : Option Int32), wgd (nI (4 * i) + 3) L k = k := fun k => by rw [show nI (4 * i) + 3 = nI (4 * i + 3) from px_N_add (4 * i) 3]; exact lr_w (j := 4 * i + 3) (by omega) hL
    have ihk : ∀ {x_amount : Int64} {x_decimals : Int32} {x_currencySign : Int32} {x_blankWhenZero : Int32} {x_sizeAsked : Int32} {x_lost : Int32} {x_readBack : Int64} {x_pictureLine_length : Int32} {x_pictureLine_row : Nat → Int32} {x_textLine_length : Int32} {x_textLine_row : Nat → Int32} {x_shape_cursor : Int32} {x_shape_runs : Int32} {x_shape_kind : Int32} {x_shape_places : Int32} {x_shape_digitsAhead : Int32} {x_shape_digitsBehind : Int32} {x_shape_allSuppressed : Int32} {x_shape_stringSign : Int32} {x_shape_floats : Int32} {x_shape_signs : Nat → Int32} {x_shape_counts : Nat → Int32} {x_editor_fill : Int32} {x_editor_nextDigit : Int32} {x_editor_begun : Int32} {x_editor_suppressing : Int32} {x_editor_digits_lost : Int32} {x_editor_digits_lostAhead : Int32} {x_editor_digits_allZero : Int32} {x_editor_digits_negative : Int32} {x_editor_digits_came : Nat → Int32} {x_editor_result_kind : Int32} {x_editor_result_length : Int32} {x_editor_result_hiddenPlaces : Int32} {x_editor_result_row : Nat → Int32} {x_editor_result_shownDigit : Nat → Int32} {m_pictures : Int32} {m_texts : Int32} {m_scale : Int32} {m_money : Int32} {m_value : Int64} {m_number : Int64} {m_blanks : Int32} {m_asked : Int32} {m_many : Int32} {m_sort : Int32} {m_ahead : Int32} {m_behind : Int32} {m_string : Int32} {m_begins : Int32} {m_strings : Int32} {m_nines : Int32} {m_places : Int32} {m_hidden : Int32} {m_cuts : Int32} {m_resultSort : Int32} {m_negative : Int32} {m_backDigits : Int32} {m_picture : Nat → Int32} {m_text : Nat → Int32} {m_row : Nat → Int32} {m_result : Nat → Int32} {m_came : Nat → Int32} {m_magnitude : Nat → Int32} {m_backRow : Nat → Int32}, lr_I x_decimals x_currencySign x_blankWhenZero x_sizeAsked x_pictureLine_length x_textLine_length x_editor_result_length m_pictures m_texts m_scale m_money m_blanks m_asked m_places m_resultSort m_backDigits → B_law_18 L xs n x_amount x_decimals x_currencySign x_blankWhenZero x_sizeAsked x_lost x_readBack x_pictureLine_length x_pictureLine_row x_textLine_length x_textLine_row x_shape_cursor x_shape_runs x_shape_kind x_shape_places x_shape_digitsAhead x_shape_digitsBehind x_shape_allSuppressed x_shape_stringSign x_shape_floats x_shape_signs x_shape_counts x_editor_fill x_editor_nextDigit x_editor_begun x_editor_suppressing x_editor_digits_lost x_editor_digits_lostAhead x_editor_digits_allZero x_editor_digits_negative x_editor_digits_came x_editor_result_kind x_editor_result_length x_editor_result_hiddenPlaces x_editor_result_row x_editor_result_shownDigit m_pictures m_texts m_scale m_money m_value m_number m_blanks m_asked m_many m_sort m_ahead m_behind m_string m_begins m_strings m_nines m_places m_hidden m_cuts m_resultSort m_negative m_backDigits m_picture m_text m_row m_result m_came m_magnitude m_backRow (nI (4 * i) + 4) = some 1 := by
      intro x_amount x_decimals x_currencySign x_blankWhenZero x_sizeAsked x_lost x_readBack x_pictureLine_length x_pictureLine_row x_textLine_length x_textLine_row x_shape_cursor x_shape_runs x_shape_kind x_shape_places x_shape_digitsAhead x_shape_digitsBehind x_shape_allSuppressed x_shape_stringSign x_shape_floats x_shape_signs x_shape_counts x_editor_fill x_editor_nextDigit x_editor_begun x_editor_suppressing x_editor_digits_lost x_editor_digits_lostAhead x_editor_digits_allZero x_editor_digits_negative x_editor_digits_came x_editor_result_kind x_editor_result_length x_editor_result_hiddenPlaces x_editor_result_row x_editor_result_shownDigit m_pictures m_texts m_scale m_money m_value m_number m_blanks m_asked m_many m_sort m_ahead m_behind m_string m_begins m_strings m_nines m_places m_hidden m_cuts m_resultSort m_negative m_backDigits m_picture m_text m_row m_result m_came m_magnitude m_backRow hI
      rw [e4]
      exact ih (i + 1) hI (by omega) (by omega)
    rw [w0]
    by_cases c0 : (xs (nI (4 * i)).toNatClampNeg &&& 15) = 0
    · obtain ⟨n2, r1, h1, _, hn2⟩ := px_X_picture (row := x_pictureLine_row) (c := (xs (nI (4 * i) + 1).toNatClampNeg)) hn0
      obtain ⟨n3, r2, h2, _, hn3⟩ := mx_F_picture (row := m_picture) (c := (xs (nI (4 * i) + 1).toNatClampNeg)) hq0
      rw [if_pos c0, w1, h1, Option.bind_some, w1, h2, Option.bind_some]
      exact ihk ⟨⟨d, hd, rfl⟩, ⟨d2, hd2, rfl⟩, rfl, ⟨bb, rfl, rfl⟩, ⟨bs, rfl, rfl⟩, ⟨n2, hn2, rfl⟩, ⟨n1, hn1, rfl⟩, ⟨n3, hn3, rfl⟩, ⟨q1, hq1, rfl⟩, ⟨kl, hkl, rfl⟩, hIV⟩
    rw [if_neg c0]
    by_cases c1 : (xs (nI (4 * i)).toNatClampNeg &&& 15) = 1
    · obtain ⟨y1, a1, d3, h1, hd3, k1⟩ := lr_value (a := x_amount) (v := (((xs (nI (4 * i) + 1).toNatClampNeg).toInt64 <<< ((32 : Int32).toInt64 &&& 63)) ||| ((xs (nI (4 * i) + 2).toNatClampNeg).toInt64 &&& (4294967295 : Int64)))) (sc := (xs (nI (4 * i) + 3).toNatClampNeg)) hd
      obtain ⟨y2, a2, d4, h2, hd4, k2⟩ := lm_value (a := m_value) (v := (((xs (nI (4 * i) + 1).toNatClampNeg).toInt64 <<< ((32 : Int32).toInt64 &&& 63)) ||| ((xs (nI (4 * i) + 2).toNatClampNeg).toInt64 &&& (4294967295 : Int64)))) (sc := (xs (nI (4 * i) + 3).toNatClampNeg)) hd2
      rw [if_pos c1, w1, w2, w3, h1, Option.bind_some, w1, w2, w3, h2, Option.bind_some]
      exact ihk ⟨⟨d3, hd3, rfl⟩, ⟨d4, hd4, rfl⟩, rfl, ⟨bb, rfl, rfl⟩, ⟨bs, rfl, rfl⟩, ⟨n0, hn0, rfl⟩, ⟨n1, hn1, rfl⟩, ⟨q0, hq0, rfl⟩, ⟨q1, hq1, rfl⟩, ⟨kl, hkl, rfl⟩, hIV⟩
    rw [if_neg c1]
    by_cases c2 : (xs (nI (4 * i)).toNatClampNeg &&& 15) = 2
    · obtain ⟨n2, r1, h1, _, hn2⟩ := px_X_text (row := x_textLine_row) (c := (xs (nI (4 * i) + 1).toNatClampNeg)) hn1
      obtain ⟨n3, r2, h2, _, hn3⟩ := mx_F_text (row := m_text) (c := (xs (nI (4 * i) + 1).toNatClampNeg)) hq1
      rw [if_pos c2, w1, h1, Option.bind_some, w1, h2, Option.bind_some]
      exact ihk ⟨⟨d, hd, rfl⟩, ⟨d2, hd2, rfl⟩, rfl, ⟨bb, rfl, rfl⟩, ⟨bs, rfl, rfl⟩, ⟨n0, hn0, rfl⟩, ⟨n2, hn2, rfl⟩, ⟨q0, hq0, rfl⟩, ⟨n3, hn3, rfl⟩, ⟨kl, hkl, rfl⟩, hIV⟩
    rw [if_neg c2]
    by_cases c3 : (xs (nI (4 * i)).toNatClampNeg &&& 15) = 3
    · obtain ⟨o1, h1, k1, hk1, ek1⟩ : ∃ o, F_EditMoves_edit x_amount (nI d) x_currencySign (px_bz bb) (px_bz bs) (nI n0) x_pictureLine_row (nI n1) x_textLine_row x_lost x_shape_cursor x_shape_runs x_shape_kind x_shape_places x_shape_digitsAhead x_shape_digitsBehind x_shape_allSuppressed x_shape_stringSign x_shape_floats x_shape_signs x_shape_counts x_editor_fill x_editor_nextDigit x_editor_begun x_editor_suppressing x_editor_digits_lost x_editor_digits_lostAhead x_editor_digits_allZero x_editor_digits_negative x_editor_digits_came x_editor_result_kind (nI kl) x_editor_result_hiddenPlaces x_editor_result_row x_editor_result_shownDigit = some o ∧ ∃ k : Nat, k ≤ 200 ∧ o.2.2.2.2.2.2.2.2.2.2.2.2.2.2.2.2.2.2.2.2.2.2.2.1 = nI k := px_edit_ok hn0 hn1 hd
      obtain ⟨o2, h2, hok⟩ : ∃ o, F_EditMovesModel_edit (nI q0) (nI q1) (nI d2) x_currencySign m_value (px_bz bb) (px_bz bs) m_picture m_text m_many m_sort m_ahead m_behind m_string m_begins m_strings m_nines m_places m_hidden m_cuts m_resultSort m_negative m_backDigits m_row m_result m_came m_magnitude m_backRow = some o ∧ mx_OK o := mx_F_edit hq0 hq1 hd2
      rw [if_pos c3, h1, Option.bind_some, h2, Option.bind_some]
      exact ihk ⟨⟨d, hd, rfl⟩, ⟨d2, hd2, rfl⟩, rfl, ⟨bb, rfl, rfl⟩, ⟨bs, rfl, rfl⟩, ⟨n0, hn0, rfl⟩, ⟨n1, hn1, rfl⟩, ⟨q0, hq0, rfl⟩, ⟨q1, hq1, rfl⟩, ⟨k1, hk1, ek1⟩, hok⟩
    rw [if_neg c3]
    by_cases c4 : (xs (nI (4 * i)).toNatClampNeg &&& 15) = 4
    · obtain ⟨y1, h1⟩ : ∃ y, F_EditMoves_at (nI kl) x_editor_result_row (xs (nI (4 * i) + 1).toNatClampNeg) = some y := ⟨_, px_X_at (r := (kl, x_editor_result_row, x_editor_result_row)) hkl⟩
      obtain ⟨y2, h2⟩ := mx_at_ok (res := m_result) (i := (xs (nI (4 * i) + 1).toNatClampNeg)) hIV
      rw [if_pos c4, w1, h1, Option.bind_some, w1, h2, Option.bind_some]
      exact ihk ⟨⟨d, hd, rfl⟩, ⟨d2, hd2, rfl⟩, rfl, ⟨bb, rfl, rfl⟩, ⟨bs, rfl, rfl⟩, ⟨n0, hn0, rfl⟩, ⟨n1, hn1, rfl⟩, ⟨q0, hq0, rfl⟩, ⟨q1, hq1, rfl⟩, ⟨kl, hkl, rfl⟩, hIV⟩
    rw [if_neg c4]
    by_cases c5 : (xs (nI (4 * i)).toNatClampNeg &&& 15) = 5
    · obtain ⟨y1, h1⟩ : ∃ y, F_EditMoves_back x_editor_result_kind (nI kl) x_editor_result_row x_editor_result_shownDigit x_readBack = some y := ⟨_, px_X_back (r := (kl, x_editor_result_row, x_editor_result_shownDigit)) hkl⟩
      obtain ⟨y2, h2⟩ := mx_back_ok (res := m_result) (br := m_backRow) (nu := m_number) hIV
      rw [if_pos c5, h1, Option.bind_some, h2, Option.bind_some]
      exact ihk ⟨⟨d, hd, rfl⟩, ⟨d2, hd2, rfl⟩, rfl, ⟨bb, rfl, rfl⟩, ⟨bs, rfl, rfl⟩, ⟨n0, hn0, rfl⟩, ⟨n1, hn1, rfl⟩, ⟨q0, hq0, rfl⟩, ⟨q1, hq1, rfl⟩, ⟨kl, hkl, rfl⟩, hIV⟩
    rw [if_neg c5]
    by_cases c6 : (xs (nI (4 * i)).toNatClampNeg &&& 15) = 6
    · unfold F_EditMoves_number F_EditMovesModel_number
      rw [if_pos c6, Option.bind_some, Option.bind_some]
      exact ihk ⟨⟨d, hd, rfl⟩, ⟨d2, hd2, rfl⟩, rfl, ⟨bb, rfl, rfl⟩, ⟨bs, rfl, rfl⟩, ⟨n0, hn0, rfl⟩, ⟨n1, hn1, rfl⟩, ⟨q0, hq0, rfl⟩, ⟨q1, hq1, rfl⟩, ⟨kl, hkl, rfl⟩, hIV⟩
    rw [if_neg c6]
    by_cases c7 : (xs (nI (4 * i)).toNatClampNeg &&& 15) = 7
    · rw [if_pos c7, w1, w2]
      unfold B_law_286
      by_cases z : (xs (nI (4 * i) + 2).toNatClampNeg) = 0
      · rw [if_pos z, px_X_currency, Option.bind_some, w1, w2, if_pos z, mx_F_currency, Option.bind_some]
        exact ihk ⟨⟨d, hd, rfl⟩, ⟨d2, hd2, rfl⟩, rfl, ⟨bb, rfl, rfl⟩, ⟨bs, rfl, rfl⟩, ⟨n0, hn0, rfl⟩, ⟨n1, hn1, rfl⟩, ⟨q0, hq0, rfl⟩, ⟨q1, hq1, rfl⟩, ⟨kl, hkl, rfl⟩, hIV⟩
      · rw [if_neg z, px_X_currency, Option.bind_some, w1, w2, if_neg z, mx_F_currency, Option.bind_some]
        exact ihk ⟨⟨d, hd, rfl⟩, ⟨d2, hd2, rfl⟩, rfl, ⟨bb, rfl, rfl⟩, ⟨bs, rfl, rfl⟩, ⟨n0, hn0, rfl⟩, ⟨n1, hn1, rfl⟩, ⟨q0, hq0, rfl⟩, ⟨q1, hq1, rfl⟩, ⟨kl, hkl, rfl⟩, hIV⟩
    rw [if_neg c7]
    by_cases c8 : (xs (nI (4 * i)).toNatClampNeg &&& 15) = 8
    · have a0 : F_EditMoves_zero (px_bz bb) 0 = some (px_bz bb, px_bz false) := px_X_zero (a := bb) (b := false)
      have a1 : F_EditMoves_zero (px_bz bb) 1 = some (px_bz bb, px_bz true) := px_X_zero (a := bb) (b := true)
      have b0 : F_EditMovesModel_zero (px_bz bb) 0 = some (px_bz bb, px_bz false) := mx_F_zero (a := bb) (b := false)
      have b1 : F_EditMovesModel_zero (px_bz bb) 1 = some (px_bz bb, px_bz true) := mx_F_zero (a := bb) (b := true)
      rw [if_pos c8, w1]
      unfold B_law_330
      by_cases z : (xs (nI (4 * i) + 1).toNatClampNeg) = 0
      · rw [if_pos z, a0, Option.bind_some, w1, if_pos z, b0, Option.bind_some]
        exact ihk ⟨⟨d, hd, rfl⟩, ⟨d2, hd2, rfl⟩, rfl, ⟨false, rfl, rfl⟩, ⟨bs, rfl, rfl⟩, ⟨n0, hn0, rfl⟩, ⟨n1, hn1, rfl⟩, ⟨q0, hq0, rfl⟩, ⟨q1, hq1, rfl⟩, ⟨kl, hkl, rfl⟩, hIV⟩
      · rw [if_neg z, a1, Option.bind_some, w1, if_neg z, b1, Option.bind_some]
        exact ihk ⟨⟨d, hd, rfl⟩, ⟨d2, hd2, rfl⟩, rfl, ⟨true, rfl, rfl⟩, ⟨bs, rfl, rfl⟩, ⟨n0, hn0, rfl⟩, ⟨n1, hn1, rfl⟩, ⟨q0, hq0, rfl⟩, ⟨q1, hq1, rfl⟩, ⟨kl, hkl, rfl⟩, hIV⟩
    rw [if_neg c8]
    by_cases c9 : (xs (nI (4 * i)).toNatClampNeg &&& 15) = 9
    · have a0 : F_EditMoves_size (px_bz bs) 0 = some (px_bz bs, px_bz false) := px_X_size (a := bs) (b := false)
      have a1 : F_EditMoves_size (px_bz bs) 1 = some (px_bz bs, px_bz true) := px_X_size (a := bs) (b := true)
      have b0 : F_EditMovesModel_size (px_bz bs) 0 = some (px_bz bs, px_bz false) := mx_F_size (a := bs) (b := false)
      have b1 : F_EditMovesModel_size (px_bz bs) 1 = some (px_bz bs, px_bz true) := mx_F_size (a := bs) (b := true)
      rw [if_pos c9, w1]
      unfold B_law_369
      by_cases z : (xs (nI (4 * i) + 1).toNatClampNeg) = 0
      · rw [if_pos z, a0, Option.bind_some, w1, if_pos z, b0, Option.bind_some]
        exact lr_close rfl (ihk ⟨⟨d, hd, rfl⟩, ⟨d2, hd2, rfl⟩, rfl, ⟨bb, rfl, rfl⟩, ⟨false, rfl, rfl⟩, ⟨n0, hn0, rfl⟩, ⟨n1, hn1, rfl⟩, ⟨q0, hq0, rfl⟩, ⟨q1, hq1, rfl⟩, ⟨kl, hkl, rfl⟩, hIV⟩)
      · rw [if_neg z, a1, Option.bind_some, w1, if_neg z, b1, Option.bind_some]
        exact lr_close rfl (ihk ⟨⟨d, hd, rfl⟩, ⟨d2, hd2, rfl⟩, rfl, ⟨bb, rfl, rfl⟩, ⟨true, rfl, rfl⟩, ⟨n0, hn0, rfl⟩, ⟨n1, hn1, rfl⟩, ⟨q0, hq0, rfl⟩, ⟨q1, hq1, rfl⟩, ⟨kl, hkl, rfl⟩, hIV⟩)
    rw [if_neg c9]
    by_cases c10 : (xs (nI (4 * i)).toNatClampNeg &&& 15) = 10
    · unfold F_EditMoves_suppressed F_EditMovesModel_suppressed
      rw [if_pos c10, Option.bind_some, Option.bind_some]
      exact ihk ⟨⟨d, hd, rfl⟩, ⟨d2, hd2, rfl⟩, rfl, ⟨bb, rfl, rfl⟩, ⟨bs, rfl, rfl⟩, ⟨n0, hn0, rfl⟩, ⟨n1, hn1, rfl⟩, ⟨q0, hq0, rfl⟩, ⟨q1, hq1, rfl⟩, ⟨kl, hkl, rfl⟩, hIV⟩
    rw [if_neg c10]
    by_cases c11 : (xs (nI (4 * i)).toNatClampNeg &&& 15) = 11
    · unfold F_EditMoves_cut F_EditMovesModel_cut
      rw [if_pos c11, Option.bind_some, Option.bind_some]
      exact ihk ⟨⟨d, hd, rfl⟩, ⟨d2, hd2, rfl⟩, rfl, ⟨bb, rfl, rfl⟩, ⟨bs, rfl, rfl⟩, ⟨n0, hn0, rfl⟩, ⟨n1, hn1, rfl⟩, ⟨q0, hq0, rfl⟩, ⟨q1, hq1, rfl⟩, ⟨kl, hkl, rfl⟩, hIV⟩
    rw [if_neg c11]
    by_cases c12 : (xs (nI (4 * i)).toNatClampNeg &&& 15) = 12
    · obtain ⟨o1, h1⟩ : ∃ o, F_EditMoves_told x_currencySign (nI n0) x_pictureLine_row x_shape_cursor x_shape_runs x_shape_kind x_shape_places x_shape_digitsAhead x_shape_digitsBehind x_shape_allSuppressed x_shape_stringSign x_shape_floats x_shape_signs x_shape_counts (xs (nI (4 * i) + 1).toNatClampNeg) = some o := by
        obtain ⟨b1, b2, b3, b4, b5, b6, b7, b8, b9, b10, b11, h⟩ := px_X_told (prow := x_pictureLine_row) hn0 (cur := x_currencySign) (w := (xs (nI (4 * i) + 1).toNatClampNeg)) (c1 := x_shape_cursor) (c2 := x_shape_runs) (c3 := x_shape_kind) (c4 := x_shape_places) (c5 := x_shape_digitsAhead) (c6 := x_shape_digitsBehind) (c7 := x_shape_allSuppressed) (c8 := x_shape_stringSign) (c9 := x_shape_floats) (c10 := x_shape_signs) (c11 := x_shape_counts)
        exact ⟨_, h⟩
      obtain ⟨o2, h2⟩ : ∃ o, F_EditMovesModel_told (nI q0) x_currencySign m_picture m_many m_sort m_ahead m_behind m_string m_begins m_strings m_nines m_row (xs (nI (4 * i) + 1).toNatClampNeg) = some o := by
        obtain ⟨m1, m2, m3, m4, m5, m6, m7, m8, m9, h⟩ := mx_F_told (mon := x_currencySign) (pic := m_picture) hq0 (m0 := m_many) (so := m_sort) (a := m_ahead) (b := m_behind) (str := m_string) (beg := m_begins) (g := m_strings) (nn := m_nines) (w := (xs (nI (4 * i) + 1).toNatClampNeg)) (row := m_row)
        exact ⟨_, h⟩
      rw [if_pos c12, w1, h1, Option.bind_some, w1, h2, Option.bind_some]
      exact ihk ⟨⟨d, hd, rfl⟩, ⟨d2, hd2, rfl⟩, rfl, ⟨bb, rfl, rfl⟩, ⟨bs, rfl, rfl⟩, ⟨n0, hn0, rfl⟩, ⟨n1, hn1, rfl⟩, ⟨q0, hq0, rfl⟩, ⟨q1, hq1, rfl⟩, ⟨kl, hkl, rfl⟩, hIV⟩
    rw [if_neg c12]
    exact ihk ⟨⟨d, hd, rfl⟩, ⟨d2, hd2, rfl⟩, rfl, ⟨bb, rfl, rfl⟩, ⟨bs, rfl, rfl⟩, ⟨n0, hn0, rfl⟩, ⟨n1, hn1, rfl⟩, ⟨q0, hq0, rfl⟩, ⟨q1, hq1, rfl⟩, ⟨kl, hkl, rfl⟩, hIV⟩
theorem lr_law {L : Nat} {xs : Nat → Int32} (hL : L ≤ 2048) : B_law_18 L xs fu 0 0 (36) 0 0 0 0 0 (fun _ => 0) 0 (fun _ => 0) 0 0 0 0 0 0 0 0 0 (fun _ => 0) (fun _ => 0) 0 0 0 0 0 0 0 0 (fun _ => 0) 0 0 0 (fun _ => 0) (fun _ => 0) 0 0 0 (36) 0 0 0 0 0 0 0 0 0 0 0 0 (-1) 0 0 0 0 0 (fun _ => 0) (fun _ => 0) (fun _ => 0) (fun _ => 0) (fun _ => 0) (fun _ => 0) (fun _ => 0) (0 : Int32) = some 1 :=
  lr_main hL fu 0 lr_start (by show L < 4 * 0 + 4 * 1000; omega) (by omega)
