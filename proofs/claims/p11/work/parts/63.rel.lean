/-! WHAT THE LAW'S LOOP KEEPS: every call of both ends, whatever the answers. -/
theorem mx_row_self {res : Nat → Int32} {k : Nat} : mx_RowIs res (px_lineL k res) := by
  intro j y h
  unfold px_lineL at h
  rw [List.getElem?_map] at h
  by_cases c : j < k
  · rw [List.getElem?_range c] at h
    cases h
    rfl
  · rw [List.getElem?_eq_none (by rw [List.length_range]; omega)] at h
    cases h
theorem mx_line_len {res : Nat → Int32} {k : Nat} : (px_lineL k res).length = k := by
  unfold px_lineL
  rw [List.length_map, List.length_range]
theorem mx_at_ok {pl so bd : Int32} {res : Nat → Int32} {i : Int32} (h : mx_IV pl so bd) : ∃ y, F_EditMovesModel_at pl res i = some y := by
  rcases h.1 with e | ⟨k, hk, e⟩
  · subst e
    unfold F_EditMovesModel_at
    by_cases q : i < 0
    · exact ⟨_, if_pos q⟩
    · rw [if_neg q, if_pos]
      · exact ⟨_, rfl⟩
      · rw [px_notlt_le, Int32.le_iff_toInt_le] at q
        rw [Int32.le_iff_toInt_le]
        have z0 : (0 : Int32).toInt = 0 := by decide
        have z1 : (-1 : Int32).toInt = -1 := by decide
        omega
  · subst e
    have q := mx_F_at (i := i) (mx_row_self (res := res) (k := k)) (by rw [mx_line_len]; exact hk)
    rw [mx_line_len] at q
    exact ⟨_, q⟩
theorem mx_back_ok {pl so bd : Int32} {res br : Nat → Int32} {nu : Int64} (h : mx_IV pl so bd) : ∃ y, F_EditMovesModel_back pl so bd res br nu = some y := by
  by_cases c : so = 1
  · obtain ⟨⟨k, hk, e⟩, D, hD, e2⟩ := h.2 c
    subst e
    subst e2
    have q := mx_F_back (so := so) (br := br) (nu := nu) (mx_row_self (res := res) (k := k)) (by rw [mx_line_len]; exact hk) hD
    rw [mx_line_len] at q
    exact ⟨_, q⟩
  · exact ⟨_, mx_F_back0 c⟩
theorem px_edit_ok {n0 n1 : Nat} {prow trow : Nat → Int32} (hn0 : n0 ≤ 60) (hn1 : n1 ≤ 60) {v : Int64} {d : Nat} (hd : d ≤ 18) {cur : Int32} {bw sz : Bool} {k0 h0 l0 len0 : Int32} {c1 c2 c3 c4 c5 c6 c7 c8 c9 : Int32} {c10 c11 : Nat → Int32} {e1 e2 e3 e4 e5 e6 e7 e8 : Int32} {e9 row shw : Nat → Int32} :
    ∃ o, F_EditMoves_edit v (nI d) cur (px_bz bw) (px_bz sz) (nI n0) prow (nI n1) trow l0 c1 c2 c3 c4 c5 c6 c7 c8 c9 c10 c11 e1 e2 e3 e4 e5 e6 e7 e8 e9 k0 len0 h0 row shw = some o ∧ ∃ k : Nat, k ≤ 200 ∧ o.2.2.2.2.2.2.2.2.2.2.2.2.2.2.2.2.2.2.2.2.2.2.2.1 = nI k := by
  obtain ⟨b1, b2, b3, b4, b5, b6, b7, b8, b9, b10, b11, g1, g2, g3, g4, g5, g6, g7, g8, g9, h⟩ := px_X_edit (prow := prow) (trow := trow) hn0 hn1 (v := v) hd (cur := cur) (bw := bw) (sz := sz) (r0 := (0, row, shw)) (k0 := k0) (h0 := h0) (l0 := l0) (len0 := len0) (c1 := c1) (c2 := c2) (c3 := c3) (c4 := c4) (c5 := c5) (c6 := c6) (c7 := c7) (c8 := c8) (c9 := c9) (c10 := c10) (c11 := c11) (e1 := e1) (e2 := e2) (e3 := e3) (e4 := e4) (e5 := e5) (e6 := e6) (e7 := e7) (e8 := e8) (e9 := e9) rfl
  exact ⟨_, h, _, px_editS_le (cur := cur) (v := v) (d := d) (bw := bw) (sz := sz) (pic := px_lineL n0 prow) (txt := px_lineL n1 trow) (r0 := (0, row, shw)) (by show 0 ≤ 200; omega), rfl⟩
/-- what stays true from call to call -/
def lr_I (xd xc xb xs xp xt xl mp mt ms mm mb ma pl so bd : Int32) : Prop :=
  (∃ d : Nat, d ≤ 18 ∧ xd = nI d) ∧ (∃ d : Nat, d ≤ 18 ∧ ms = nI d) ∧ xc = mm ∧ (∃ b : Bool, xb = px_bz b ∧ mb = px_bz b) ∧ (∃ b : Bool, xs = px_bz b ∧ ma = px_bz b) ∧
  (∃ n : Nat, n ≤ 60 ∧ xp = nI n) ∧ (∃ n : Nat, n ≤ 60 ∧ xt = nI n) ∧ (∃ n : Nat, n ≤ 60 ∧ mp = nI n) ∧ (∃ n : Nat, n ≤ 60 ∧ mt = nI n) ∧ (∃ k : Nat, k ≤ 200 ∧ xl = nI k) ∧ mx_IV pl so bd
theorem lr_w {α : Type} {L j : Nat} (hj : j < L) (hL : L ≤ 2048) {k : Option α} : wgd (nI j) L k = k := by
  unfold wgd
  refine if_neg ?_
  rw [px_N_clamp (by omega), px_lit0, px_N_lt (by omega) (by omega)]
  omega
theorem lr_end {L j : Nat} (hL : L ≤ 2048) (hj : j ≤ 4096) : (Int32.ofNat L - (4 : Int32) < nI j) ↔ L < j + 4 := by
  have e : Int32.ofNat L = nI L := rfl
  rw [e]
  by_cases c : 4 ≤ L
  · have e4 : nI L - (4 : Int32) = nI (L - 4) := px_N_sub c
    rw [e4, px_N_lt (by omega) (by omega)]
    omega
  · refine ⟨fun _ => by omega, fun _ => ?_⟩
    rw [Int32.lt_iff_toInt_lt, px_N_toInt (by omega)]
    rcases (show L = 0 ∨ L = 1 ∨ L = 2 ∨ L = 3 by omega) with q | q | q | q <;> subst q
    · have z : (nI 0 - 4).toInt = -4 := by decide
      omega
    · have z : (nI 1 - 4).toInt = -3 := by decide
      omega
    · have z : (nI 2 - 4).toInt = -2 := by decide
      omega
    · have z : (nI 3 - 4).toInt = -1 := by decide
      omega
theorem lr_close {P : Prop} [Decidable P] {a b : Option Int32} (h : P) (ha : a = some 1) : (if P then a else b) = some 1 := by
  rw [if_pos h]
  exact ha
theorem lr_value {a v : Int64} {d : Nat} {sc : Int32} (hd : d ≤ 18) : ∃ (y : Int32) (a' : Int64) (d' : Nat), F_EditMoves_value a (nI d) v sc = some (y, a', nI d') ∧ d' ≤ 18 ∧ (y = if sc < 0 ∨ 18 < sc then 0 else 1) := by
  obtain ⟨d', h1, h2⟩ := px_X_value (a := a) (v := v) (sc := sc) hd
  by_cases c : sc < 0 ∨ 18 < sc
  · rw [if_pos c] at h1
    exact ⟨_, _, _, h1, hd, by rw [if_pos c]⟩
  · rw [if_neg c] at h1
    exact ⟨_, _, _, h1, (h2 c).1, by rw [if_neg c]⟩
theorem lm_value {a v : Int64} {d : Nat} {sc : Int32} (hd : d ≤ 18) : ∃ (y : Int32) (a' : Int64) (d' : Nat), F_EditMovesModel_value (nI d) a v sc = some (y, nI d', a') ∧ d' ≤ 18 ∧ (y = if sc < 0 ∨ 18 < sc then 0 else 1) := by
  have h1 := mx_F_value (a := a) (v := v) (s := nI d) (sc := sc)
  by_cases c : sc < 0 ∨ 18 < sc
  · rw [if_pos c] at h1
    exact ⟨_, _, _, h1, hd, by rw [if_pos c]⟩
  · rw [if_neg c] at h1
    have n0 : ¬ sc < 0 := fun q => c (Or.inl q)
    have n18 : ¬ (18 : Int32) < sc := fun q => c (Or.inr q)
    rw [px_notlt_le, Int32.le_iff_toInt_le] at n0 n18
    have z0 : (0 : Int32).toInt = 0 := by decide
    have z18 : (18 : Int32).toInt = 18 := by decide
    have e := px_N_of (x := sc) (by omega)
    refine ⟨1, v, sc.toInt.toNat, ?_, by omega, by rw [if_neg c]⟩
    rw [← e]
    exact h1
theorem lr_start : lr_I 0 36 0 0 0 0 0 0 0 0 36 0 0 (-1) 0 0 :=
  ⟨⟨0, by omega, rfl⟩, ⟨0, by omega, rfl⟩, rfl, ⟨false, rfl, rfl⟩, ⟨false, rfl, rfl⟩, ⟨0, by omega, rfl⟩, ⟨0, by omega, rfl⟩, ⟨0, by omega, rfl⟩, ⟨0, by omega, rfl⟩, ⟨0, by omega, rfl⟩, mx_okn⟩
