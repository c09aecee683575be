/-! THE REFERENCE, PURE: the currency sign; that a row holds no 0; what a look found. -/
def mx_spec (c : Int32) : Bool := c == 42 || c == 43 || c == 45 || c == 44 || c == 46 || c == 47 || c == 40 || c == 41
def mx_let (c : Int32) : Bool := (!decide (c < 97) && decide (c ≤ 122)) || (!decide (c < 65) && decide (c ≤ 90)) || (!decide (c < 48) && !decide (57 < c))
def mx_cOk (c : Int32) : Bool := !decide (c < 33) && !decide (126 < c) && !mx_let c && !mx_spec c
theorem mx_c95 {cur c : Int32} {a b : Bool} : B_EditMovesModel_currency_95 cur c (px_bz a) (px_bz b) = some (if (!decide (c < 33) && !decide (126 < c) && !a && !b) = true then (cur, c) else (-1, cur)) := by
  unfold B_EditMovesModel_currency_95
  by_cases c1 : c < 33
  · rw [if_pos c1]; simp [c1]
  · rw [if_neg c1]
    by_cases c2 : (126 : Int32) < c
    · rw [if_pos c2]; simp [c2]
    · rw [if_neg c2]
      cases a with
      | true => rw [if_neg (by decide)]; simp
      | false =>
        rw [if_pos px_bzf]
        cases b with
        | true => rw [if_neg (by decide)]; simp
        | false => rw [if_pos px_bzf]; simp [c1, c2]
theorem mx_c41 {cur c s : Int32} : B_EditMovesModel_currency_41 cur c s = B_EditMovesModel_currency_95 cur c s (px_bz (mx_spec c)) := by
  unfold B_EditMovesModel_currency_41 B_EditMovesModel_currency_90
  by_cases h1 : c = 42
  · subst h1; rfl
  by_cases h2 : c = 43
  · subst h2; rfl
  by_cases h3 : c = 45
  · subst h3; rfl
  by_cases h4 : c = 44
  · subst h4; rfl
  by_cases h5 : c = 46
  · subst h5; rfl
  by_cases h6 : c = 47
  · subst h6; rfl
  by_cases h7 : c = 40
  · subst h7; rfl
  by_cases h8 : c = 41
  · subst h8; rfl
  rw [if_neg h1, if_neg h2, if_neg h3, if_neg h4, if_neg h5, if_neg h6, if_neg h7, if_neg h8]
  have e : mx_spec c = false := by simp [mx_spec, h1, h2, h3, h4, h5, h6, h7, h8]
  rw [e]
  rfl
theorem mx_cF {cur c p : Int32} : F_EditMovesModel_currency cur c p = B_EditMovesModel_currency_41 cur c (px_bz (mx_let c)) := by
  unfold F_EditMovesModel_currency B_EditMovesModel_currency_12 B_EditMovesModel_currency_24 B_EditMovesModel_currency_40 B_EditMovesModel_currency_36 mx_let
  by_cases a1 : c < 97 <;> by_cases a2 : c ≤ 122 <;> by_cases b1 : c < 65 <;> by_cases b2 : c ≤ 90 <;> by_cases d1 : c < 48 <;> by_cases d2 : (57 : Int32) < c <;> simp [a1, a2, b1, b2, d1, d2, px_bz]
theorem mx_cOk_eq (c : Int32) : mx_cOk c = px_curOk c := by
  by_cases h : 0 ≤ c.toInt ∧ c.toInt ≤ 126
  · have e := px_N_of h.1
    have all : ∀ k : Fin 127, mx_cOk (nI k.val) = px_curOk (nI k.val) := by decide +kernel
    have t := all ⟨c.toInt.toNat, by omega⟩
    simp only at t
    rw [← e] at t
    exact t
  · unfold mx_cOk px_curOk
    have z33 : (33 : Int32).toInt = 33 := by decide
    have z32 : (32 : Int32).toInt = 32 := by decide
    have z126 : (126 : Int32).toInt = 126 := by decide
    by_cases n : c.toInt < 0
    · have h1 : c < 33 := by rw [Int32.lt_iff_toInt_lt]; omega
      have h2 : c ≤ 32 := by rw [Int32.le_iff_toInt_le]; omega
      simp [h1, h2]
    · have h3 : (126 : Int32) < c := by rw [Int32.lt_iff_toInt_lt]; omega
      simp [h3]
theorem mx_F_currency {cur c p : Int32} : F_EditMovesModel_currency cur c p = some (if px_curOk c = true then (cur, c) else (-1, cur)) := by
  rw [mx_cF, mx_c41, mx_c95, ← mx_cOk_eq]
  rfl
theorem mx_sg_ne0 {mon : Int32} {xs : List Int32} : mx_sg mon xs ≠ 0 := by
  unfold mx_sg
  split
  · decide
  · split
    · split <;> decide
    · split
      · split <;> decide
      · split
        · rename_i h
          intro e
          rw [e] at h
          exact absurd h (by decide)
        · decide
theorem mx_flat_ne0 {mon : Int32} : ∀ (k : Nat) (xs ys : List Int32), mx_flat mon k xs = some ys → ∀ y ∈ ys, y ≠ 0
  | 0, xs, ys, h => by
    unfold mx_flat at h
    cases h
    intro y hy
    cases hy
  | k + 1, xs, ys, h => by
    unfold mx_flat at h
    by_cases c1 : xs = []
    · rw [if_pos c1] at h
      cases h
      intro y hy
      cases hy
    · rw [if_neg c1] at h
      by_cases c2 : mx_sg mon xs = -1 ∨ (mx_ct (xs.drop (mx_w (mx_sg mon xs)))).1 = 0
      · rw [if_pos c2] at h
        cases h
      · rw [if_neg c2, Option.map_eq_some_iff] at h
        obtain ⟨t, h1, h2⟩ := h
        have ih := mx_flat_ne0 k _ t h1
        intro y hy
        rw [← h2, List.mem_append] at hy
        rcases hy with hy | hy
        · rw [(List.mem_replicate.mp hy).2]
          exact mx_sg_ne0
        · exact ih y hy
theorem mx_look_text {beg mon : Int32} {xs ys : List Int32} (h : mx_look beg mon xs = some (ys, none)) : mx_tx ys = true := by
  unfold mx_look at h
  split at h
  · cases h
  · cases h
  · rename_i x t e
    by_cases c1 : mx_tx (x :: t) = true
    · rw [if_pos c1] at h
      cases h
      exact c1
    · rw [if_neg c1] at h
      split at h
      · cases h
      · split at h
        · cases h
        · cases h
theorem mx_look_num {beg mon : Int32} {xs ys : List Int32} {q : mx_R7} (h : mx_look beg mon xs = some (ys, some q)) : q = mx_num ys.length beg (mx_upc ys) ∧ (mx_num ys.length beg (mx_upc ys)).1 ≠ 0 ∧ ∀ y ∈ ys, y ≠ 0 := by
  unfold mx_look at h
  split at h
  · cases h
  · cases h
  · rename_i x t e
    by_cases c1 : mx_tx (x :: t) = true
    · rw [if_pos c1] at h
      cases h
    · rw [if_neg c1] at h
      split at h
      · cases h
      · split at h
        · cases h
        · rename_i c3
          cases h
          exact ⟨rfl, c3, mx_flat_ne0 61 xs _ e⟩
theorem mx_tx_wid {ys : List Int32} (h : mx_tx ys = true) : mx_wid ys = ys.length := by
  unfold mx_tx at h
  rw [Bool.and_eq_true] at h
  have h2 := h.2
  clear h
  induction ys with
  | nil => rfl
  | cons y t ih =>
    rw [List.all_cons, Bool.and_eq_true] at h2
    have hy : mx_wide y = 1 := by
      have h3 := h2.1
      simp only [Bool.or_eq_true, beq_iff_eq] at h3
      rcases h3 with ((h3 | h3) | h3) | h3 <;> rw [h3] <;> rfl
    show mx_wide y + mx_wid t = (y :: t).length
    rw [hy, ih h2.2, List.length_cons]
    omega
theorem mx_te_len {xs : List Int32} : ∀ (t : List Int32) (k : Nat), (mx_te xs k t).length = t.length
  | [], _ => rfl
  | y :: t, k => by
    unfold mx_te
    split
    · rw [List.length_cons, List.length_cons, mx_te_len t (k + 1)]
    · rw [List.length_cons, List.length_cons, mx_te_len t k]
