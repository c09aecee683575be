/-! THE REFERENCE, PURE: look, told, and the small methods. -/
/-- what the picture's text is: none; a text's row; a number's row with what isNumber found -/
abbrev mx_K := Option (List Int32 × Option mx_R7)
def mx_look (beg mon : Int32) (xs : List Int32) : mx_K :=
  match mx_rows mon xs with
  | none => none
  | some [] => none
  | some (x :: t) => if mx_tx (x :: t) = true then some (x :: t, none)
      else if mx_bad x t = true then none
      else if (mx_num (x :: t).length beg (mx_upc (x :: t))).1 = 0 then none
      else some (x :: t, some (mx_num (x :: t).length beg (mx_upc (x :: t))))
abbrev mx_LookR (o : Option (Int32 × Int32 × Int32 × Int32 × Int32 × Int32 × Int32 × Int32 × (Nat → Int32))) (k : mx_K) : Prop :=
  match k with
  | none => ∃ m a b c d e f r, o = some (m, 0, a, b, c, d, e, f, r)
  | some (ys, none) => ∃ a b c d e f r, o = some (nI ys.length, 2, a, b, c, d, e, f, r) ∧ mx_RY ys.length r ys
  | some (ys, some q) => ∃ r, o = some (nI ys.length, 1, q.2.1, q.2.2.1, q.2.2.2.1, q.2.2.2.2.1, q.2.2.2.2.2.1, q.2.2.2.2.2.2, r) ∧ mx_RY ys.length r ys
theorem mx_F_look {n : Nat} {mon : Int32} {pic : Nat → Int32} (hn : n ≤ 60) {m0 so a b str beg g nn : Int32} {row : Nat → Int32} :
    mx_LookR (F_EditMovesModel_look (nI n) mon pic m0 so a b str beg g nn row) (mx_look beg mon (px_lineL n pic)) := by
  have hS := mx_scan (mon := mon) (pic := pic) hn (m0 := m0) (row := row)
  unfold F_EditMovesModel_look B_EditMovesModel_look_18 mx_look
  cases hr : mx_rows mon (px_lineL n pic) with
  | none =>
    rw [hr] at hS
    obtain ⟨m, r, hS⟩ := hS
    rw [hS]
    exact ⟨_, _, _, _, _, _, _, _, rfl⟩
  | some ys =>
    rw [hr] at hS
    obtain ⟨r, hS, hR, hle⟩ := hS
    rw [hS]
    simp only [Option.bind_some]
    rw [if_neg (by decide)]
    cases ys with
    | nil =>
      rw [if_pos (by decide)]
      exact ⟨_, _, _, _, _, _, _, _, rfl⟩
    | cons x t =>
      have hRY : mx_RY (x :: t).length r (x :: t) := ⟨rfl, hle, hR⟩
      have hl0 : 1 ≤ (x :: t).length := by simp
      rw [if_neg (by rw [px_lit0, px_N_le (by omega) (by omega)]; omega)]
      unfold B_EditMovesModel_look_19
      rw [if_neg (by decide), mx_isText hRY]
      simp only [Option.bind_some, px_bz_ne]
      cases ht : mx_tx (x :: t) with
      | true =>
        rw [if_neg (by decide)]
        exact ⟨_, _, _, _, _, _, _, rfl, hRY⟩
      | false =>
        rw [if_pos rfl, mx_isNumber hRY rfl]
        simp only [Option.bind_some, Bool.false_eq_true, if_false]
        cases hb : mx_bad x t with
        | true =>
          simp only [if_true]
          exact ⟨_, _, _, _, _, _, _, _, rfl⟩
        | false =>
          simp only [Bool.false_eq_true, if_false]
          by_cases c : (mx_num (x :: t).length beg (mx_upc (x :: t))).1 = 0
          · simp only [if_pos c]
            exact ⟨_, _, _, _, _, _, _, _, rfl⟩
          · simp only [if_neg c]
            exact ⟨_, rfl, hRY⟩
/-- what the reference tells of the picture -/
def mx_told (beg mon : Int32) (xs : List Int32) (w : Int32) : Int32 :=
  if w < 0 ∨ 4 < w then -1
  else match mx_look beg mon xs with
    | none => 0
    | some (ys, none) => if w = 0 then 2 else if w = 3 then nI (mx_wid ys) else 0
    | some (ys, some q) => if w = 0 then 1 else if w = 3 then nI (mx_wid ys) else if w = 1 then q.2.1 else if w = 2 then q.2.2.1 else if q.2.2.2.2.2.2 = 0 then 1 else 0
theorem mx_F_told {n : Nat} {mon : Int32} {pic : Nat → Int32} (hn : n ≤ 60) {m0 so a b str beg g nn w : Int32} {row : Nat → Int32} :
    ∃ m1 s1 a1 b1 t1 e1 g1 n1 r1, F_EditMovesModel_told (nI n) mon pic m0 so a b str beg g nn row w = some (mx_told beg mon (px_lineL n pic) w, m1, s1, a1, b1, t1, e1, g1, n1, r1) := by
  have hL := mx_F_look (mon := mon) (pic := pic) hn (m0 := m0) (so := so) (a := a) (b := b) (str := str) (beg := beg) (g := g) (nn := nn) (row := row)
  unfold F_EditMovesModel_told mx_told
  have hle4 : ¬ w < 0 → ((w ≤ 4) ↔ ¬ (w < 0 ∨ 4 < w)) := by
    intro h0
    have z4 : (4 : Int32).toInt = 4 := by decide
    constructor
    · intro h q
      rcases q with q | q
      · exact h0 q
      · rw [Int32.le_iff_toInt_le] at h
        rw [Int32.lt_iff_toInt_lt] at q
        omega
    · intro h
      rw [Int32.le_iff_toInt_le]
      have : ¬ (4 : Int32) < w := fun q => h (Or.inr q)
      rw [Int32.lt_iff_toInt_lt] at this
      omega
  rcases hk : mx_look beg mon (px_lineL n pic) with _ | ⟨ys, _ | q⟩
  · rw [hk] at hL
    obtain ⟨m1, a1, b1, c1, d1, e1, f1, r1, hL⟩ := hL
    rw [hL]
    simp only [Option.bind_some]
    by_cases c0 : w < 0
    · rw [if_pos c0, if_pos (Or.inl c0)]
      exact ⟨_, _, _, _, _, _, _, _, _, rfl⟩
    · rw [if_neg c0]
      by_cases c4 : w ≤ 4
      · rw [if_pos c4, if_neg ((hle4 c0).mp c4), if_pos trivial]
        exact ⟨_, _, _, _, _, _, _, _, _, rfl⟩
      · have c5 : w < 0 ∨ 4 < w := by
          by_cases q : w < 0 ∨ 4 < w
          · exact q
          · exact absurd ((hle4 c0).mpr q) c4
        rw [if_neg c4, if_pos c5]
        exact ⟨_, _, _, _, _, _, _, _, _, rfl⟩
  · rw [hk] at hL
    obtain ⟨a1, b1, c1, d1, e1, f1, r1, hL, hRY⟩ := hL
    rw [hL]
    simp only [Option.bind_some]
    by_cases c0 : w < 0
    · rw [if_pos c0, if_pos (Or.inl c0)]
      exact ⟨_, _, _, _, _, _, _, _, _, rfl⟩
    · rw [if_neg c0]
      by_cases c4 : w ≤ 4
      · rw [if_pos c4, if_neg ((hle4 c0).mp c4), if_neg (by decide)]
        by_cases w0 : w = 0
        · simp only [if_pos w0]
          exact ⟨_, _, _, _, _, _, _, _, _, rfl⟩
        · simp only [if_neg w0]
          by_cases w3 : w = 3
          · simp only [if_pos w3]
            rw [mx_width hRY]
            exact ⟨_, _, _, _, _, _, _, _, _, rfl⟩
          · simp only [if_neg w3, if_true]
            exact ⟨_, _, _, _, _, _, _, _, _, rfl⟩
      · have c5 : w < 0 ∨ 4 < w := by
          by_cases q : w < 0 ∨ 4 < w
          · exact q
          · exact absurd ((hle4 c0).mpr q) c4
        rw [if_neg c4, if_pos c5]
        exact ⟨_, _, _, _, _, _, _, _, _, rfl⟩
  · rw [hk] at hL
    obtain ⟨r1, hL, hRY⟩ := hL
    rw [hL]
    simp only [Option.bind_some]
    by_cases c0 : w < 0
    · rw [if_pos c0, if_pos (Or.inl c0)]
      exact ⟨_, _, _, _, _, _, _, _, _, rfl⟩
    · rw [if_neg c0]
      by_cases c4 : w ≤ 4
      · rw [if_pos c4, if_neg ((hle4 c0).mp c4), if_neg (by decide)]
        by_cases w0 : w = 0
        · simp only [if_pos w0]
          exact ⟨_, _, _, _, _, _, _, _, _, rfl⟩
        · simp only [if_neg w0]
          by_cases w3 : w = 3
          · simp only [if_pos w3]
            rw [mx_width hRY]
            exact ⟨_, _, _, _, _, _, _, _, _, rfl⟩
          · simp only [if_neg w3]
            rw [if_neg (by decide)]
            by_cases w1 : w = 1
            · simp only [if_pos w1]
              exact ⟨_, _, _, _, _, _, _, _, _, rfl⟩
            · simp only [if_neg w1]
              by_cases w2 : w = 2
              · simp only [if_pos w2]
                exact ⟨_, _, _, _, _, _, _, _, _, rfl⟩
              · simp only [if_neg w2]
                by_cases z : q.2.2.2.2.2.2 = 0
                · simp only [if_pos z]
                  exact ⟨_, _, _, _, _, _, _, _, _, rfl⟩
                · simp only [if_neg z]
                  exact ⟨_, _, _, _, _, _, _, _, _, rfl⟩
      · have c5 : w < 0 ∨ 4 < w := by
          by_cases q : w < 0 ∨ 4 < w
          · exact q
          · exact absurd ((hle4 c0).mpr q) c4
        rw [if_neg c4, if_pos c5]
        exact ⟨_, _, _, _, _, _, _, _, _, rfl⟩
/-- the picture's text in the reference: what is no sign is -1 -/
def mx_pic (xs : List Int32) (c : Int32) : List Int32 := if c = 0 then [] else px_lnAdd xs (if c ≤ 0 ∨ 127 ≤ c then -1 else c)
theorem mx_lineL_upd {n : Nat} {row : Nat → Int32} {c : Int32} : px_lineL (n + 1) (upd row n c) = px_lineL n row ++ [c] := by
  unfold px_lineL
  rw [List.range_succ, List.map_append]
  congr 1
  · apply List.map_congr_left
    intro j hj
    rw [List.mem_range] at hj
    unfold upd
    rw [if_neg (by omega)]
  · simp [upd]
theorem mx_F_picture {n : Nat} {row : Nat → Int32} {c : Int32} (hn : n ≤ 60) : ∃ n' row', F_EditMovesModel_picture (nI n) row c = some (nI n', row') ∧ px_lineL n' row' = mx_pic (px_lineL n row) c ∧ n' ≤ 60 := by
  unfold F_EditMovesModel_picture B_EditMovesModel_picture_43 B_EditMovesModel_picture_44 mx_pic px_lnAdd
  rw [px_lineL_len]
  by_cases c0 : c = 0
  · rw [if_pos c0, if_pos c0]
    exact ⟨0, row, rfl, rfl, by omega⟩
  · rw [if_neg c0, if_neg c0]
    by_cases h : n < 60
    · rw [if_neg (by rw [px_lit60, px_N_le (by omega) (by omega)]; omega), if_pos h, px_wgd_in (by omega) (by omega), px_wgd_in (by omega) (by omega), px_N_clamp (by omega)]
      have k1 : nI n + 1 = nI (n + 1) := px_N_add _ _
      rw [k1]
      by_cases c1 : c ≤ 0
      · rw [if_pos c1, if_pos (Or.inl c1)]
        exact ⟨n + 1, _, rfl, mx_lineL_upd, by omega⟩
      · rw [if_neg c1]
        by_cases c2 : (127 : Int32) ≤ c
        · rw [if_pos c2, if_pos (Or.inr c2)]
          exact ⟨n + 1, _, rfl, mx_lineL_upd, by omega⟩
        · rw [if_neg c2, if_neg (fun q => q.elim c1 c2)]
          exact ⟨n + 1, _, rfl, mx_lineL_upd, by omega⟩
    · rw [if_pos (by rw [px_lit60, px_N_le (by omega) (by omega)]; omega), if_neg h]
      exact ⟨n, row, rfl, rfl, hn⟩
theorem mx_F_text {n : Nat} {row : Nat → Int32} {c : Int32} (hn : n ≤ 60) : ∃ n' row', F_EditMovesModel_text (nI n) row c = some (nI n', row') ∧ px_lineL n' row' = px_txtS (px_lineL n row) c ∧ n' ≤ 60 := by
  unfold F_EditMovesModel_text px_txtS px_lnAdd
  rw [px_lineL_len]
  have hz : (126 : Int32).toInt = 126 := by decide
  by_cases c1 : c < 32
  · rw [if_pos c1, if_pos (Or.inl c1)]
    exact ⟨0, row, rfl, rfl, by omega⟩
  · rw [if_neg c1]
    by_cases c2 : c ≤ 126
    · have c3 : ¬ (126 : Int32) < c := by rw [px_notlt_le]; exact c2
      have c5 : ¬ (c < 32 ∨ 126 < c) := fun q => q.elim c1 c3
      rw [if_pos c2, if_neg c5]
      by_cases h : n < 60
      · rw [if_neg (by rw [px_lit60, px_N_le (by omega) (by omega)]; omega), if_pos h, px_wgd_in (by omega) (by omega), px_N_clamp (by omega)]
        have k1 : nI n + 1 = nI (n + 1) := px_N_add _ _
        rw [k1]
        exact ⟨n + 1, _, rfl, mx_lineL_upd, by omega⟩
      · rw [if_pos (by rw [px_lit60, px_N_le (by omega) (by omega)]; omega), if_neg h]
        exact ⟨n, row, rfl, rfl, hn⟩
    · have c3 : (126 : Int32) < c := by
        rw [Int32.le_iff_toInt_le] at c2
        rw [Int32.lt_iff_toInt_lt]; omega
      rw [if_neg c2, if_pos (Or.inr c3)]
      exact ⟨0, row, rfl, rfl, by omega⟩
theorem mx_F_value {a v : Int64} {s sc : Int32} : F_EditMovesModel_value s a v sc = some (if sc < 0 ∨ 18 < sc then (0, s, a) else (1, sc, v)) := by
  unfold F_EditMovesModel_value
  by_cases c1 : sc < 0
  · rw [if_pos c1, if_pos (Or.inl c1)]
  · rw [if_neg c1]
    by_cases c2 : sc ≤ 18
    · have c3 : ¬ (18 : Int32) < sc := by rw [px_notlt_le]; exact c2
      rw [if_pos c2, if_neg (fun q => q.elim c1 c3)]
    · have c3 : (18 : Int32) < sc := by
        rw [Int32.le_iff_toInt_le] at c2
        rw [Int32.lt_iff_toInt_lt]; omega
      rw [if_neg c2, if_pos (Or.inr c3)]
theorem mx_F_zero {a b : Bool} : F_EditMovesModel_zero (px_bz a) (px_bz b) = some (px_bz a, px_bz b) := by cases a <;> cases b <;> rfl
theorem mx_F_size {a b : Bool} : F_EditMovesModel_size (px_bz a) (px_bz b) = some (px_bz a, px_bz b) := by cases a <;> cases b <;> rfl
