theorem px_N_toInt {a : Nat} (h : a < 2147483648) : (nI a).toInt = a := by
  unfold nI
  exact Int32.toInt_ofNat_of_lt (by simpa using h)
theorem px_N_lt {a b : Nat} (ha : a < 2147483648) (hb : b < 2147483648) : (nI a < nI b) ↔ a < b := by
  rw [Int32.lt_iff_toInt_lt, px_N_toInt ha, px_N_toInt hb]; omega
theorem px_N_le {a b : Nat} (ha : a < 2147483648) (hb : b < 2147483648) : (nI a ≤ nI b) ↔ a ≤ b := by
  rw [Int32.le_iff_toInt_le, px_N_toInt ha, px_N_toInt hb]; omega
theorem px_N_eq {a b : Nat} (ha : a < 2147483648) (hb : b < 2147483648) : (nI a = nI b) ↔ a = b := by
  rw [← Int32.toInt_inj, px_N_toInt ha, px_N_toInt hb]; omega
theorem px_N_add (a b : Nat) : nI a + nI b = nI (a + b) := by
  unfold nI; exact (Int32.ofNat_add a b).symm
theorem px_N_mul (a b : Nat) : nI a * nI b = nI (a * b) := by
  unfold nI; exact (Int32.ofNat_mul a b).symm
theorem px_N_sub {a b : Nat} (h : b ≤ a) : nI a - nI b = nI (a - b) := by
  have e : nI a = nI (a - b) + nI b := by rw [px_N_add]; congr 1; omega
  rw [e]; simp
theorem px_N_clamp {a : Nat} (ha : a < 2147483648) : (nI a).toNatClampNeg = a := by
  unfold Int32.toNatClampNeg; rw [px_N_toInt ha]; rfl
theorem px_N_of {x : Int32} (h : 0 ≤ x.toInt) : x = nI x.toInt.toNat := by
  rw [← Int32.toInt_inj, px_N_toInt (by have := Int32.toInt_lt x; omega)]; omega
theorem px_lit0 : (0 : Int32) = nI 0 := rfl
theorem px_lit1 : (1 : Int32) = nI 1 := rfl
theorem px_lit60 : (60 : Int32) = nI 60 := rfl
theorem px_S_coder (k : Nat) : F_String_coder k = some 0 := by
  unfold F_String_coder
  rw [if_neg (by decide)]
theorem px_S_length (k : Nat) : F_String_length k = some (Int32.ofNat (zlen.getD k 0)) := by
  unfold F_String_length
  rw [px_S_coder]
  simp only [Option.bind_some]
  rw [sb_shr0]
theorem px_S_isLatin1 (k : Nat) : F_String_isLatin1 k = some 1 := by
  unfold F_String_isLatin1
  rw [if_neg (by decide), if_pos rfl]
theorem px_S_can (x : Int32) : F_StringLatin1_canEncode x = some (if x < 0 ∨ 255 < x then 0 else 1) := by
  unfold F_StringLatin1_canEncode
  by_cases a : x < 0
  · rw [if_pos a, if_pos (Or.inl a)]
  · rw [if_neg a]
    by_cases b : (255 : Int32) < x
    · rw [if_pos b, if_pos (Or.inr b)]
    · rw [if_neg b, if_neg (fun q => q.elim a b)]
/-- the first place of y in a list, from i on; -1: none -/
def px_ixl : List Int32 → Int32 → Nat → Int32
  | [], _, _ => -1
  | b :: t, y, i => if b = y then nI i else px_ixl t y (i + 1)
theorem px_wgd_in {α : Type} {j n : Nat} {k : Option α} (h : j < n) (hn : n < 2147483648) : wgd (nI j) n k = k := by
  unfold wgd
  rw [if_neg]
  rw [px_lit0, px_N_lt (by omega) (by omega), px_N_clamp (by omega)]
  omega
theorem px_S_loop {k : Nat} {L : List Int32} (hL : zbyt.getD k [] = L) (hn : zlen.getD k 0 = L.length) (hs : L.length ≤ 100) : ∀ (t : List Int32) (f i : Nat) (y : Int32), L.drop i = t → t.length < f → i ≤ L.length → B_StringLatin1_indexOfChar_7 k f (nI L.length) y (nI i) = some (px_ixl t y i) := by
  intro t
  induction t with
  | nil =>
    intro f i y e hf hi
    obtain ⟨f, rfl⟩ : ∃ g, f = g + 1 := ⟨f - 1, by omega⟩
    have hi2 := congrArg List.length e
    rw [List.length_drop] at hi2
    have hi3 : L.length - i = 0 := hi2
    unfold B_StringLatin1_indexOfChar_7
    rw [if_pos (by rw [px_N_le (by omega) (by omega)]; omega)]
    rfl
  | cons b t ih =>
    intro f i y e hf hi
    obtain ⟨f, rfl⟩ : ∃ g, f = g + 1 := ⟨f - 1, by omega⟩
    have hi2 := congrArg List.length e
    rw [List.length_drop, List.length_cons] at hi2
    have hg : L.getD i 0 = b := by
      have := congrArg (fun l => l[0]?) e
      simp only [List.getElem?_drop, Nat.add_zero] at this
      rw [List.getD_eq_getElem?_getD, this]
      rfl
    unfold B_StringLatin1_indexOfChar_7
    rw [if_neg (by rw [px_N_le (by omega) (by omega)]; omega), hn, px_wgd_in (by omega) (by omega), hL, px_N_clamp (by omega), hg, px_lit1, px_N_add]
    have e2 : L.drop (i + 1) = t := by rw [← List.drop_drop, e]; rfl
    rw [ih f (i + 1) y e2 (by simp at hf; omega) (by omega)]
    unfold px_ixl
    by_cases c : b = y
    · rw [if_pos c, if_pos c]
    · rw [if_neg c, if_neg c]
      cases t <;> rfl
theorem px_S_indexOf {k : Nat} {L : List Int32} (hL : zbyt.getD k [] = L) (hn : zlen.getD k 0 = L.length) (hs : L.length ≤ 100) (h0 : 0 < L.length) (x : Int32) : F_String_indexOf k x = some (if x < 0 ∨ 255 < x then -1 else px_ixl L (x.toInt8.toInt32) 0) := by
  unfold F_String_indexOf F_String_indexOf2
  rw [px_S_isLatin1]
  simp only [Option.bind_some]
  rw [if_neg (by decide), px_S_length]
  simp only [Option.bind_some]
  unfold F_StringLatin1_indexOf F_StringLatin1_indexOfChar
  rw [px_S_can]
  simp only [Option.bind_some]
  have e : Int32.ofNat (zlen.getD k 0) = nI L.length := by rw [hn]; rfl
  rw [e, ite_self, ite_self]
  by_cases c : x < 0 ∨ 255 < x
  · rw [if_pos c, if_pos c, if_pos rfl]
    rfl
  · rw [if_neg c, if_neg c, if_neg (by decide)]
    have c2 : (0 : Int32) < nI L.length := by rw [px_lit0, px_N_lt (by omega) (by omega)]; exact h0
    rw [if_pos c2]
    have h := px_S_loop hL hn hs L fu 0 (x.toInt8.toInt32) rfl (by show _ < 1000; omega) (by omega)
    have h' : B_StringLatin1_indexOfChar_7 k fu (nI L.length) (x.toInt8.toInt32) 0 = some (px_ixl L (x.toInt8.toInt32) 0) := h
    rw [h']
    rfl
def px_ix0 (x : Int32) : Int32 := if x < 0 ∨ 255 < x then -1 else px_ixl [57, 90, 42, 43, 45, 66, 48, 47, 44, 46, 86, 88] (x.toInt8.toInt32) 0
def px_ix1 (x : Int32) : Int32 := if x < 0 ∨ 255 < x then -1 else px_ixl [42, 43, 45, 44, 46, 47, 40, 41] (x.toInt8.toInt32) 0
theorem px_S_ix0 (x : Int32) : F_String_indexOf 0 x = some (px_ix0 x) := px_S_indexOf rfl rfl (by decide) (by decide) x
theorem px_S_ix1 (x : Int32) : F_String_indexOf 1 x = some (px_ix1 x) := px_S_indexOf rfl rfl (by decide) (by decide) x
theorem px_wgz0 {α : Type} {k : Option α} : wgz 0 k = k := rfl
theorem px_wgz1 {α : Type} {k : Option α} : wgz 1 k = k := rfl
/-- what a line holds -/
def px_lineL (n : Nat) (row : Nat → Int32) : List Int32 := (List.range n).map row
theorem px_lineL_len {n : Nat} {row : Nat → Int32} : (px_lineL n row).length = n := by simp [px_lineL]
theorem px_lineL_getD {n : Nat} {row : Nat → Int32} {j : Nat} {d : Int32} : (px_lineL n row).getD j d = if j < n then row j else d := by
  unfold px_lineL
  by_cases h : j < n
  · simp [h]
  · simp [h]
theorem px_L_char {n j : Nat} {row : Nat → Int32} (hn : n ≤ 60) (hj : j < 2147483648) : F_Line_character (nI n) row (nI j) = some ((px_lineL n row).getD j 0) := by
  unfold F_Line_character
  rw [if_neg (by rw [px_lit0, px_N_lt (by omega) (by omega)]; omega), px_lineL_getD]
  by_cases h : j < n
  · rw [if_neg (by rw [px_N_le (by omega) (by omega)]; omega), if_neg (by rw [px_lit60, px_N_le (by omega) (by omega)]; omega), px_wgd_in (by omega) (by omega), px_N_clamp hj, if_pos h]
  · rw [if_pos (by rw [px_N_le (by omega) (by omega)]; omega), if_neg h]
def px_great (c : Int32) : Int32 := if c < 97 then c else if 122 < c then c else (c - 97) + 65
theorem px_E_toGreat (c : Int32) : F_EditMoves_toGreat c = some (px_great c) := by
  unfold F_EditMoves_toGreat px_great
  split
  · rfl
  · split <;> rfl
def px_isD (c : Int32) : Bool := !(decide (c < 48)) && !(decide (57 < c))
theorem px_E_isDigit (c : Int32) : F_EditMoves_isDigit c = some (if px_isD c then 1 else 0) := by
  unfold F_EditMoves_isDigit px_isD
  by_cases h1 : c < 48
  · simp [h1]
  · by_cases h2 : (57 : Int32) < c
    · simp [h1, h2]
    · simp [h1, h2]
def px_isOne (c : Int32) : Bool := decide (0 ≤ px_ix0 ((c.toUInt32 % 65536).toInt32))
/-- the sign that stands ahead, how many characters it takes -/
def px_tSign (cur : Int32) (xs : List Int32) : Int32 × Nat :=
  let c := xs.getD 0 0
  let g := px_great c
  let x := px_great (xs.getD 1 0)
  if c = cur ∨ px_isOne g = true then (g, 1)
  else if (g = 67 ∧ x = 82) ∨ (g = 68 ∧ x = 66) then (g, 2)
  else (0, 1)
theorem px_drop_getD {L : List Int32} {j k : Nat} {d : Int32} : (L.drop j).getD k d = L.getD (j + k) d := by
  simp [List.getD_eq_getElem?_getD]
theorem px_notlt_le {a b : Int32} : ¬ a < b ↔ b ≤ a := by
  rw [Int32.lt_iff_toInt_lt, Int32.le_iff_toInt_le]; omega
theorem px_P_takeSign {n j : Nat} {row : Nat → Int32} {cur : Int32} (hn : n ≤ 60) (hj : j < 1000) :
    F_Picture_takeSign (nI n) row (nI j) cur = some ((px_tSign cur ((px_lineL n row).drop j)).1, nI (j + (px_tSign cur ((px_lineL n row).drop j)).2)) := by
  unfold F_Picture_takeSign px_tSign
  simp only [px_lit1, px_N_add]
  rw [px_L_char hn (by omega), px_L_char hn (by omega)]
  simp only [Option.bind_some, px_E_toGreat, px_drop_getD, Nat.add_zero, px_S_ix0]
  generalize (px_lineL n row).getD j 0 = c
  generalize (px_lineL n row).getD (j + 1) 0 = d
  by_cases h1 : c = cur
  · simp [h1]
  · rw [if_neg h1]
    by_cases h2 : px_ix0 (((px_great c).toUInt32 % 65536).toInt32) < 0
    · have h3 : px_isOne (px_great c) = false := by
        unfold px_isOne; rw [decide_eq_false_iff_not, ← px_notlt_le]; simpa using h2
      rw [if_pos h2]
      simp only [h1, h3, B_Picture_takeSign_87, B_Picture_takeSign_73, px_lit1, px_N_add, false_or, Bool.false_eq_true, if_false]
      by_cases a1 : px_great c = 67 <;> by_cases a2 : px_great c = 68 <;> by_cases a3 : px_great d = 82 <;> by_cases a4 : px_great d = 66 <;> simp_all
    · have h3 : px_isOne (px_great c) = true := by
        unfold px_isOne; rw [decide_eq_true_iff, ← px_notlt_le]; exact h2
      rw [if_neg h2]
      simp [h3]
def px_dv (c : Int32) : Nat := c.toInt.toNat - 48
theorem px_isD_spec {c : Int32} (h : px_isD c = true) : 48 ≤ c.toInt ∧ c.toInt ≤ 57 := by
  simp only [px_isD, Bool.and_eq_true, Bool.not_eq_true', decide_eq_false_iff_not] at h
  have h1 := h.1; have h2 := h.2
  rw [px_notlt_le, Int32.le_iff_toInt_le] at h1 h2
  exact ⟨h1, h2⟩
theorem px_dv_N {c : Int32} (h : px_isD c = true) : c - 48 = nI (px_dv c) ∧ px_dv c ≤ 9 := by
  obtain ⟨h1, h2⟩ := px_isD_spec h
  unfold px_dv
  refine ⟨?_, by omega⟩
  have e : (48 : Int32) = nI 48 := rfl
  conv => lhs; lhs; rw [px_N_of (by omega : 0 ≤ c.toInt)]
  rw [e, px_N_sub (by omega)]
/-- the count that stands ahead (1: none does; 0: what does is none), how many characters it takes -/
def px_tCount (xs : List Int32) : Nat × Nat :=
  if xs.getD 0 0 = 40 then
    if px_isD (xs.getD 1 0) = true then
      if xs.getD 2 0 = 41 then (px_dv (xs.getD 1 0), 3)
      else if px_isD (xs.getD 2 0) = true ∧ xs.getD 3 0 = 41 then (px_dv (xs.getD 1 0) * 10 + px_dv (xs.getD 2 0), 4)
      else (0, 0)
    else (0, 0)
  else (1, 0)
theorem px_tCount_le {xs : List Int32} : (px_tCount xs).1 ≤ 99 := by
  unfold px_tCount
  split
  · split
    · rename_i h
      have := (px_dv_N h).2
      split
      · show px_dv _ ≤ 99
        omega
      · split
        · rename_i h2
          have := (px_dv_N h2.1).2
          show px_dv _ * 10 + px_dv _ ≤ 99
          omega
        · simp
    · simp
  · simp
theorem px_lit2 : (2 : Int32) = nI 2 := rfl
theorem px_lit3 : (3 : Int32) = nI 3 := rfl
theorem px_lit4 : (4 : Int32) = nI 4 := rfl
theorem px_lit10 : (10 : Int32) = nI 10 := rfl
theorem px_P_takeCount {n j : Nat} {row : Nat → Int32} (hn : n ≤ 60) (hj : j < 1000) :
    F_Picture_takeCount (nI n) row (nI j) = some (nI (px_tCount ((px_lineL n row).drop j)).1, nI (j + (px_tCount ((px_lineL n row).drop j)).2)) := by
  unfold F_Picture_takeCount px_tCount
  simp only [px_lit1, px_lit2, px_lit3, px_lit4, px_N_add]
  rw [px_L_char hn (by omega), px_L_char hn (by omega), px_L_char hn (by omega), px_L_char hn (by omega)]
  simp only [Option.bind_some, px_E_isDigit, px_drop_getD, Nat.add_zero]
  generalize (px_lineL n row).getD j 0 = c
  generalize (px_lineL n row).getD (j + 1) 0 = d
  generalize (px_lineL n row).getD (j + 2) 0 = e
  generalize (px_lineL n row).getD (j + 3) 0 = f
  by_cases h0 : c = 40
  · rw [if_pos h0, if_pos h0]
    cases px_hd : px_isD d with
    | false => simp [px_lit0]
    | true =>
      obtain ⟨hd1, hd2⟩ := px_dv_N px_hd
      rw [if_neg (by simp)]
      by_cases h2 : e = 41
      · rw [if_pos h2]; simp [h2, hd1]
      · rw [if_neg h2]
        cases he : px_isD e with
        | false => simp [h2, px_lit0]
        | true =>
          obtain ⟨he1, he2⟩ := px_dv_N he
          by_cases h3 : f = 41
          · simp [h2, h3, hd1, he1, px_lit10, px_N_mul, px_N_add]
          · simp [h2, h3, px_lit0]
  · simp [h0]
abbrev px_Rn := Int32 × Nat
def px_toks (cur : Int32) : Nat → List Int32 → Option (List px_Rn)
  | 0, _ => some []
  | k + 1, xs =>
    if xs = [] then some []
    else if (px_tSign cur xs).1 = 0 ∨ (px_tCount (xs.drop (px_tSign cur xs).2)).1 = 0 then none
    else (px_toks cur k (xs.drop ((px_tSign cur xs).2 + (px_tCount (xs.drop (px_tSign cur xs).2)).2))).map (fun t => ((px_tSign cur xs).1, (px_tCount (xs.drop (px_tSign cur xs).2)).1) :: t)
def px_RunsAre (sg ct : Nat → Int32) (l : List px_Rn) : Prop := ∀ (k : Nat) (x : px_Rn), l[k]? = some x → sg k = x.1 ∧ ct k = nI x.2
theorem px_RunsAre.snoc {sg ct : Nat → Int32} {l : List px_Rn} {i : Nat} {x : px_Rn} (h : px_RunsAre sg ct l) (hi : l.length = i) : px_RunsAre (upd sg i x.1) (upd ct i (nI x.2)) (l ++ [x]) := by
  intro k y hk
  unfold upd
  by_cases e : k = i
  · subst e
    rw [List.getElem?_append_right (by omega)] at hk
    simp [hi] at hk
    subst hk
    simp
  · rw [if_neg e, if_neg e]
    apply h k y
    by_cases h2 : k < i
    · rwa [List.getElem?_append_left (by omega)] at hk
    · rw [List.getElem?_eq_none (by simp; omega)] at hk
      cases hk
theorem px_tSign_le {cur : Int32} {xs : List Int32} : (px_tSign cur xs).2 ≤ 2 := by
  unfold px_tSign
  simp only
  split
  · simp
  · split <;> simp
theorem px_tCount_used {xs : List Int32} : (px_tCount xs).2 ≤ 4 := by
  unfold px_tCount
  split
  · split
    · split
      · simp
      · split <;> simp
    · simp
  · simp
theorem px_P_split_loop {n : Nat} {row : Nat → Int32} {cur : Int32} (hn : n ≤ 60) : ∀ (k f i j : Nat) (sg ct : Nat → Int32) (pre : List px_Rn), k + i = 60 → k < f → j ≤ 6 * i → pre.length = i → px_RunsAre sg ct pre →
    match px_toks cur k ((px_lineL n row).drop j) with
    | none => ∃ a b c d, B_Picture_split_2 (nI n) row f (nI j) (nI i) sg ct cur (nI i) = some (0, a, b, c, d)
    | some rs => ∃ a c d, B_Picture_split_2 (nI n) row f (nI j) (nI i) sg ct cur (nI i) = some (if i + rs.length = 0 then 0 else 1, a, nI (i + rs.length), c, d) ∧ px_RunsAre c d (pre ++ rs) := by
  intro k
  induction k with
  | zero =>
    intro f i j sg ct pre hk hf hj hp hR
    obtain ⟨f, rfl⟩ : ∃ g, f = g + 1 := ⟨f - 1, by omega⟩
    simp only [px_toks]
    refine ⟨nI j, sg, ct, ?_, by simpa using hR⟩
    unfold B_Picture_split_2
    rw [if_pos (by rw [px_lit60, px_N_le (by omega) (by omega)]; omega)]
    unfold B_Picture_split_78
    rw [if_neg (by rw [px_lit0, px_N_le (by omega) (by omega)]; omega), if_neg (by simp; omega)]
    simp
  | succ k ih =>
    intro f i j sg ct pre hk hf hj hp hR
    obtain ⟨f, rfl⟩ : ∃ g, f = g + 1 := ⟨f - 1, by omega⟩
    simp only [px_toks]
    unfold B_Picture_split_2
    have c1 : ¬ (60 : Int32) ≤ nI i := by rw [px_lit60, px_N_le (by omega) (by omega)]; omega
    rw [if_neg c1]
    by_cases hjn : n ≤ j
    · have e : (px_lineL n row).drop j = [] := List.drop_eq_nil_of_le (by rw [px_lineL_len]; exact hjn)
      have c2 : nI n ≤ nI j := by rw [px_N_le (by omega) (by omega)]; omega
      rw [if_pos c2, if_pos e]
      refine ⟨nI j, sg, ct, ?_, by simpa using hR⟩
      unfold B_Picture_split_78
      by_cases h0 : i = 0
      · subst h0; simp [px_lit0]
      · rw [if_neg (by rw [px_lit0, px_N_le (by omega) (by omega)]; omega)]
        simp [h0]
    · have e : (px_lineL n row).drop j ≠ [] := by
        intro e
        have := congrArg List.length e
        rw [List.length_drop, px_lineL_len] at this
        simp at this; omega
      have c2 : ¬ nI n ≤ nI j := by rw [px_N_le (by omega) (by omega)]; omega
      rw [if_neg c2, if_neg e]
      rw [px_P_takeSign hn (by omega)]
      simp only [Option.bind_some]
      have u1 := @px_tSign_le cur ((px_lineL n row).drop j)
      rw [px_P_takeCount hn (by omega)]
      simp only [Option.bind_some]
      have e2 : (px_lineL n row).drop (j + (px_tSign cur ((px_lineL n row).drop j)).2) = ((px_lineL n row).drop j).drop (px_tSign cur ((px_lineL n row).drop j)).2 := by rw [List.drop_drop]
      rw [e2]
      have u2 := @px_tCount_used (((px_lineL n row).drop j).drop (px_tSign cur ((px_lineL n row).drop j)).2)
      have u3 := @px_tCount_le (((px_lineL n row).drop j).drop (px_tSign cur ((px_lineL n row).drop j)).2)
      have e3 : ((px_lineL n row).drop j).drop ((px_tSign cur ((px_lineL n row).drop j)).2 + (px_tCount (((px_lineL n row).drop j).drop (px_tSign cur ((px_lineL n row).drop j)).2)).2) = (px_lineL n row).drop (j + (px_tSign cur ((px_lineL n row).drop j)).2 + (px_tCount (((px_lineL n row).drop j).drop (px_tSign cur ((px_lineL n row).drop j)).2)).2) := by
        rw [List.drop_drop]; congr 1; omega
      rw [e3]
      generalize px_tSign cur ((px_lineL n row).drop j) = sg1 at *
      generalize px_tCount (((px_lineL n row).drop j).drop sg1.2) = ct1 at *
      by_cases z1 : sg1.1 = 0
      · have z0 : sg1.1 = 0 ∨ ct1.1 = 0 := Or.inl z1
        rw [if_pos z1, if_pos z0]
        exact ⟨_, _, _, _, rfl⟩
      · rw [if_neg z1]
        by_cases z2 : ct1.1 = 0
        · have z0 : sg1.1 = 0 ∨ ct1.1 = 0 := Or.inr z2
          have z4 : nI ct1.1 = 0 := by rw [z2]; rfl
          rw [if_pos z4, if_pos z0]
          exact ⟨_, _, _, _, rfl⟩
        · have z0 : ¬ (sg1.1 = 0 ∨ ct1.1 = 0) := by simp [z1, z2]
          have z4 : ¬ nI ct1.1 = 0 := by rw [px_lit0, px_N_eq (by omega) (by omega)]; exact z2
          rw [if_neg z4, if_neg z0]
          rw [px_wgd_in (by omega) (by omega), px_wgd_in (by omega) (by omega), px_N_clamp (by omega), px_lit1, px_N_add]
          have h := ih f (i + 1) (j + sg1.2 + ct1.2) (upd sg i sg1.1) (upd ct i (nI ct1.1)) (pre ++ [(sg1.1, ct1.1)]) (by omega) (by omega) (by omega) (by simp [hp]) (hR.snoc hp (x := (sg1.1, ct1.1)))
          cases ht : px_toks cur k ((px_lineL n row).drop (j + sg1.2 + ct1.2)) with
          | none =>
            rw [ht] at h
            simpa using h
          | some rs =>
            rw [ht] at h
            obtain ⟨a, c, d, h1, h2⟩ := h
            refine ⟨a, c, d, ?_, by simpa using h2⟩
            have e9 : i + 1 + rs.length = i + ((sg1.1, ct1.1) :: rs).length := by simp; omega
            rw [h1, e9]
            rfl

theorem px_toks_ok {cur : Int32} : ∀ (k : Nat) (xs : List Int32) (rs : List px_Rn), px_toks cur k xs = some rs → rs.length ≤ k ∧ ∀ x ∈ rs, x.1 ≠ 0 ∧ 1 ≤ x.2 ∧ x.2 ≤ 99 := by
  intro k
  induction k with
  | zero => intro xs rs h; simp [px_toks] at h; subst h; simp
  | succ k ih =>
    intro xs rs h
    simp only [px_toks] at h
    split at h
    · simp at h; subst h; simp
    · split at h
      · cases h
      · rename_i z
        obtain ⟨t, ht, rfl⟩ := Option.map_eq_some_iff.mp h
        obtain ⟨h1, h2⟩ := ih _ _ ht
        refine ⟨by simp; omega, ?_⟩
        intro x hx
        rcases List.mem_cons.mp hx with rfl | hx
        · have := @px_tCount_le (xs.drop (px_tSign cur xs).2)
          exact ⟨fun e => z (Or.inl e), Nat.one_le_iff_ne_zero.mpr (fun e => z (Or.inr e)), this⟩
        · exact h2 x hx
/-- what a picture's text is as runs -/
def px_runsOf (cur : Int32) (xs : List Int32) : Option (List px_Rn) := px_toks cur 60 xs
theorem px_P_split {n : Nat} {row : Nat → Int32} {cur : Int32} {sg ct : Nat → Int32} (hn : n ≤ 60) :
    match px_runsOf cur (px_lineL n row) with
    | none => ∃ a b c d, F_Picture_split (nI n) row 0 0 sg ct cur = some (0, a, b, c, d)
    | some rs => ∃ a c d, F_Picture_split (nI n) row 0 0 sg ct cur = some (if rs.length = 0 then 0 else 1, a, nI rs.length, c, d) ∧ px_RunsAre c d rs := by
  have h := px_P_split_loop (row := row) (cur := cur) hn 60 fu 0 0 sg ct [] rfl (by decide) (by omega) rfl (by intro k x h; simp at h)
  rw [List.drop_zero] at h
  unfold px_runsOf F_Picture_split
  cases ht : px_toks cur 60 (px_lineL n row) with
  | none => rw [ht] at h; exact h
  | some rs =>
    rw [ht] at h
    obtain ⟨a, c, d, h1, h2⟩ := h
    refine ⟨a, c, d, ?_, by simpa using h2⟩
    rw [Nat.zero_add] at h1
    exact h1
theorem px_lit18 : (18 : Int32) = nI 18 := rfl
theorem px_lit200 : (200 : Int32) = nI 200 := rfl
theorem px_Pn_sign {m j : Nat} {sg ct : Nat → Int32} {rs : List px_Rn} (hm : rs.length = m) (hm60 : m ≤ 60) (hR : px_RunsAre sg ct rs) (hj : j < 100000) : F_Picture_sign (nI m) sg (nI j) = some ((rs.drop j).headD (0, 0)).1 := by
  unfold F_Picture_sign
  rw [if_neg (by rw [px_lit0, px_N_lt (by omega) (by omega)]; omega)]
  by_cases h : j < m
  · have e : rs[j]? = some rs[j] := List.getElem?_eq_getElem (by omega)
    have e2 := (hR j _ e).1
    rw [if_neg (by rw [px_N_le (by omega) (by omega)]; omega), if_neg (by rw [px_lit60, px_N_le (by omega) (by omega)]; omega), px_wgd_in (by omega) (by omega), px_N_clamp (by omega), e2, List.drop_eq_getElem_cons (by omega)]
    rfl
  · rw [if_pos (by rw [px_N_le (by omega) (by omega)]; omega), List.drop_eq_nil_of_le (by omega)]
    rfl
theorem px_Pn_count {m j : Nat} {sg ct : Nat → Int32} {rs : List px_Rn} (hm : rs.length = m) (hm60 : m ≤ 60) (hR : px_RunsAre sg ct rs) (hj : j < 100000) : F_Picture_count (nI m) ct (nI j) = some (nI ((rs.drop j).headD (0, 0)).2) := by
  unfold F_Picture_count
  rw [if_neg (by rw [px_lit0, px_N_lt (by omega) (by omega)]; omega)]
  by_cases h : j < m
  · have e : rs[j]? = some rs[j] := List.getElem?_eq_getElem (by omega)
    have e2 := (hR j _ e).2
    rw [if_neg (by rw [px_N_le (by omega) (by omega)]; omega), if_neg (by rw [px_lit60, px_N_le (by omega) (by omega)]; omega), px_wgd_in (by omega) (by omega), px_N_clamp (by omega), e2, List.drop_eq_getElem_cons (by omega)]
    rfl
  · rw [if_pos (by rw [px_N_le (by omega) (by omega)]; omega), List.drop_eq_nil_of_le (by omega)]
    rfl
def px_isI (s : Int32) : Bool := s == 66 || s == 48 || s == 47 || s == 44
theorem px_Pn_isInsertion (s : Int32) : F_Picture_isInsertion s = some (if px_isI s then 1 else 0) := by
  unfold F_Picture_isInsertion px_isI
  by_cases a : s = 66 <;> by_cases b : s = 48 <;> by_cases c : s = 47 <;> by_cases d : s = 44 <;> simp [a, b, c, d]
def px_wid (s : Int32) : Nat := if s = 86 then 0 else if s = 67 ∨ s = 68 then 2 else 1
theorem px_Pn_width (s : Int32) : F_Picture_width s = some (nI (px_wid s)) := by
  unfold F_Picture_width px_wid
  by_cases a : s = 86 <;> by_cases b : s = 67 <;> by_cases c : s = 68 <;> simp [a, b, c, px_lit0, px_lit1, px_lit2]
def px_plc : List px_Rn → Nat
  | [] => 0
  | x :: t => x.2 * px_wid x.1 + px_plc t
theorem px_Pn_places_loop {m : Nat} {sg ct : Nat → Int32} {rs : List px_Rn} (hm : rs.length = m) (hm60 : m ≤ 60) (hR : px_RunsAre sg ct rs) : ∀ (t : List px_Rn) (f i a : Nat), rs.drop i = t → t.length < f → i ≤ m → B_Picture_countPlaces_4 (nI m) sg ct f (nI a) (nI i) = some (nI (a + px_plc t)) := by
  intro t
  induction t with
  | nil =>
    intro f i a e hf hi
    obtain ⟨f, rfl⟩ : ∃ g, f = g + 1 := ⟨f - 1, by omega⟩
    have : i = m := by
      have := congrArg List.length e
      rw [List.length_drop] at this; simp at this; omega
    unfold B_Picture_countPlaces_4
    rw [if_pos (by rw [px_N_le (by omega) (by omega)]; omega)]
    simp [px_plc]
  | cons x t ih =>
    intro f i a e hf hi
    obtain ⟨f, rfl⟩ : ∃ g, f = g + 1 := ⟨f - 1, by omega⟩
    have hl : i < m := by
      have := congrArg List.length e
      rw [List.length_drop] at this; simp at this; omega
    unfold B_Picture_countPlaces_4
    rw [if_neg (by rw [px_N_le (by omega) (by omega)]; omega), px_Pn_count hm hm60 hR (by omega), px_Pn_sign hm hm60 hR (by omega), e]
    simp only [Option.bind_some, List.headD_cons, px_Pn_width, px_N_mul, px_N_add, px_lit1]
    have e2 : rs.drop (i + 1) = t := by rw [← List.drop_drop, e]; rfl
    rw [ih f (i + 1) _ e2 (by simp at hf; omega) (by omega), px_plc]
    congr 2; omega
theorem px_Pn_places {m : Nat} {sg ct : Nat → Int32} {rs : List px_Rn} (hm : rs.length = m) (hm60 : m ≤ 60) (hR : px_RunsAre sg ct rs) : F_Picture_countPlaces (nI m) sg ct = some (nI (px_plc rs)) := by
  unfold F_Picture_countPlaces
  have h := px_Pn_places_loop hm hm60 hR rs fu 0 0 rfl (by rw [hm]; show m < 1000; omega) (by omega)
  rw [Nat.zero_add] at h
  exact h
def px_isTx : Bool → List px_Rn → Bool
  | b, [] => b
  | b, x :: t => if x.1 = 88 then px_isTx true t else if x.1 = 44 ∨ px_isI x.1 = false then false else px_isTx b t
theorem px_Pn_text_loop {m : Nat} {sg ct : Nat → Int32} {rs : List px_Rn} (hm : rs.length = m) (hm60 : m ≤ 60) (hR : px_RunsAre sg ct rs) : ∀ (t : List px_Rn) (f i : Nat) (b : Bool), rs.drop i = t → t.length < f → i ≤ m → B_Picture_isOfText_4 (nI m) sg f (if b then 1 else 0) (nI i) = some (if px_isTx b t then 1 else 0) := by
  intro t
  induction t with
  | nil =>
    intro f i b e hf hi
    obtain ⟨f, rfl⟩ : ∃ g, f = g + 1 := ⟨f - 1, by omega⟩
    have : i = m := by
      have := congrArg List.length e
      rw [List.length_drop] at this; simp at this; omega
    unfold B_Picture_isOfText_4
    rw [if_pos (by rw [px_N_le (by omega) (by omega)]; omega)]
    cases b <;> rfl
  | cons x t ih =>
    intro f i b e hf hi
    obtain ⟨f, rfl⟩ : ∃ g, f = g + 1 := ⟨f - 1, by omega⟩
    have hl : i < m := by
      have := congrArg List.length e
      rw [List.length_drop] at this; simp at this; omega
    have e2 : rs.drop (i + 1) = t := by rw [← List.drop_drop, e]; rfl
    unfold B_Picture_isOfText_4
    rw [if_neg (by rw [px_N_le (by omega) (by omega)]; omega), px_Pn_sign hm hm60 hR (by omega), e]
    simp only [Option.bind_some, List.headD_cons, px_Pn_isInsertion]
    have i1 := ih f (i + 1) true e2 (by simp at hf; omega) (by omega)
    have i2 := ih f (i + 1) b e2 (by simp at hf; omega) (by omega)
    rw [← px_N_add] at i1 i2
    by_cases h1 : x.1 = 88
    · have e9 : px_isTx b (x :: t) = px_isTx true t := by simp [px_isTx, h1]
      rw [if_pos h1, e9]; exact i1
    · rw [if_neg h1]
      by_cases h2 : x.1 = 44
      · have e9 : px_isTx b (x :: t) = false := by simp [px_isTx, h2]
        rw [if_pos h2, e9]; rfl
      · rw [if_neg h2]
        cases h3 : px_isI x.1 with
        | false =>
          have e9 : px_isTx b (x :: t) = false := by simp [px_isTx, h1, h3]
          rw [e9]; rfl
        | true =>
          have e9 : px_isTx b (x :: t) = px_isTx b t := by simp [px_isTx, h1, h2, h3]
          rw [e9]; exact i2
theorem px_Pn_text {m : Nat} {sg ct : Nat → Int32} {rs : List px_Rn} (hm : rs.length = m) (hm60 : m ≤ 60) (hR : px_RunsAre sg ct rs) : F_Picture_isOfText (nI m) sg = some (if px_isTx false rs then 1 else 0) := by
  unfold F_Picture_isOfText
  exact px_Pn_text_loop hm hm60 hR rs fu 0 false rfl (by rw [hm]; show m < 1000; omega) (by omega)
