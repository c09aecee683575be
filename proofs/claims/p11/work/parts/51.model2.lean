/-! THE REFERENCE, PURE: main, run, pass, isText, width over its flat row. -/
abbrev mx_RY (m : Nat) (row : Nat → Int32) (ys : List Int32) : Prop := ys.length = m ∧ m ≤ 1320 ∧ mx_RowIs row ys
def mx_c (m : Nat) (t : List Int32) : Int32 := nI (m - t.length)
def mx_hd (t : List Int32) : Int32 := t.headD (-1)
theorem mx_tl {x : Int32} {t ys : List Int32} (h : (x :: t) <:+ ys) : t <:+ ys := (List.suffix_cons x t).trans h
theorem mx_step {m : Nat} {x : Int32} {t ys : List Int32} (hm : ys.length = m) (h : (x :: t) <:+ ys) : mx_c m (x :: t) + 1 = mx_c m t := by
  unfold mx_c
  have := h.length_le
  rw [px_lit1, px_N_add]
  congr 1
  simp at this ⊢
  omega
theorem mx_here {m : Nat} {row : Nat → Int32} {ys t : List Int32} {x : Int32} (h : mx_RY m row ys) (hs : (x :: t) <:+ ys) : row (m - (x :: t).length) = x := by
  apply h.2.2
  have e := (List.suffix_iff_eq_drop.mp hs).symm
  rw [h.1] at e
  have := congrArg (fun l => l[0]?) e
  simpa [List.getElem?_drop] using this
theorem mx_signOf {m : Nat} {row : Nat → Int32} {ys t : List Int32} (h : mx_RY m row ys) (hs : t <:+ ys) : F_EditMovesModel_signOf (nI m) row (mx_c m t) = some (mx_hd t) := by
  unfold F_EditMovesModel_signOf
  have hm := h.2.1
  have hl := hs.length_le
  rw [h.1] at hl
  cases t with
  | nil =>
    rw [if_pos (by unfold mx_c; rw [px_N_le (by omega) (by simp; omega)]; simp)]
    rfl
  | cons x t =>
    have hl0 : 1 ≤ (x :: t).length := by simp
    have e := mx_here h hs
    unfold mx_c
    rw [if_neg (by rw [px_N_le (by omega) (by omega)]; omega), px_wgd_in (by omega) (by omega), px_N_clamp (by omega), e]
    rfl
theorem mx_F_ins (s : Int32) : F_EditMovesModel_isInsertion s = some (if px_isI s then 1 else 0) := by
  unfold F_EditMovesModel_isInsertion px_isI
  by_cases a : s = 66 <;> by_cases b : s = 48 <;> by_cases c : s = 47 <;> by_cases d : s = 44 <;> simp [a, b, c, d]
def mx_sign (s : Int32) : Bool := s == 43 || s == 45
theorem mx_F_isSign (s : Int32) : F_EditMovesModel_isSign s = some (px_bz (mx_sign s)) := by
  unfold F_EditMovesModel_isSign mx_sign px_bz
  by_cases a : s = 43 <;> by_cases b : s = 45 <;> simp [a, b]
def mx_upc : List Int32 → List Int32
  | [] => []
  | x :: t => if px_isI x = true then mx_upc t else x :: t
theorem mx_upc_suf {t : List Int32} : mx_upc t <:+ t := by
  induction t with
  | nil => exact List.suffix_refl _
  | cons x t ih =>
    unfold mx_upc
    split
    · exact ih.trans (List.suffix_cons x t)
    · exact List.suffix_refl _
theorem mx_upc_upc {t : List Int32} : mx_upc (mx_upc t) = mx_upc t := by
  induction t with
  | nil => rfl
  | cons x t ih =>
    by_cases c : px_isI x = true
    · have e : mx_upc (x :: t) = mx_upc t := by rw [mx_upc, if_pos c]
      rw [e]; exact ih
    · have e : mx_upc (x :: t) = x :: t := by rw [mx_upc, if_neg c]
      rw [e, e]
theorem mx_main_loop {m : Nat} {row : Nat → Int32} {ys : List Int32} (h : mx_RY m row ys) : ∀ (t : List Int32) (f : Nat), t <:+ ys → t.length < f → B_EditMovesModel_main_2 (nI m) row f (mx_c m t) = some (mx_c m (mx_upc t)) := by
  intro t
  induction t with
  | nil =>
    intro f hs hf
    obtain ⟨f, rfl⟩ : ∃ g, f = g + 1 := ⟨f - 1, by omega⟩
    have hm := h.2.1
    unfold B_EditMovesModel_main_2
    rw [if_pos (by unfold mx_c; rw [px_N_le (by omega) (by simp; omega)]; simp)]
    rfl
  | cons x t ih =>
    intro f hs hf
    obtain ⟨f, rfl⟩ : ∃ g, f = g + 1 := ⟨f - 1, by omega⟩
    have hm := h.2.1
    have hl := hs.length_le
    rw [h.1] at hl
    have hl0 : 1 ≤ (x :: t).length := by simp
    have e := mx_here h hs
    have e3 := mx_step h.1 hs
    have c1 : ¬ nI m ≤ mx_c m (x :: t) := by unfold mx_c; rw [px_N_le (by omega) (by omega)]; omega
    have c3 : (mx_c m (x :: t)).toNatClampNeg = m - (x :: t).length := by unfold mx_c; rw [px_N_clamp (by omega)]
    have c4 : ∀ k : Option Int32, wgd (mx_c m (x :: t)) 1400 k = k := by intro k; unfold mx_c; rw [px_wgd_in (by omega) (by omega)]
    unfold B_EditMovesModel_main_2
    rw [if_neg c1, c4, c3, e, mx_F_ins, e3]
    simp only [Option.bind_some]
    unfold mx_upc
    cases hi : px_isI x with
    | false => simp
    | true => simpa using ih f (mx_tl hs) (by simp at hf; omega)
theorem mx_main {m : Nat} {row : Nat → Int32} {ys t : List Int32} (h : mx_RY m row ys) (hs : t <:+ ys) : F_EditMovesModel_main (nI m) row (mx_c m t) = some (mx_c m (mx_upc t)) := by
  have hl := hs.length_le
  have h1 := h.1
  have h2 := h.2.1
  exact mx_main_loop h t fv hs (by show _ < 4000; omega)
/-- how many of s from here on, insertions passed; what is left -/
def mx_all (s : Int32) : List Int32 → Nat × List Int32
  | [] => (0, [])
  | x :: t => if x = s then ((mx_all s t).1 + 1, (mx_all s t).2) else if px_isI x = true then mx_all s t else (0, x :: t)
theorem mx_all_upc {s : Int32} (hs : px_isI s = false) {t : List Int32} : mx_all s (mx_upc t) = mx_all s t := by
  induction t with
  | nil => rfl
  | cons x t ih =>
    by_cases c : px_isI x = true
    · have e : mx_upc (x :: t) = mx_upc t := by rw [mx_upc, if_pos c]
      have ne : ¬ x = s := fun q => by rw [q, hs] at c; cases c
      rw [e, ih]
      conv => rhs; rw [mx_all, if_neg ne, if_pos c]
    · have e : mx_upc (x :: t) = x :: t := by rw [mx_upc, if_neg c]
      rw [e]
theorem mx_all_suf {s : Int32} {t : List Int32} : (mx_all s t).2 <:+ t := by
  induction t with
  | nil => exact List.suffix_refl _
  | cons x t ih =>
    unfold mx_all
    split
    · exact ih.trans (List.suffix_cons x t)
    · split
      · exact ih.trans (List.suffix_cons x t)
      · exact List.suffix_refl _
theorem mx_all_norm {s : Int32} {t : List Int32} : mx_upc (mx_all s t).2 = (mx_all s t).2 := by
  induction t with
  | nil => rfl
  | cons x t ih =>
    unfold mx_all
    by_cases a : x = s
    · rw [if_pos a]; exact ih
    · rw [if_neg a]
      by_cases b : px_isI x = true
      · rw [if_pos b]; exact ih
      · rw [if_neg b]
        show mx_upc (x :: t) = x :: t
        rw [mx_upc, if_neg b]
theorem mx_all_le {s : Int32} {t : List Int32} : (mx_all s t).1 + (mx_all s t).2.length ≤ t.length := by
  induction t with
  | nil => simp [mx_all]
  | cons x t ih =>
    unfold mx_all
    by_cases a : x = s
    · rw [if_pos a]; simp; omega
    · rw [if_neg a]
      by_cases b : px_isI x = true
      · rw [if_pos b]; simp; omega
      · rw [if_neg b]; simp
theorem mx_run_loop {m : Nat} {row : Nat → Int32} {ys : List Int32} (h : mx_RY m row ys) {s : Int32} (hi : px_isI s = false) (h1 : s ≠ -1) : ∀ (n : Nat) (t : List Int32) (f a : Nat), t.length ≤ n → t <:+ ys → mx_upc t = t → n < f → B_EditMovesModel_run_5 (nI m) row f s (nI a) (mx_c m t) = some (nI (a + (mx_all s t).1)) := by
  intro n
  induction n with
  | zero =>
    intro t f a hn hs ht hf
    obtain ⟨f, rfl⟩ : ∃ g, f = g + 1 := ⟨f - 1, by omega⟩
    have : t = [] := List.length_eq_zero_iff.mp (by omega)
    subst this
    unfold B_EditMovesModel_run_5
    rw [mx_signOf h hs]
    simp only [Option.bind_some]
    rw [if_neg (fun q => h1 q.symm)]
    simp [mx_all]
  | succ n ih =>
    intro t f a hn hs ht hf
    obtain ⟨f, rfl⟩ : ∃ g, f = g + 1 := ⟨f - 1, by omega⟩
    unfold B_EditMovesModel_run_5
    rw [mx_signOf h hs]
    simp only [Option.bind_some]
    cases t with
    | nil =>
      rw [if_neg (fun q => h1 q.symm)]
      simp [mx_all]
    | cons x t =>
      have e4 : mx_hd (x :: t) = x := rfl
      rw [e4]
      by_cases c : x = s
      · rw [if_pos c, mx_step h.1 hs, mx_main h (mx_tl hs)]
        simp only [Option.bind_some]
        have hle := (mx_upc_suf (t := t)).length_le
        have hi2 := ih (mx_upc t) f (a + 1) (by simp at hn; omega) (mx_upc_suf.trans (mx_tl hs)) mx_upc_upc (by omega)
        rw [mx_all_upc hi] at hi2
        rw [px_lit1, px_N_add, hi2, mx_all, if_pos c]
        congr 2
        show a + 1 + (mx_all s t).1 = a + ((mx_all s t).1 + 1)
        omega
      · have hx : ¬ px_isI x = true := by
          intro q
          rw [mx_upc, if_pos q] at ht
          have := (mx_upc_suf (t := t)).length_le
          rw [ht] at this
          simp at this
          omega
        rw [if_neg c, mx_all, if_neg c, if_neg hx]
        rfl
theorem mx_run {m : Nat} {row : Nat → Int32} {ys t : List Int32} (h : mx_RY m row ys) {s : Int32} (hi : px_isI s = false) (h1 : s ≠ -1) (hs : t <:+ ys) (ht : mx_upc t = t) : F_EditMovesModel_run (nI m) row (mx_c m t) s = some (nI (mx_all s t).1) := by
  have hl := hs.length_le
  have h3 := h.1
  have h2 := h.2.1
  unfold F_EditMovesModel_run
  have := mx_run_loop h hi h1 t.length t fv 0 (Nat.le_refl _) hs ht (by show _ < 4000; omega)
  rw [Nat.zero_add] at this
  exact this
theorem mx_pass_loop {m : Nat} {row : Nat → Int32} {ys : List Int32} (h : mx_RY m row ys) {s : Int32} (hi : px_isI s = false) : ∀ (r : Nat) (t : List Int32) (f j c : Nat), (mx_all s t).1 = r → t <:+ ys → mx_upc t = t → r + j = c → c < 100000 → r < f → B_EditMovesModel_pass_5 (nI m) row f (nI c) (mx_c m t) (nI j) = some (mx_c m (mx_all s t).2) := by
  intro r
  induction r with
  | zero =>
    intro t f j c hr hs ht hj hc hf
    obtain ⟨f, rfl⟩ : ∃ g, f = g + 1 := ⟨f - 1, by omega⟩
    unfold B_EditMovesModel_pass_5
    rw [if_pos (by rw [px_N_le (by omega) (by omega)]; omega)]
    cases t with
    | nil => rfl
    | cons x t =>
      unfold mx_all at hr ⊢
      by_cases a : x = s
      · rw [if_pos a] at hr; simp at hr
      · rw [if_neg a]
        have hx : ¬ px_isI x = true := by
          intro q
          rw [mx_upc, if_pos q] at ht
          have := (mx_upc_suf (t := t)).length_le
          rw [ht] at this
          simp at this
          omega
        rw [if_neg hx]
  | succ r ih =>
    intro t f j c hr hs ht hj hc hf
    obtain ⟨f, rfl⟩ : ∃ g, f = g + 1 := ⟨f - 1, by omega⟩
    unfold B_EditMovesModel_pass_5
    rw [if_neg (by rw [px_N_le (by omega) (by omega)]; omega)]
    cases t with
    | nil => simp [mx_all] at hr
    | cons x t =>
      have hx : ¬ px_isI x = true := by
        intro q
        rw [mx_upc, if_pos q] at ht
        have := (mx_upc_suf (t := t)).length_le
        rw [ht] at this
        simp at this
        omega
      by_cases a : x = s
      · rw [mx_step h.1 hs, mx_main h (mx_tl hs), px_lit1, px_N_add]
        simp only [Option.bind_some]
        rw [mx_all, if_pos a] at hr ⊢
        have hr2 : (mx_all s t).1 + 1 = r + 1 := hr
        have h9 := ih (mx_upc t) f (j + 1) c (by rw [mx_all_upc hi]; omega) (mx_upc_suf.trans (mx_tl hs)) mx_upc_upc (by omega) hc (by omega)
        rw [mx_all_upc hi] at h9
        exact h9
      · rw [mx_all, if_neg a, if_neg hx] at hr
        simp at hr
theorem mx_pass {m : Nat} {row : Nat → Int32} {ys t : List Int32} (h : mx_RY m row ys) {s : Int32} (hi : px_isI s = false) (hs : t <:+ ys) (ht : mx_upc t = t) : F_EditMovesModel_pass (nI m) row (mx_c m t) (nI (mx_all s t).1) = some (mx_c m (mx_all s t).2) := by
  have hl := hs.length_le
  have h3 := h.1
  have h2 := h.2.1
  have h4 := @mx_all_le s t
  exact mx_pass_loop h hi (mx_all s t).1 t fv 0 (mx_all s t).1 rfl hs ht rfl (by omega) (by show _ < 4000; omega)
theorem mx_pass1 {m : Nat} {row : Nat → Int32} {ys t : List Int32} {x : Int32} (h : mx_RY m row ys) (hs : (x :: t) <:+ ys) : F_EditMovesModel_pass (nI m) row (mx_c m (x :: t)) 1 = some (mx_c m (mx_upc t)) := by
  have e : F_EditMovesModel_pass (nI m) row (mx_c m (x :: t)) 1 = B_EditMovesModel_pass_5 (nI m) row (3998 + 1 + 1) 1 (mx_c m (x :: t)) 0 := rfl
  rw [e, B_EditMovesModel_pass_5]
  dsimp only
  rw [if_neg (by decide), mx_step h.1 hs, mx_main h (mx_tl hs)]
  simp only [Option.bind_some]
  rw [B_EditMovesModel_pass_5]
  dsimp only
  rw [if_pos (by decide)]
/-- a row of a text picture -/
def mx_tx (ys : List Int32) : Bool := ys.any (fun y => y == 88) && ys.all (fun y => y == 88 || y == 66 || y == 48 || y == 47)
theorem mx_text_loop {m : Nat} {row : Nat → Int32} {ys : List Int32} (h : mx_RY m row ys) : ∀ (t : List Int32) (f : Nat) (a b : Bool), t <:+ ys → t.length < f →
    B_EditMovesModel_isText_6 (nI m) row f (px_bz a) (px_bz b) (mx_c m t) = some (px_bz ((a || t.any (fun y => y == 88)) && (b && t.all (fun y => y == 88 || y == 66 || y == 48 || y == 47)))) := by
  intro t
  induction t with
  | nil =>
    intro f a b hs hf
    obtain ⟨f, rfl⟩ : ∃ g, f = g + 1 := ⟨f - 1, by omega⟩
    have hm := h.2.1
    unfold B_EditMovesModel_isText_6
    rw [if_pos (by unfold mx_c; rw [px_N_le (by omega) (by simp; omega)]; simp)]
    cases a <;> cases b <;> rfl
  | cons x t ih =>
    intro f a b hs hf
    obtain ⟨f, rfl⟩ : ∃ g, f = g + 1 := ⟨f - 1, by omega⟩
    have hm := h.2.1
    have hl := hs.length_le
    rw [h.1] at hl
    have hl0 : 1 ≤ (x :: t).length := by simp
    have e := mx_here h hs
    have e3 := mx_step h.1 hs
    have c1 : ¬ nI m ≤ mx_c m (x :: t) := by unfold mx_c; rw [px_N_le (by omega) (by omega)]; omega
    have c3 : (mx_c m (x :: t)).toNatClampNeg = m - (x :: t).length := by unfold mx_c; rw [px_N_clamp (by omega)]
    have c4 : ∀ k : Option Int32, wgd (mx_c m (x :: t)) 1400 k = k := by intro k; unfold mx_c; rw [px_wgd_in (by omega) (by omega)]
    have i0 := fun a b => ih f a b (mx_tl hs) (by simp at hf; omega)
    have itt := i0 true true
    have itf := i0 true false
    have ift := i0 false true
    have iff := i0 false false
    have q1 : px_bz true = 1 := rfl
    have q0 : px_bz false = 0 := rfl
    simp only [q1, q0] at itt itf ift iff
    unfold B_EditMovesModel_isText_6 B_EditMovesModel_isText_29 B_EditMovesModel_isText_34
    rw [if_neg c1]
    simp only [c4, c3, e, e3, itt, itf, ift, iff]
    rw [List.any_cons, List.all_cons]
    by_cases a1 : x = 88
    · cases a <;> cases b <;> simp [a1, px_bz]
    · by_cases a2 : x = 66
      · cases a <;> cases b <;> simp [a2, px_bz]
      · by_cases a3 : x = 48
        · cases a <;> cases b <;> simp [a3, px_bz]
        · by_cases a4 : x = 47
          · cases a <;> cases b <;> simp [a4, px_bz]
          · cases a <;> cases b <;> simp [a1, a2, a3, a4, px_bz]
theorem mx_isText {m : Nat} {row : Nat → Int32} {ys : List Int32} (h : mx_RY m row ys) : F_EditMovesModel_isText (nI m) row = some (px_bz (mx_tx ys)) := by
  have h3 := h.1
  have h2 := h.2.1
  have e0 : (0 : Int32) = mx_c m ys := by unfold mx_c; rw [h3]; simp [px_lit0]
  have := mx_text_loop h ys fv false true (List.suffix_refl _) (by show _ < 4000; omega)
  rw [← e0, Bool.false_or, Bool.true_and] at this
  exact this
def mx_wide (s : Int32) : Nat := if s = 86 then 0 else if s = 200 ∨ s = 201 then 2 else 1
theorem mx_F_wide (s : Int32) : F_EditMovesModel_wide s = some (nI (mx_wide s)) := by
  unfold F_EditMovesModel_wide mx_wide
  by_cases a : s = 86 <;> by_cases b : s = 200 <;> by_cases c : s = 201 <;> simp [a, b, c, px_lit0, px_lit1, px_lit2]
def mx_wid : List Int32 → Nat
  | [] => 0
  | x :: t => mx_wide x + mx_wid t
theorem mx_width_loop {m : Nat} {row : Nat → Int32} {ys : List Int32} (h : mx_RY m row ys) : ∀ (t : List Int32) (f a : Nat), t <:+ ys → t.length < f → B_EditMovesModel_width_4 (nI m) row f (nI a) (mx_c m t) = some (nI (a + mx_wid t)) := by
  intro t
  induction t with
  | nil =>
    intro f a hs hf
    obtain ⟨f, rfl⟩ : ∃ g, f = g + 1 := ⟨f - 1, by omega⟩
    have hm := h.2.1
    unfold B_EditMovesModel_width_4
    rw [if_pos (by unfold mx_c; rw [px_N_le (by omega) (by simp; omega)]; simp)]
    simp [mx_wid]
  | cons x t ih =>
    intro f a hs hf
    obtain ⟨f, rfl⟩ : ∃ g, f = g + 1 := ⟨f - 1, by omega⟩
    have hm := h.2.1
    have hl := hs.length_le
    rw [h.1] at hl
    have hl0 : 1 ≤ (x :: t).length := by simp
    have e := mx_here h hs
    have e3 := mx_step h.1 hs
    have c1 : ¬ nI m ≤ mx_c m (x :: t) := by unfold mx_c; rw [px_N_le (by omega) (by omega)]; omega
    have c3 : (mx_c m (x :: t)).toNatClampNeg = m - (x :: t).length := by unfold mx_c; rw [px_N_clamp (by omega)]
    have c4 : ∀ k : Option Int32, wgd (mx_c m (x :: t)) 1400 k = k := by intro k; unfold mx_c; rw [px_wgd_in (by omega) (by omega)]
    unfold B_EditMovesModel_width_4
    rw [if_neg c1, c4, c3, e, mx_F_wide, e3]
    simp only [Option.bind_some]
    rw [px_N_add, ih f _ (mx_tl hs) (by simp at hf; omega), mx_wid]
    congr 2; omega
theorem mx_width {m : Nat} {row : Nat → Int32} {ys : List Int32} (h : mx_RY m row ys) : F_EditMovesModel_width (nI m) row = some (nI (mx_wid ys)) := by
  have h3 := h.1
  have h2 := h.2.1
  have e0 : (0 : Int32) = mx_c m ys := by unfold mx_c; rw [h3]; simp [px_lit0]
  have := mx_width_loop h ys fv 0 (List.suffix_refl _) (by show _ < 4000; omega)
  rw [← e0, Nat.zero_add] at this
  exact this
