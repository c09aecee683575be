/-- the picture's runs as the object holds them -/
abbrev px_RH (m : Nat) (sg ct : Nat → Int32) (rs : List px_Rn) : Prop := rs.length = m ∧ m ≤ 60 ∧ px_RunsAre sg ct rs ∧ ∀ x ∈ rs, x.1 ≠ 0 ∧ 1 ≤ x.2 ∧ x.2 ≤ 99
theorem px_RH.rlen {m : Nat} {sg ct : Nat → Int32} {rs : List px_Rn} (h : px_RH m sg ct rs) : rs.length = m := h.1
theorem px_RH.le {m : Nat} {sg ct : Nat → Int32} {rs : List px_Rn} (h : px_RH m sg ct rs) : m ≤ 60 := h.2.1
theorem px_RH.are {m : Nat} {sg ct : Nat → Int32} {rs : List px_Rn} (h : px_RH m sg ct rs) : px_RunsAre sg ct rs := h.2.2.1
theorem px_RH.ok {m : Nat} {sg ct : Nat → Int32} {rs : List px_Rn} (h : px_RH m sg ct rs) : ∀ x ∈ rs, x.1 ≠ 0 ∧ 1 ≤ x.2 ∧ x.2 ≤ 99 := h.2.2.2
/-- the cursor at what is left -/
def px_cu (m : Nat) (t : List px_Rn) : Int32 := nI (m - t.length)
theorem px_suf_drop {rs t : List px_Rn} {m : Nat} (hm : rs.length = m) (h : t <:+ rs) : rs.drop (m - t.length) = t := by
  rw [← hm]; exact (List.suffix_iff_eq_drop.mp h).symm
theorem px_cu_step {m : Nat} {x : px_Rn} {t rs : List px_Rn} (hm : rs.length = m) (h : (x :: t) <:+ rs) : px_cu m (x :: t) + 1 = px_cu m t := by
  unfold px_cu
  have := h.length_le
  rw [px_lit1, px_N_add]
  congr 1
  simp at this ⊢
  omega
theorem px_suf_tl {x : px_Rn} {t rs : List px_Rn} (h : (x :: t) <:+ rs) : t <:+ rs := (List.suffix_cons x t).trans h
def px_tAll (w : Int32) : List px_Rn → Nat × List px_Rn
  | [] => (0, [])
  | x :: t => if x.1 = w then ((px_tAll w t).1 + x.2, (px_tAll w t).2) else if px_isI x.1 = true then px_tAll w t else (0, x :: t)
theorem px_tAll_suf {w : Int32} {t : List px_Rn} : (px_tAll w t).2 <:+ t := by
  induction t with
  | nil => exact List.suffix_refl _
  | cons x t ih =>
    unfold px_tAll
    split
    · exact ih.trans (List.suffix_cons x t)
    · split
      · exact ih.trans (List.suffix_cons x t)
      · exact List.suffix_refl _
theorem px_tAll_le {w : Int32} {t : List px_Rn} (h : ∀ x ∈ t, x.2 ≤ 99) : (px_tAll w t).1 ≤ 99 * t.length := by
  induction t with
  | nil => simp [px_tAll]
  | cons x t ih =>
    have h1 := h x (by simp)
    have h2 := ih (fun y hy => h y (by simp [hy]))
    unfold px_tAll
    split
    · show (px_tAll w t).1 + x.2 ≤ _
      simp; omega
    · split
      · simp; omega
      · simp
theorem px_RH.at {m : Nat} {sg ct : Nat → Int32} {rs t : List px_Rn} {x : px_Rn} (h : px_RH m sg ct rs) (hs : (x :: t) <:+ rs) : sg (m - (x :: t).length) = x.1 ∧ ct (m - (x :: t).length) = nI x.2 := by
  apply h.are
  have e := px_suf_drop h.rlen hs
  have := congrArg (fun l => l[0]?) e
  simpa [List.getElem?_drop] using this
theorem px_Pn_takeAll_loop {m : Nat} {sg ct : Nat → Int32} {rs : List px_Rn} (h : px_RH m sg ct rs) {w : Int32} : ∀ (t : List px_Rn) (f a : Nat), t <:+ rs → t.length < f → B_Picture_takeAll_2 (nI m) sg ct f (px_cu m t) w (nI a) = some (nI (a + (px_tAll w t).1), px_cu m (px_tAll w t).2) := by
  intro t
  induction t with
  | nil =>
    intro f a hs hf
    obtain ⟨f, rfl⟩ : ∃ g, f = g + 1 := ⟨f - 1, by omega⟩
    have hle := h.le
    unfold B_Picture_takeAll_2
    rw [if_pos (by unfold px_cu; rw [px_N_le (by omega) (by simp; omega)]; simp)]
    simp [px_tAll]
  | cons x t ih =>
    intro f a hs hf
    obtain ⟨f, rfl⟩ : ∃ g, f = g + 1 := ⟨f - 1, by omega⟩
    have hle := h.le
    have hl := hs.length_le
    rw [h.rlen] at hl
    have hl0 : 1 ≤ (x :: t).length := by simp
    obtain ⟨e1, e2⟩ := h.at hs
    have e3 := px_cu_step h.rlen hs
    unfold B_Picture_takeAll_2 B_Picture_takeAll_71
    have c1 : ¬ nI m ≤ px_cu m (x :: t) := by unfold px_cu; rw [px_N_le (by omega) (by omega)]; omega
    have c2 : ¬ (60 : Int32) ≤ px_cu m (x :: t) := by unfold px_cu; rw [px_lit60, px_N_le (by omega) (by omega)]; omega
    have c3 : (px_cu m (x :: t)).toNatClampNeg = m - (x :: t).length := by unfold px_cu; rw [px_N_clamp (by omega)]
    have c4 : ∀ k : Option (Int32 × Int32), wgd (px_cu m (x :: t)) 60 k = k := by intro k; unfold px_cu; rw [px_wgd_in (by omega) (by omega)]
    rw [if_neg c1, if_neg c2, c4, c3, c4, c4, e1, e2, e3, px_Pn_isInsertion, px_N_add]
    simp only [Option.bind_some]
    have i1 := fun b => ih f b (px_suf_tl hs) (by simp at hf; omega)
    unfold px_tAll
    by_cases h1 : x.1 = w
    · rw [if_pos h1, if_pos h1, i1]
      congr 3; omega
    · rw [if_neg h1, if_neg h1]
      cases h2 : px_isI x.1 with
      | false => simp
      | true => simp [i1]
theorem px_Pn_takeAll {m : Nat} {sg ct : Nat → Int32} {rs t : List px_Rn} (h : px_RH m sg ct rs) {w : Int32} (hs : t <:+ rs) : F_Picture_takeAll (nI m) sg ct (px_cu m t) w = some (nI (px_tAll w t).1, px_cu m (px_tAll w t).2) := by
  unfold F_Picture_takeAll
  have hl := hs.length_le
  have := h.rlen
  have := h.le
  rw [px_lit0, px_Pn_takeAll_loop h t fu 0 hs (by show _ < 1000; omega), Nat.zero_add]
theorem px_RH.small {m : Nat} {sg ct : Nat → Int32} {rs t : List px_Rn} (h : px_RH m sg ct rs) {w : Int32} (hs : t <:+ rs) : (px_tAll w t).1 ≤ 5940 := by
  have := px_tAll_le (w := w) (t := t) (fun x hx => (h.ok x (hs.mem hx)).2.2)
  have hl := hs.length_le
  have := h.rlen
  have := h.le
  omega
def px_tOne (w : Int32) (t : List px_Rn) : Bool × List px_Rn := if (px_tAll w t).1 = 1 then (true, (px_tAll w t).2) else (false, t)
def px_bz (b : Bool) : Int32 := if b then 1 else 0
theorem px_bz_ne (b : Bool) : (px_bz b = 0) ↔ b = false := by cases b <;> simp [px_bz]
theorem px_tOne_suf {w : Int32} {t : List px_Rn} : (px_tOne w t).2 <:+ t := by
  unfold px_tOne
  split
  · exact px_tAll_suf
  · exact List.suffix_refl _
theorem px_Pn_takeOne {m : Nat} {sg ct : Nat → Int32} {rs t : List px_Rn} (h : px_RH m sg ct rs) {w : Int32} (hs : t <:+ rs) : F_Picture_takeOne (nI m) sg ct (px_cu m t) w = some (px_bz (px_tOne w t).1, px_cu m (px_tOne w t).2) := by
  unfold F_Picture_takeOne
  have hb := h.small (w := w) hs
  rw [px_Pn_takeAll h hs]
  simp only [Option.bind_some, px_tOne]
  by_cases e : (px_tAll w t).1 = 1
  · rw [if_pos (by rw [e]; rfl), if_pos e]; rfl
  · rw [if_neg (by rw [px_lit1, px_N_eq (by omega) (by omega)]; exact e), if_neg e]; rfl
def px_hd (t : List px_Rn) : Int32 := (t.headD (0, 0)).1
theorem px_Pn_sgn {m : Nat} {sg ct : Nat → Int32} {rs t : List px_Rn} (h : px_RH m sg ct rs) (hs : t <:+ rs) : F_Picture_sign (nI m) sg (px_cu m t) = some (px_hd t) := by
  have := h.le
  unfold px_cu px_hd
  rw [px_Pn_sign h.rlen h.le h.are (by omega), px_suf_drop h.rlen hs]
def px_upc : List px_Rn → List px_Rn
  | [] => []
  | x :: t => if px_isI x.1 = true then px_upc t else x :: t
theorem px_upc_suf {t : List px_Rn} : px_upc t <:+ t := by
  induction t with
  | nil => exact List.suffix_refl _
  | cons x t ih =>
    unfold px_upc
    split
    · exact ih.trans (List.suffix_cons x t)
    · exact List.suffix_refl _
theorem px_Pn_upc_loop {m : Nat} {sg ct : Nat → Int32} {rs : List px_Rn} (h : px_RH m sg ct rs) : ∀ (t : List px_Rn) (f : Nat), t <:+ rs → t.length < f → B_Picture_upcoming_0 (nI m) sg f (px_cu m t) = some (px_hd (px_upc t), px_cu m (px_upc t)) := by
  intro t
  induction t with
  | nil =>
    intro f hs hf
    obtain ⟨f, rfl⟩ : ∃ g, f = g + 1 := ⟨f - 1, by omega⟩
    have hle := h.le
    unfold B_Picture_upcoming_0
    rw [if_pos (by unfold px_cu; rw [px_N_le (by omega) (by simp; omega)]; simp), px_Pn_sgn h hs]
    simp [px_upc]
  | cons x t ih =>
    intro f hs hf
    obtain ⟨f, rfl⟩ : ∃ g, f = g + 1 := ⟨f - 1, by omega⟩
    have hle := h.le
    have hl := hs.length_le
    rw [h.rlen] at hl
    have hl0 : 1 ≤ (x :: t).length := by simp
    have e3 := px_cu_step h.rlen hs
    have c1 : ¬ nI m ≤ px_cu m (x :: t) := by unfold px_cu; rw [px_N_le (by omega) (by omega)]; omega
    unfold B_Picture_upcoming_0
    rw [if_neg c1, px_Pn_sgn h hs]
    have e4 : px_hd (x :: t) = x.1 := rfl
    simp only [Option.bind_some, px_Pn_isInsertion, e4, e3]
    unfold px_upc
    cases h2 : px_isI x.1 with
    | false => simp [e4]
    | true =>
      have := ih f (px_suf_tl hs) (by simp at hf; omega)
      simpa using this
theorem px_Pn_upcoming {m : Nat} {sg ct : Nat → Int32} {rs t : List px_Rn} (h : px_RH m sg ct rs) (hs : t <:+ rs) : F_Picture_upcoming (nI m) sg (px_cu m t) = some (px_hd (px_upc t), px_cu m (px_upc t)) := by
  have hl := hs.length_le
  have := h.rlen
  have := h.le
  exact px_Pn_upc_loop h t fu hs (by show _ < 1000; omega)
def px_lastS (rs : List px_Rn) : Int32 := ((rs.drop (rs.length - 1)).headD (0, 0)).1
def px_tEnd (rs t : List px_Rn) : Bool × List px_Rn :=
  if (px_tOne 43 t).1 = true then px_tOne 43 t
  else if (px_tOne 45 t).1 = true then px_tOne 45 t
  else if (px_tOne 67 t).1 = true then (decide (px_lastS rs = 67 ∨ px_lastS rs = 68), (px_tOne 67 t).2)
  else if (px_tOne 68 t).1 = true then (decide (px_lastS rs = 67 ∨ px_lastS rs = 68), (px_tOne 68 t).2)
  else (true, t)
theorem px_tEnd_suf {rs t : List px_Rn} : (px_tEnd rs t).2 <:+ t := by
  unfold px_tEnd
  split
  · exact px_tOne_suf
  · split
    · exact px_tOne_suf
    · split
      · exact px_tOne_suf
      · split
        · exact px_tOne_suf
        · exact List.suffix_refl _
theorem px_tOne_false {w : Int32} {t : List px_Rn} (h : ¬ (px_tOne w t).1 = true) : px_tOne w t = (false, t) := by
  unfold px_tOne at h ⊢
  split
  · rename_i e; simp [e] at h
  · rfl
theorem px_Pn_last {m : Nat} {sg ct : Nat → Int32} {rs : List px_Rn} (h : px_RH m sg ct rs) (hm : 1 ≤ m) : F_Picture_sign (nI m) sg (nI m - 1) = some (px_lastS rs) := by
  have := h.le
  have hlen := h.rlen
  rw [px_lit1, px_N_sub hm, px_Pn_sign h.rlen h.le h.are (by omega)]
  unfold px_lastS
  rw [hlen]
theorem px_Pn_takeEnd {m : Nat} {sg ct : Nat → Int32} {rs t : List px_Rn} (h : px_RH m sg ct rs) (hs : t <:+ rs) (hm : 1 ≤ m) : F_Picture_takeEnd (nI m) sg ct (px_cu m t) = some (px_bz (px_tEnd rs t).1, px_cu m (px_tEnd rs t).2) := by
  unfold F_Picture_takeEnd B_Picture_takeEnd_38 px_tEnd
  rw [px_Pn_takeOne h hs]
  simp only [Option.bind_some, px_bz_ne]
  have hl : ∀ u : List px_Rn, ((F_Picture_sign (nI m) sg (nI m - 1)).bind fun r_84 => if r_84 = 67 then some ((1 : Int32), px_cu m u) else if r_84 = 68 then some (1, px_cu m u) else some (0, px_cu m u)) = some (px_bz (decide (px_lastS rs = 67 ∨ px_lastS rs = 68)), px_cu m u) := by
    intro u
    rw [px_Pn_last h hm]
    simp only [Option.bind_some]
    by_cases a : px_lastS rs = 67 <;> by_cases b : px_lastS rs = 68 <;> simp [a, b, px_bz]
  by_cases h1 : (px_tOne 43 t).1 = true
  · simp [h1, px_bz]
  · rw [if_neg h1, if_pos (by simpa using h1), px_tOne_false h1]
    simp only
    rw [px_Pn_takeOne h hs]
    simp only [Option.bind_some, px_bz_ne]
    by_cases h2 : (px_tOne 45 t).1 = true
    · simp [h2, px_bz]
    · rw [if_neg h2, if_pos (by simpa using h2), px_tOne_false h2]
      simp only
      rw [px_Pn_takeOne h hs]
      simp only [Option.bind_some, px_bz_ne]
      by_cases h3 : (px_tOne 67 t).1 = true
      · rw [if_neg (by simp [h3]), if_pos h3, hl]
      · rw [if_neg h3, if_pos (by simpa using h3), px_tOne_false h3]
        simp only
        rw [px_Pn_takeOne h hs]
        simp only [Option.bind_some, px_bz_ne]
        by_cases h4 : (px_tOne 68 t).1 = true
        · rw [if_neg (by simp [h4]), if_pos h4, hl]
        · rw [if_neg h4, if_pos (by simpa using h4), px_tOne_false h4]
          rfl
def px_tFix (t : List px_Rn) : Int32 × List px_Rn :=
  if (px_tOne 43 t).1 = true then (43, (px_tOne 43 t).2) else if (px_tOne 45 t).1 = true then (45, (px_tOne 45 t).2) else (0, t)
theorem px_tFix_suf {t : List px_Rn} : (px_tFix t).2 <:+ t := by
  unfold px_tFix
  split
  · exact px_tOne_suf
  · split
    · exact px_tOne_suf
    · exact List.suffix_refl _
theorem px_Pn_takeFixedSign {m : Nat} {sg ct : Nat → Int32} {rs t : List px_Rn} (h : px_RH m sg ct rs) (hs : t <:+ rs) : F_Picture_takeFixedSign (nI m) sg ct (px_cu m t) = some ((px_tFix t).1, px_cu m (px_tFix t).2) := by
  unfold F_Picture_takeFixedSign px_tFix
  rw [px_Pn_takeOne h hs]
  simp only [Option.bind_some, px_bz_ne]
  by_cases h1 : (px_tOne 43 t).1 = true
  · simp [h1]
  · rw [if_neg h1, if_pos (by simpa using h1), px_tOne_false h1]
    simp only
    rw [px_Pn_takeOne h hs]
    simp only [Option.bind_some, px_bz_ne]
    by_cases h2 : (px_tOne 45 t).1 = true
    · simp [h2]
    · rw [if_neg h2, if_pos (by simpa using h2), px_tOne_false h2]
/-- the string: how many, what is left, its sign, whether it floats -/
def px_mayF (fixed cur s : Int32) : Bool := decide ((s = 43 ∨ s = 45 ∨ s = cur) ∧ s ≠ fixed)
def px_tStr (fixed cur : Int32) (t : List px_Rn) : Nat × List px_Rn × Int32 × Bool :=
  if px_hd (px_upc t) = 90 ∨ px_hd (px_upc t) = 42 ∨ px_mayF fixed cur (px_hd (px_upc t)) = true then
    if px_mayF fixed cur (px_hd (px_upc t)) = true ∧ (px_tAll (px_hd (px_upc t)) (px_upc t)).1 < 2 then (0, px_upc t, 0, false)
    else ((px_tAll (px_hd (px_upc t)) (px_upc t)).1, (px_tAll (px_hd (px_upc t)) (px_upc t)).2, px_hd (px_upc t), px_mayF fixed cur (px_hd (px_upc t)))
  else (0, px_upc t, 0, false)
theorem px_tStr_suf {fixed cur : Int32} {t : List px_Rn} : (px_tStr fixed cur t).2.1 <:+ t := by
  unfold px_tStr
  split
  · split
    · exact px_upc_suf
    · exact px_tAll_suf.trans px_upc_suf
  · exact px_upc_suf
theorem px_Pn_takeString {m : Nat} {sg ct : Nat → Int32} {rs t : List px_Rn} {fixed cur : Int32} (h : px_RH m sg ct rs) (hs : t <:+ rs) : F_Picture_takeString (nI m) sg ct (px_cu m t) 0 0 fixed cur = some (nI (px_tStr fixed cur t).1, px_cu m (px_tStr fixed cur t).2.1, (px_tStr fixed cur t).2.2.1, px_bz (px_tStr fixed cur t).2.2.2) := by
  unfold F_Picture_takeString
  have hu : px_upc t <:+ rs := px_upc_suf.trans hs
  rw [px_Pn_upcoming h hs]
  simp only [Option.bind_some, B_Picture_takeString_22, B_Picture_takeString_31]
  unfold px_tStr
  have hb := h.small (w := px_hd (px_upc t)) hu
  have h53 : ∀ b : Bool, B_Picture_takeString_53 (nI m) sg ct (px_cu m (px_upc t)) 0 0 (px_hd (px_upc t)) (px_bz b) = some (if b = true ∧ (px_tAll (px_hd (px_upc t)) (px_upc t)).1 < 2 then (nI 0, px_cu m (px_upc t), 0, 0) else (nI (px_tAll (px_hd (px_upc t)) (px_upc t)).1, px_cu m (px_tAll (px_hd (px_upc t)) (px_upc t)).2, px_hd (px_upc t), px_bz b)) := by
    intro b
    unfold B_Picture_takeString_53 B_Picture_takeString_85
    rw [px_Pn_takeAll h hu]
    simp only [Option.bind_some, px_bz_ne]
    cases b with
    | false => simp [px_bz, px_wgz0]
    | true =>
      by_cases c : (px_tAll (px_hd (px_upc t)) (px_upc t)).1 < 2
      · simp only [Bool.true_eq_false, if_false]
        rw [if_neg (by rw [px_lit2, px_N_le (by omega) (by omega)]; omega), if_pos (by simp [c])]; rfl
      · simp only [Bool.true_eq_false, if_false]
        rw [if_pos (by rw [px_lit2, px_N_le (by omega) (by omega)]; omega), if_neg (by simp; omega)]; rfl
  have h32 : ∀ b : Bool, B_Picture_takeString_32 (nI m) sg ct (px_cu m (px_upc t)) 0 0 (px_hd (px_upc t)) (px_bz b) = if px_hd (px_upc t) = 90 ∨ px_hd (px_upc t) = 42 ∨ b = true then B_Picture_takeString_53 (nI m) sg ct (px_cu m (px_upc t)) 0 0 (px_hd (px_upc t)) (px_bz b) else some (0, px_cu m (px_upc t), 0, 0) := by
    intro b
    unfold B_Picture_takeString_32
    by_cases c1 : px_hd (px_upc t) = 90 <;> by_cases c2 : px_hd (px_upc t) = 42 <;> cases b <;> simp [c1, c2, px_bz]
  have e : (if px_hd (px_upc t) = 43 then (if px_hd (px_upc t) = fixed then B_Picture_takeString_32 (nI m) sg ct (px_cu m (px_upc t)) 0 0 (px_hd (px_upc t)) 0 else B_Picture_takeString_32 (nI m) sg ct (px_cu m (px_upc t)) 0 0 (px_hd (px_upc t)) 1) else if px_hd (px_upc t) = 45 then (if px_hd (px_upc t) = fixed then B_Picture_takeString_32 (nI m) sg ct (px_cu m (px_upc t)) 0 0 (px_hd (px_upc t)) 0 else B_Picture_takeString_32 (nI m) sg ct (px_cu m (px_upc t)) 0 0 (px_hd (px_upc t)) 1) else if px_hd (px_upc t) = cur then (if px_hd (px_upc t) = fixed then B_Picture_takeString_32 (nI m) sg ct (px_cu m (px_upc t)) 0 0 (px_hd (px_upc t)) 0 else B_Picture_takeString_32 (nI m) sg ct (px_cu m (px_upc t)) 0 0 (px_hd (px_upc t)) 1) else B_Picture_takeString_32 (nI m) sg ct (px_cu m (px_upc t)) 0 0 (px_hd (px_upc t)) 0) = B_Picture_takeString_32 (nI m) sg ct (px_cu m (px_upc t)) 0 0 (px_hd (px_upc t)) (px_bz (px_mayF fixed cur (px_hd (px_upc t)))) := by
    unfold px_mayF
    generalize px_hd (px_upc t) = s
    by_cases a : s = 43
    · by_cases d : s = fixed <;> simp [a, d, px_bz] <;> simp_all
    · by_cases b : s = 45
      · by_cases d : s = fixed <;> simp [a, b, d, px_bz] <;> simp_all
      · by_cases c : s = cur
        · by_cases d : s = fixed <;> simp [a, b, c, d, px_bz] <;> simp_all
        · simp [a, b, c, px_bz]
  rw [e, h32, h53]
  by_cases c1 : px_hd (px_upc t) = 90 ∨ px_hd (px_upc t) = 42 ∨ px_mayF fixed cur (px_hd (px_upc t)) = true
  · rw [if_pos c1, if_pos c1]
    by_cases c2 : px_mayF fixed cur (px_hd (px_upc t)) = true ∧ (px_tAll (px_hd (px_upc t)) (px_upc t)).1 < 2
    · rw [if_pos c2, if_pos c2]; rfl
    · rw [if_neg c2, if_neg c2]
  · rw [if_neg c1, if_neg c1]; rfl
/-- digits ahead, behind, all suppressed, the string's sign, whether it floats -/
abbrev px_Shp := Nat × Nat × Bool × Int32 × Bool
def px_numEnd (rs : List px_Rn) (fixed : Int32) (g a sb nb : Nat) (ss : Int32) (fl : Bool) (t : List px_Rn) : Option px_Shp :=
  let en : Bool × List px_Rn := if fixed ≠ 0 ∨ ss = 43 ∨ ss = 45 then (true, t) else px_tEnd rs t
  let da := g - (if fl then 1 else 0) + a
  if en.1 = true ∧ px_hd (px_upc en.2) = 0 ∧ 1 ≤ da + (sb + nb) ∧ da + (sb + nb) ≤ 18 then some (da, sb + nb, decide (a + nb = 0), ss, fl) else none
def px_numPt (rs : List px_Rn) (fixed : Int32) (g a : Nat) (ss : Int32) (fl : Bool) (t : List px_Rn) : Option px_Shp :=
  let sb : Nat × List px_Rn := if a = 0 ∧ 0 < g then px_tAll ss t else (0, t)
  px_numEnd rs fixed g a sb.1 (px_tAll 57 sb.2).1 ss fl (px_tAll 57 sb.2).2
def px_numOf (cur : Int32) (rs : List px_Rn) : Option px_Shp :=
  let f := px_tFix rs
  let g := px_tStr f.1 cur (px_tOne cur f.2).2
  let a := px_tAll 57 g.2.1
  if (px_tOne 46 a.2).1 = true then px_numPt rs f.1 g.1 a.1 g.2.2.1 g.2.2.2 (px_tOne 46 a.2).2
  else if (px_tOne 86 a.2).1 = true then px_numPt rs f.1 g.1 a.1 g.2.2.1 g.2.2.2 (px_tOne 86 a.2).2
  else px_numEnd rs f.1 g.1 a.1 0 0 g.2.2.1 g.2.2.2 a.2
abbrev px_NumR (o : Option (Int32 × Int32 × Int32 × Int32 × Int32 × Int32 × Int32)) (q : Option px_Shp) : Prop :=
  match q with
  | none => ∃ u, o = some (0, u)
  | some w => ∃ c, o = some (1, c, nI w.1, nI w.2.1, px_bz w.2.2.1, w.2.2.2.1, px_bz w.2.2.2.2)
theorem px_Pn_num173 {m : Nat} {sg ct : Nat → Int32} {rs t : List px_Rn} (h : px_RH m sg ct rs) (hs : t <:+ rs) {da db : Nat} (h1 : da < 100000) (h2 : db < 100000) {x : Int32} {ss : Int32} {fl al : Bool} :
    px_NumR (B_Picture_isOfNumber_173 (nI m) sg ct (px_cu m t) (nI da) (nI db) x ss (px_bz fl) (px_bz al)) (if px_hd (px_upc t) = 0 ∧ 1 ≤ da + db ∧ da + db ≤ 18 then some (da, db, al, ss, fl) else none) := by
  unfold B_Picture_isOfNumber_173
  have e : ∀ k : Option (Int32 × Int32 × Int32 × Int32 × Int32 × Int32 × Int32), wgz (px_bz al) k = k := by intro k; cases al <;> rfl
  rw [e, px_Pn_upcoming h hs]
  simp only [Option.bind_some, px_N_add]
  by_cases a : px_hd (px_upc t) = 0
  · rw [if_pos a]
    by_cases b : 1 ≤ da + db
    · have b' : ¬ nI (da + db) < 1 := by rw [px_lit1, px_N_lt (by omega) (by omega)]; omega
      rw [if_neg b']
      by_cases c : da + db ≤ 18
      · have c' : ¬ (18 : Int32) < nI (da + db) := by rw [px_lit18, px_N_lt (by omega) (by omega)]; omega
        have d : px_hd (px_upc t) = 0 ∧ 1 ≤ da + db ∧ da + db ≤ 18 := ⟨a, b, c⟩
        rw [if_neg c', if_pos d]
        exact ⟨_, rfl⟩
      · have c' : (18 : Int32) < nI (da + db) := by rw [px_lit18, px_N_lt (by omega) (by omega)]; omega
        have d : ¬ (px_hd (px_upc t) = 0 ∧ 1 ≤ da + db ∧ da + db ≤ 18) := by omega
        rw [if_pos c', if_neg d]
        exact ⟨_, rfl⟩
    · have b' : nI (da + db) < 1 := by rw [px_lit1, px_N_lt (by omega) (by omega)]; omega
      have d : ¬ (px_hd (px_upc t) = 0 ∧ 1 ≤ da + db ∧ da + db ≤ 18) := by omega
      rw [if_pos b', if_neg d]
      exact ⟨_, rfl⟩
  · have d : ¬ (px_hd (px_upc t) = 0 ∧ 1 ≤ da + db ∧ da + db ≤ 18) := fun z => a z.1
    rw [if_neg a, if_neg d]
    exact ⟨_, rfl⟩
theorem px_Pn_num129 {m : Nat} {sg ct : Nat → Int32} {rs t : List px_Rn} (h : px_RH m sg ct rs) (hs : t <:+ rs) {g a sb nb : Nat} (h1 : g < 10000) (h2 : a < 10000) (h3 : sb < 10000) (h4 : nb < 10000) {x y z : Int32} {ss : Int32} {fl : Bool} (hf : fl = true → 1 ≤ g) :
    px_NumR (B_Picture_isOfNumber_129 (nI m) sg ct (px_cu m t) x y z ss (px_bz fl) (nI g) (nI a) (nI sb) (nI nb)) (if px_hd (px_upc t) = 0 ∧ 1 ≤ g - (if fl then 1 else 0) + a + (sb + nb) ∧ g - (if fl then 1 else 0) + a + (sb + nb) ≤ 18 then some (g - (if fl then 1 else 0) + a, sb + nb, decide (a + nb = 0), ss, fl) else none) := by
  unfold B_Picture_isOfNumber_129 B_Picture_isOfNumber_143
  have hgo : ∀ al : Bool, px_NumR (B_Picture_isOfNumber_173 (nI m) sg ct (px_cu m t) (nI (g - (if fl then 1 else 0) + a)) (nI (sb + nb)) z ss (px_bz fl) (px_bz al)) (if px_hd (px_upc t) = 0 ∧ 1 ≤ g - (if fl then 1 else 0) + a + (sb + nb) ∧ g - (if fl then 1 else 0) + a + (sb + nb) ≤ 18 then some (g - (if fl then 1 else 0) + a, sb + nb, al, ss, fl) else none) :=
    fun al => px_Pn_num173 h hs (by split <;> omega) (by omega)
  have hg := hgo (decide (a + nb = 0))
  have e : (if nI a + nI nb = 0 then B_Picture_isOfNumber_173 (nI m) sg ct (px_cu m t) (nI (g - (if fl then 1 else 0) + a)) (nI (sb + nb)) z ss (px_bz fl) 1 else B_Picture_isOfNumber_173 (nI m) sg ct (px_cu m t) (nI (g - (if fl then 1 else 0) + a)) (nI (sb + nb)) z ss (px_bz fl) 0) = B_Picture_isOfNumber_173 (nI m) sg ct (px_cu m t) (nI (g - (if fl then 1 else 0) + a)) (nI (sb + nb)) z ss (px_bz fl) (px_bz (decide (a + nb = 0))) := by
    by_cases c : a + nb = 0
    · have d : decide (a + nb = 0) = true := by simp only [c, decide_true]
      rw [if_pos (by rw [px_N_add, c]; rfl), d]; rfl
    · have d : decide (a + nb = 0) = false := by simp only [c, decide_false]
      rw [if_neg (by rw [px_N_add, px_lit0, px_N_eq (by omega) (by omega)]; exact c), d]; rfl
  rw [← e] at hg
  cases fl with
  | false =>
    have q1 : nI g - 0 + nI a = nI (g - 0 + a) := by rw [px_lit0, px_N_sub (Nat.zero_le _), px_N_add]
    have q2 := px_N_add sb nb
    have q3 : px_bz false = 0 := rfl
    rw [if_pos q3, q1, q2]
    exact hg
  | true =>
    have hg1 := hf rfl
    have q1 : nI g - 1 + nI a = nI (g - 1 + a) := by rw [px_lit1, px_N_sub hg1, px_N_add]
    have q2 := px_N_add sb nb
    have q3 : ¬ px_bz true = 0 := by decide
    rw [if_neg q3, q1, q2]
    exact hg
theorem px_Pn_num86 {m : Nat} {sg ct : Nat → Int32} {rs t : List px_Rn} (h : px_RH m sg ct rs) (hm : 1 ≤ m) (hs : t <:+ rs) {g a sb nb : Nat} (h1 : g < 10000) (h2 : a < 10000) (h3 : sb < 10000) (h4 : nb < 10000) {x y z : Int32} {ss fixed : Int32} {fl : Bool} (hf : fl = true → 1 ≤ g) :
    px_NumR (B_Picture_isOfNumber_86 (nI m) sg ct (px_cu m t) x y z ss (px_bz fl) fixed (nI g) (nI a) (nI sb) (nI nb)) (px_numEnd rs fixed g a sb nb ss fl t) := by
  unfold B_Picture_isOfNumber_86 B_Picture_isOfNumber_108 px_numEnd
  have hs0 : B_Picture_isOfNumber_113 (nI m) sg ct (px_cu m t) x y z ss (px_bz fl) (nI g) (nI a) (nI sb) (nI nb) 1 = B_Picture_isOfNumber_129 (nI m) sg ct (px_cu m t) x y z ss (px_bz fl) (nI g) (nI a) (nI sb) (nI nb) := rfl
  have hsg := px_Pn_num129 h hs h1 h2 h3 h4 (x := x) (y := y) (z := z) (ss := ss) hf
  have e : (if fixed = 0 then (if ss = 43 then B_Picture_isOfNumber_113 (nI m) sg ct (px_cu m t) x y z ss (px_bz fl) (nI g) (nI a) (nI sb) (nI nb) 1 else if ss = 45 then B_Picture_isOfNumber_113 (nI m) sg ct (px_cu m t) x y z ss (px_bz fl) (nI g) (nI a) (nI sb) (nI nb) 1 else B_Picture_isOfNumber_113 (nI m) sg ct (px_cu m t) x y z ss (px_bz fl) (nI g) (nI a) (nI sb) (nI nb) 0) else B_Picture_isOfNumber_113 (nI m) sg ct (px_cu m t) x y z ss (px_bz fl) (nI g) (nI a) (nI sb) (nI nb) 1) = (if fixed ≠ 0 ∨ ss = 43 ∨ ss = 45 then B_Picture_isOfNumber_129 (nI m) sg ct (px_cu m t) x y z ss (px_bz fl) (nI g) (nI a) (nI sb) (nI nb) else B_Picture_isOfNumber_113 (nI m) sg ct (px_cu m t) x y z ss (px_bz fl) (nI g) (nI a) (nI sb) (nI nb) 0) := by
    rw [hs0]
    by_cases a1 : fixed = 0 <;> by_cases a2 : ss = 43 <;> by_cases a3 : ss = 45 <;> simp [a1, a2, a3]
  rw [e]
  by_cases c : fixed ≠ 0 ∨ ss = 43 ∨ ss = 45
  · rw [if_pos c]
    simp only [if_pos c, true_and]
    exact hsg
  · rw [if_neg c]
    simp only [if_neg c]
    unfold B_Picture_isOfNumber_113
    rw [if_pos rfl, px_Pn_takeEnd h hs hm]
    simp only [Option.bind_some, px_bz_ne]
    cases hb : (px_tEnd rs t).1 with
    | false =>
      simp only [if_true, Bool.false_eq_true, false_and, if_false]
      exact ⟨_, rfl⟩
    | true =>
      simp only [Bool.true_eq_false, if_false, true_and]
      exact px_Pn_num129 h (px_tEnd_suf.trans hs) h1 h2 h3 h4 hf
theorem px_Pn_num55 {m : Nat} {sg ct : Nat → Int32} {rs t : List px_Rn} (h : px_RH m sg ct rs) (hm : 1 ≤ m) (hs : t <:+ rs) {g a : Nat} (h1 : g < 10000) (h2 : a < 10000) {x y z : Int32} {ss fixed : Int32} {fl : Bool} (hf : fl = true → 1 ≤ g) :
    px_NumR (B_Picture_isOfNumber_55 (nI m) sg ct (px_cu m t) x y z ss (px_bz fl) fixed (nI g) (nI a)) (px_numPt rs fixed g a ss fl t) := by
  have hgo : ∀ (u : List px_Rn) (sb : Nat), u <:+ rs → sb < 10000 → px_NumR (B_Picture_isOfNumber_76 (nI m) sg ct (px_cu m u) x y z ss (px_bz fl) fixed (nI g) (nI a) (nI sb)) (px_numEnd rs fixed g a sb (px_tAll 57 u).1 ss fl (px_tAll 57 u).2) := by
    intro u sb hu hsb
    unfold B_Picture_isOfNumber_76
    rw [px_Pn_takeAll h hu]
    simp only [Option.bind_some]
    have := h.small (w := 57) hu
    exact px_Pn_num86 h hm (px_tAll_suf.trans hu) h1 h2 hsb (by omega) hf
  unfold B_Picture_isOfNumber_55 B_Picture_isOfNumber_75 px_numPt
  by_cases c1 : a = 0
  · have c1' : nI a = 0 := by rw [c1]; rfl
    rw [if_pos c1']
    by_cases c2 : 0 < g
    · have c2' : ¬ nI g ≤ 0 := by rw [px_lit0, px_N_le (by omega) (by omega)]; omega
      have c3 : a = 0 ∧ 0 < g := ⟨c1, c2⟩
      rw [if_neg c2', px_Pn_takeAll h hs]
      simp only [Option.bind_some, if_pos c3]
      have := h.small (w := ss) hs
      exact hgo _ _ (px_tAll_suf.trans hs) (by omega)
    · have c2' : nI g ≤ 0 := by rw [px_lit0, px_N_le (by omega) (by omega)]; omega
      have c3 : ¬ (a = 0 ∧ 0 < g) := fun q => c2 q.2
      rw [if_pos c2']
      simp only [if_neg c3]
      exact hgo t 0 hs (by omega)
  · have c1' : ¬ nI a = 0 := by rw [px_lit0, px_N_eq (by omega) (by omega)]; exact c1
    have c3 : ¬ (a = 0 ∧ 0 < g) := fun q => c1 q.1
    rw [if_neg c1']
    simp only [if_neg c3]
    exact hgo t 0 hs (by omega)
theorem px_tStr_fl {fixed cur : Int32} {t : List px_Rn} (h : (px_tStr fixed cur t).2.2.2 = true) : 2 ≤ (px_tStr fixed cur t).1 := by
  unfold px_tStr at h ⊢
  split
  · rename_i c1
    rw [if_pos c1] at h
    split
    · rename_i c2; rw [if_pos c2] at h; cases h
    · rename_i c2
      rw [if_neg c2] at h
      simp only at h ⊢
      simp [h] at c2
      exact c2
  · rename_i c1
    rw [if_neg c1] at h; cases h
theorem px_tStr_le {m : Nat} {sg ct : Nat → Int32} {rs t : List px_Rn} (h : px_RH m sg ct rs) (hs : t <:+ rs) {fixed cur : Int32} : (px_tStr fixed cur t).1 ≤ 5940 := by
  unfold px_tStr
  have := h.small (w := px_hd (px_upc t)) (px_upc_suf.trans hs)
  split
  · split
    · simp
    · exact this
  · simp
theorem px_Pn_isOfNumber {m : Nat} {sg ct : Nat → Int32} {rs : List px_Rn} (h : px_RH m sg ct rs) (hm : 1 ≤ m) {x y z w cur : Int32} :
    px_NumR (F_Picture_isOfNumber (nI m) sg ct w x y z 0 0 cur) (px_numOf cur rs) := by
  unfold F_Picture_isOfNumber px_numOf
  have hs : rs <:+ rs := List.suffix_refl _
  have e0 : (0 : Int32) = px_cu m rs := by unfold px_cu; rw [h.rlen]; simp [px_lit0]
  have hF := px_Pn_takeFixedSign h hs
  rw [← e0] at hF
  rw [hF]
  simp only [Option.bind_some]
  have s1 : (px_tFix rs).2 <:+ rs := px_tFix_suf
  rw [px_Pn_takeOne h s1]
  simp only [Option.bind_some]
  have s2 : (px_tOne cur (px_tFix rs).2).2 <:+ rs := px_tOne_suf.trans s1
  have hst := px_Pn_takeString h s2 (fixed := (px_tFix rs).1) (cur := cur)
  rw [hst]
  simp only [Option.bind_some]
  have s3 : (px_tStr (px_tFix rs).1 cur (px_tOne cur (px_tFix rs).2).2).2.1 <:+ rs := px_tStr_suf.trans s2
  have b1 := px_tStr_le h s2 (fixed := (px_tFix rs).1) (cur := cur)
  have b2 := @px_tStr_fl (px_tFix rs).1 cur (px_tOne cur (px_tFix rs).2).2
  generalize px_tStr (px_tFix rs).1 cur (px_tOne cur (px_tFix rs).2).2 = g at *
  rw [px_Pn_takeAll h s3]
  simp only [Option.bind_some]
  have b3 := h.small (w := 57) s3
  have s4 : (px_tAll 57 g.2.1).2 <:+ rs := px_tAll_suf.trans s3
  generalize px_tAll 57 g.2.1 = a at *
  rw [px_Pn_takeOne h s4]
  simp only [Option.bind_some, px_bz_ne]
  have hf : g.2.2.2 = true → 1 ≤ g.1 := fun q => by have := b2 q; omega
  by_cases c1 : (px_tOne 46 a.2).1 = true
  · have c1' : ¬ (px_tOne 46 a.2).1 = false := by simp [c1]
    rw [if_neg c1', if_pos c1]
    exact px_Pn_num55 h hm (px_tOne_suf.trans s4) (by omega) (by omega) hf
  · have c1' : (px_tOne 46 a.2).1 = false := by simpa using c1
    rw [if_pos c1', if_neg c1]
    simp only [px_tOne_false c1]
    rw [px_Pn_takeOne h s4]
    simp only [Option.bind_some, px_bz_ne]
    by_cases c2 : (px_tOne 86 a.2).1 = true
    · have c2' : ¬ (px_tOne 86 a.2).1 = false := by simp [c2]
      rw [if_neg c2', if_pos c2]
      exact px_Pn_num55 h hm (px_tOne_suf.trans s4) (by omega) (by omega) hf
    · have c2' : (px_tOne 86 a.2).1 = false := by simpa using c2
      rw [if_pos c2', if_neg c2]
      simp only [px_tOne_false c2]
      exact px_Pn_num86 (sb := 0) (nb := 0) h hm s4 (by omega) (by omega) (by decide) (by decide) hf
/-- what a picture's text is: its kind, its runs, its shape -/
abbrev px_Kind := Option (List px_Rn × Option px_Shp)
def px_kindOf (cur : Int32) (xs : List Int32) : px_Kind :=
  match px_runsOf cur xs with
  | none => none
  | some rs => if rs = [] then none else if px_isTx false rs = true then some (rs, none) else match px_numOf cur rs with
    | none => none
    | some q => some (rs, some q)
abbrev px_ReadR (o : Option (Int32 × Int32 × Int32 × Int32 × Int32 × Int32 × Int32 × Int32 × Int32 × (Nat → Int32) × (Nat → Int32))) (k : px_Kind) : Prop :=
  match k with
  | none => ∃ sg ct, o = some (0, 0, 0, 0, 0, 0, 0, 0, 0, sg, ct)
  | some (rs, none) => ∃ c sg ct, o = some (c, nI rs.length, 2, nI (px_plc rs), 0, 0, 0, 0, 0, sg, ct) ∧ px_RH rs.length sg ct rs
  | some (rs, some q) => ∃ c sg ct, o = some (c, nI rs.length, 1, nI (px_plc rs), nI q.1, nI q.2.1, px_bz q.2.2.1, q.2.2.2.1, px_bz q.2.2.2.2, sg, ct) ∧ px_RH rs.length sg ct rs
theorem px_Pn_read {n : Nat} {row : Nat → Int32} (hn : n ≤ 60) {a1 a2 a3 a4 a5 a6 a7 a8 a9 cur : Int32} {sg ct : Nat → Int32} :
    px_ReadR (F_Picture_read (nI n) row a1 a2 a3 a4 a5 a6 a7 a8 a9 sg ct cur) (px_kindOf cur (px_lineL n row)) := by
  unfold F_Picture_read px_kindOf
  simp only [F_Picture_forget, Option.bind_some]
  have hS := px_P_split (row := row) (cur := cur) (sg := sg) (ct := ct) hn
  cases hr : px_runsOf cur (px_lineL n row) with
  | none =>
    rw [hr] at hS
    obtain ⟨a, b, c, d, hS⟩ := hS
    rw [hS]
    exact ⟨_, _, rfl⟩
  | some rs =>
    rw [hr] at hS
    obtain ⟨a, c, d, hS, hR⟩ := hS
    rw [hS]
    have hok := px_toks_ok 60 _ _ hr
    have h : px_RH rs.length c d rs := ⟨rfl, hok.1, hR, hok.2⟩
    by_cases e0 : rs = []
    · subst e0
      simp only [if_true]
      exact ⟨_, _, rfl⟩
    · have e1 : ¬ rs.length = 0 := fun q => e0 (List.length_eq_zero_iff.mp q)
      simp only [Option.bind_some, if_neg e0, if_neg e1]
      rw [if_neg (by decide), px_Pn_text rfl h.le hR]
      simp only [Option.bind_some]
      cases ht : px_isTx false rs with
      | true =>
        simp only [if_true]
        rw [if_neg (by decide), px_Pn_places rfl h.le hR]
        exact ⟨_, _, _, rfl, h⟩
      | false =>
        simp only [Bool.false_eq_true, if_false, if_true]
        unfold B_Picture_read_30
        rw [if_neg (by decide)]
        have hN := px_Pn_isOfNumber h (by omega) (x := 0) (y := 0) (z := 0) (w := a) (cur := cur)
        cases hq : px_numOf cur rs with
        | none =>
          rw [hq] at hN
          obtain ⟨u, hN⟩ := hN
          rw [hN]
          exact ⟨_, _, rfl⟩
        | some q =>
          rw [hq] at hN
          obtain ⟨u, hN⟩ := hN
          rw [hN]
          simp only [Option.bind_some]
          rw [if_neg (by decide), px_Pn_places rfl h.le hR]
          exact ⟨_, _, _, rfl, h⟩
