/-! THE REFERENCE, PURE: isNumber, look. -/
def mx_p1 : List Int32 → List Int32
  | [] => []
  | _ :: t => mx_upc t
theorem mx_p1_suf {t : List Int32} : mx_p1 t <:+ t := by
  cases t with
  | nil => exact List.suffix_refl _
  | cons x t => exact mx_upc_suf.trans (List.suffix_cons x t)
theorem mx_p1_norm {t : List Int32} : mx_upc (mx_p1 t) = mx_p1 t := by
  cases t with
  | nil => rfl
  | cons x t => exact mx_upc_upc
theorem mx_passP {m : Nat} {row : Nat → Int32} {ys t : List Int32} (h : mx_RY m row ys) (hs : t <:+ ys) (hd : mx_hd t ≠ -1) : F_EditMovesModel_pass (nI m) row (mx_c m t) 1 = some (mx_c m (mx_p1 t)) := by
  cases t with
  | nil => exact absurd rfl hd
  | cons x t => exact mx_pass1 h hs
theorem mx_pass0 {m : Nat} {row : Nat → Int32} {x : Int32} : F_EditMovesModel_pass (nI m) row x 0 = some x := rfl
theorem mx_end {m : Nat} {row : Nat → Int32} {ys t : List Int32} (h : mx_RY m row ys) (hs : t <:+ ys) : (mx_c m t = nI m) ↔ t = [] := by
  have hl := hs.length_le
  have h1 := h.1
  have h2 := h.2.1
  unfold mx_c
  rw [px_N_eq (by omega) (by omega)]
  constructor
  · intro q
    by_cases c : t.length = 0
    · exact List.length_eq_zero_iff.mp c
    · exact absurd q (by omega)
  · intro q; subst q; simp
abbrev mx_R7 := Int32 × Int32 × Int32 × Int32 × Int32 × Int32 × Int32
def mx_fin (fl : Bool) (g : Nat) (str beg : Int32) (wh pa mo : Nat) (k3 : List Int32) : mx_R7 :=
  (px_bz (decide (k3 = [] ∧ 0 < g - (if fl then 1 else 0) + wh + (mo + pa) ∧ g - (if fl then 1 else 0) + wh + (mo + pa) < 19)), nI (g - (if fl then 1 else 0) + wh), nI (mo + pa), str, beg, nI g, nI (wh + pa))
theorem mx_463 {m : Nat} {row : Nat → Int32} {ys k3 : List Int32} (h : mx_RY m row ys) (hs : k3 <:+ ys) {fl : Bool} {g wh pa mo : Nat} (hf : fl = true → 1 ≤ g) (b1 : g < 10000) (b2 : wh < 10000) (b3 : pa < 10000) (b4 : mo < 10000) {a b str beg nn : Int32} :
    B_EditMovesModel_isNumber_463 (nI m) row a b str beg (nI g) nn (px_bz fl) (nI wh) (nI pa) (nI mo) (mx_c m k3) = some (mx_fin fl g str beg wh pa mo k3) := by
  have hgo : ∀ d : Nat, d ≤ g → B_EditMovesModel_isNumber_479 (nI m) row a b str beg (nI g) nn (mx_c m k3) (nI wh) (nI pa) (nI mo) (nI g) (nI d) = some (px_bz (decide (k3 = [] ∧ 0 < g - d + wh + (mo + pa) ∧ g - d + wh + (mo + pa) < 19)), nI (g - d + wh), nI (mo + pa), str, beg, nI g, nI (wh + pa)) := by
    intro d hd
    unfold B_EditMovesModel_isNumber_479
    rw [px_N_sub hd, px_N_add, px_N_add, px_N_add, px_N_add]
    have q19 : (19 : Int32) = nI 19 := rfl
    by_cases c1 : k3 = []
    · rw [if_pos ((mx_end h hs).mpr c1)]
      by_cases c2 : 0 < g - d + wh + (mo + pa)
      · rw [if_neg (by rw [px_lit0, px_N_le (by omega) (by omega)]; omega)]
        by_cases c3 : g - d + wh + (mo + pa) < 19
        · rw [if_neg (by rw [q19, px_N_le (by omega) (by omega)]; omega)]
          have e : decide (k3 = [] ∧ 0 < g - d + wh + (mo + pa) ∧ g - d + wh + (mo + pa) < 19) = true := decide_eq_true ⟨c1, c2, c3⟩
          rw [e]; rfl
        · rw [if_pos (by rw [q19, px_N_le (by omega) (by omega)]; omega)]
          have e : decide (k3 = [] ∧ 0 < g - d + wh + (mo + pa) ∧ g - d + wh + (mo + pa) < 19) = false := decide_eq_false (fun q => c3 q.2.2)
          rw [e]; rfl
      · rw [if_pos (by rw [px_lit0, px_N_le (by omega) (by omega)]; omega)]
        have e : decide (k3 = [] ∧ 0 < g - d + wh + (mo + pa) ∧ g - d + wh + (mo + pa) < 19) = false := decide_eq_false (fun q => c2 q.2.1)
        rw [e]; rfl
    · rw [if_neg (fun q => c1 ((mx_end h hs).mp q))]
      have e : decide (k3 = [] ∧ 0 < g - d + wh + (mo + pa) ∧ g - d + wh + (mo + pa) < 19) = false := decide_eq_false (fun q => c1 q.1)
      rw [e]; rfl
  unfold B_EditMovesModel_isNumber_463 mx_fin
  cases fl with
  | false =>
    rw [if_pos px_bzf]
    exact hgo 0 (Nat.zero_le _)
  | true =>
    rw [if_neg px_bzt]
    exact hgo 1 (hf rfl)
def mx_k3 (sgs : Bool) (k2 : List Int32) : List Int32 := if (mx_sign (mx_hd k2) || mx_hd k2 == 200 || mx_hd k2 == 201) = true ∧ sgs = false then mx_p1 k2 else k2
theorem mx_k3_suf {sgs : Bool} {t : List Int32} : mx_k3 sgs t <:+ t := by
  unfold mx_k3
  split
  · exact mx_p1_suf
  · exact List.suffix_refl _
theorem mx_401 {m : Nat} {row : Nat → Int32} {ys k2 : List Int32} (h : mx_RY m row ys) (hs : k2 <:+ ys) {fl sgs : Bool} {g wh pa mo : Nat} (hf : fl = true → 1 ≤ g) (b1 : g < 10000) (b2 : wh < 10000) (b3 : pa < 10000) (b4 : mo < 10000) {a b str beg nn : Int32} :
    B_EditMovesModel_isNumber_401 (nI m) row a b str beg (nI g) nn (mx_c m k2) (px_bz fl) (nI wh) (nI pa) (nI mo) (px_bz sgs) = some (mx_fin fl g str beg wh pa mo (mx_k3 sgs k2)) := by
  have h62 : B_EditMovesModel_isNumber_462 (nI m) row a b str beg (nI g) nn (mx_c m k2) (px_bz fl) (nI wh) (nI pa) (nI mo) = some (mx_fin fl g str beg wh pa mo k2) := mx_463 h hs hf b1 b2 b3 b4
  have h41 : ∀ la : Bool, (la = true → mx_hd k2 ≠ -1) → B_EditMovesModel_isNumber_441 (nI m) row a b str beg (nI g) nn (mx_c m k2) (px_bz fl) (nI wh) (nI pa) (nI mo) (px_bz sgs) (px_bz la) = some (mx_fin fl g str beg wh pa mo (if la = true ∧ sgs = false then mx_p1 k2 else k2)) := by
    intro la hla
    unfold B_EditMovesModel_isNumber_441
    cases la with
    | false =>
      rw [if_pos px_bzf, h62, if_neg (fun q => by cases q.1)]
    | true =>
      rw [if_neg px_bzt]
      cases sgs with
      | true =>
        rw [if_neg px_bzt, h62, if_neg (fun q => by cases q.2)]
      | false =>
        rw [if_pos px_bzf, mx_passP h hs (hla rfl), if_pos ⟨rfl, rfl⟩]
        simp only [Option.bind_some]
        exact mx_463 h (mx_p1_suf.trans hs) hf b1 b2 b3 b4
  have t1 := h41 true
  have t0 := h41 false
  have q1 : px_bz true = 1 := rfl
  have q0 : px_bz false = 0 := rfl
  rw [q1] at t1
  rw [q0] at t0
  unfold B_EditMovesModel_isNumber_401 B_EditMovesModel_isNumber_436 mx_k3
  rw [mx_signOf h hs]
  simp only [Option.bind_some, mx_F_isSign, px_bz_ne]
  cases c1 : mx_sign (mx_hd k2) with
  | true =>
    have hne : mx_hd k2 ≠ -1 := by
      intro q; rw [q] at c1; revert c1; decide
    rw [if_neg (by decide), t1 (fun _ => hne)]
    simp
  | false =>
    rw [if_pos rfl]
    by_cases c2 : mx_hd k2 = 200
    · rw [if_pos c2, t1 (fun _ => by rw [c2]; decide)]
      simp [c2]
    · rw [if_neg c2]
      by_cases c3 : mx_hd k2 = 201
      · rw [if_pos c3, t1 (fun _ => by rw [c3]; decide)]
        simp [c3]
      · rw [if_neg c3, t0 (fun q => by cases q)]
        simp [c2, c3]
def mx_sgs (sg fl : Bool) (str : Int32) : Bool := sg || (fl && mx_sign str)
theorem mx_377 {m : Nat} {row : Nat → Int32} {ys k2 : List Int32} (h : mx_RY m row ys) (hs : k2 <:+ ys) {fl sg : Bool} {g wh pa mo : Nat} (hf : fl = true → 1 ≤ g) (b1 : g < 10000) (b2 : wh < 10000) (b3 : pa < 10000) (b4 : mo < 10000) {a b str beg nn : Int32} :
    B_EditMovesModel_isNumber_377 (nI m) row a b str beg (nI g) nn (mx_c m k2) (px_bz sg) (px_bz fl) (nI wh) (nI pa) (nI mo) = some (mx_fin fl g str beg wh pa mo (mx_k3 (mx_sgs sg fl str) k2)) := by
  have h1 := mx_401 h hs hf b1 b2 b3 b4 (sgs := true) (a := a) (b := b) (str := str) (beg := beg) (nn := nn)
  have h0 := mx_401 h hs hf b1 b2 b3 b4 (sgs := false) (a := a) (b := b) (str := str) (beg := beg) (nn := nn)
  have q1 : px_bz true = 1 := rfl
  have q0 : px_bz false = 0 := rfl
  unfold B_EditMovesModel_isNumber_377 B_EditMovesModel_isNumber_396 B_EditMovesModel_isNumber_400 mx_sgs
  rw [q1] at h1
  rw [q0] at h0
  rw [mx_F_isSign]
  simp only [Option.bind_some, px_bz_ne]
  cases sg with
  | true => rw [if_neg (by decide), h1]; rfl
  | false =>
    rw [if_pos rfl]
    cases hfl : fl with
    | false => rw [hfl] at h0; rw [if_pos rfl]; exact h0
    | true =>
      rw [hfl] at h0 h1
      rw [if_neg (by decide)]
      cases hs9 : mx_sign str with
      | false => rw [if_pos rfl]; exact h0
      | true => rw [if_neg (by decide)]; exact h1
/-- from behind the string on: the nines, the point, what is behind it, the end -/
def mx_rest (sg fl : Bool) (g : Nat) (str beg : Int32) (t : List Int32) : mx_R7 :=
  if mx_hd (mx_all 57 t).2 = 46 ∨ mx_hd (mx_all 57 t).2 = 86 then
    (if str ≠ 0 ∧ (mx_all 57 t).1 = 0 then
      mx_fin fl g str beg (mx_all 57 t).1 (mx_all 57 (mx_all str (mx_p1 (mx_all 57 t).2)).2).1 (mx_all str (mx_p1 (mx_all 57 t).2)).1 (mx_k3 (mx_sgs sg fl str) (mx_all 57 (mx_all str (mx_p1 (mx_all 57 t).2)).2).2)
    else
      mx_fin fl g str beg (mx_all 57 t).1 (mx_all 57 (mx_p1 (mx_all 57 t).2)).1 0 (mx_k3 (mx_sgs sg fl str) (mx_all 57 (mx_p1 (mx_all 57 t).2)).2))
  else mx_fin fl g str beg (mx_all 57 t).1 0 0 (mx_k3 (mx_sgs sg fl str) (mx_all 57 t).2)
theorem mx_i57 : px_isI 57 = false := by decide
theorem mx_n57 : (57 : Int32) ≠ -1 := by decide
theorem mx_small {m : Nat} {row : Nat → Int32} {ys t : List Int32} (h : mx_RY m row ys) (hs : t <:+ ys) {s : Int32} : (mx_all s t).1 < 10000 := by
  have hl := hs.length_le
  have h1 := h.1
  have h2 := h.2.1
  have h3 := @mx_all_le s t
  omega
theorem mx_275 {m : Nat} {row : Nat → Int32} {ys t : List Int32} (h : mx_RY m row ys) (hs : t <:+ ys) (ht : mx_upc t = t) {fl sg : Bool} {g : Nat} (hf : fl = true → 1 ≤ g) (b1 : g < 10000) {a b str beg nn : Int32} (hi : px_isI str = false) (hn : str ≠ -1) :
    B_EditMovesModel_isNumber_275 (nI m) row a b str beg (nI g) nn (mx_c m t) (px_bz sg) (px_bz fl) = some (mx_rest sg fl g str beg t) := by
  have s1 : (mx_all 57 t).2 <:+ ys := mx_all_suf.trans hs
  have n1 : mx_upc (mx_all 57 t).2 = (mx_all 57 t).2 := mx_all_norm
  have l1 := mx_small h hs (s := 57)
  have h350 : ∀ (r0 ρ : List Int32) (mo : Nat), ρ <:+ ys → mx_upc ρ = ρ → mo < 10000 → F_EditMovesModel_pass (nI m) row (mx_c m r0) (nI mo) = some (mx_c m ρ) →
      B_EditMovesModel_isNumber_350 (nI m) row a b str beg (nI g) nn (mx_c m r0) (px_bz sg) (px_bz fl) (nI (mx_all 57 t).1) (nI mo) = some (mx_fin fl g str beg (mx_all 57 t).1 (mx_all 57 ρ).1 mo (mx_k3 (mx_sgs sg fl str) (mx_all 57 ρ).2)) := by
    intro r0 ρ mo hρ hρn hmo hp
    unfold B_EditMovesModel_isNumber_350
    rw [hp]
    simp only [Option.bind_some]
    rw [mx_run h mx_i57 mx_n57 hρ hρn]
    simp only [Option.bind_some]
    rw [mx_pass h mx_i57 hρ hρn]
    simp only [Option.bind_some]
    exact mx_377 h (mx_all_suf.trans hρ) hf b1 l1 (mx_small h hρ) hmo
  have h318 : mx_hd (mx_all 57 t).2 ≠ -1 → B_EditMovesModel_isNumber_318 (nI m) row a b str beg (nI g) nn (mx_c m (mx_all 57 t).2) (px_bz sg) (px_bz fl) (nI (mx_all 57 t).1) = some (if str ≠ 0 ∧ (mx_all 57 t).1 = 0 then
      mx_fin fl g str beg (mx_all 57 t).1 (mx_all 57 (mx_all str (mx_p1 (mx_all 57 t).2)).2).1 (mx_all str (mx_p1 (mx_all 57 t).2)).1 (mx_k3 (mx_sgs sg fl str) (mx_all 57 (mx_all str (mx_p1 (mx_all 57 t).2)).2).2)
    else
      mx_fin fl g str beg (mx_all 57 t).1 (mx_all 57 (mx_p1 (mx_all 57 t).2)).1 0 (mx_k3 (mx_sgs sg fl str) (mx_all 57 (mx_p1 (mx_all 57 t).2)).2)) := by
    intro hd
    have sp : mx_p1 (mx_all 57 t).2 <:+ ys := mx_p1_suf.trans s1
    unfold B_EditMovesModel_isNumber_318 B_EditMovesModel_isNumber_349
    rw [mx_passP h s1 hd]
    simp only [Option.bind_some]
    have hz : B_EditMovesModel_isNumber_350 (nI m) row a b str beg (nI g) nn (mx_c m (mx_p1 (mx_all 57 t).2)) (px_bz sg) (px_bz fl) (nI (mx_all 57 t).1) 0 = _ := h350 (mx_p1 (mx_all 57 t).2) (mx_p1 (mx_all 57 t).2) 0 sp mx_p1_norm (by decide) mx_pass0
    by_cases c1 : str = 0
    · rw [if_pos c1, if_neg (fun q => q.1 c1), hz]
    · rw [if_neg c1]
      by_cases c2 : (mx_all 57 t).1 = 0
      · have c3 : nI (mx_all 57 t).1 = 0 := by rw [c2]; rfl
        rw [if_pos c3, if_pos ⟨c1, c2⟩, mx_run h hi hn sp mx_p1_norm]
        simp only [Option.bind_some]
        exact h350 _ _ _ (mx_all_suf.trans sp) mx_all_norm (mx_small h sp) (mx_pass h hi sp mx_p1_norm)
      · have c3 : ¬ nI (mx_all 57 t).1 = 0 := by rw [px_lit0, px_N_eq (by omega) (by omega)]; exact c2
        rw [if_neg c3, if_neg (fun q => c2 q.2), hz]
  unfold B_EditMovesModel_isNumber_275 mx_rest
  rw [mx_run h mx_i57 mx_n57 hs ht]
  simp only [Option.bind_some]
  rw [mx_pass h mx_i57 hs ht]
  simp only [Option.bind_some]
  rw [mx_signOf h s1]
  simp only [Option.bind_some]
  by_cases c1 : mx_hd (mx_all 57 t).2 = 46
  · rw [if_pos c1, if_pos (Or.inl c1), h318 (by rw [c1]; decide)]
  · rw [if_neg c1]
    by_cases c2 : mx_hd (mx_all 57 t).2 = 86
    · rw [if_pos c2, if_pos (Or.inr c2), h318 (by rw [c2]; decide)]
    · rw [if_neg c2, if_neg (fun q => q.elim c1 c2)]
      exact mx_377 h s1 hf b1 l1 (by decide : (0 : Nat) < 10000) (by decide : (0 : Nat) < 10000)
/-- the string: whether one is taken, whether it floats -/
def mx_fl (sg fx : Bool) (t : List Int32) : Bool := (mx_sign (mx_hd t) && !sg && decide (1 < (mx_all (mx_hd t) t).1)) || (mx_hd t == 202 && !fx && decide (1 < (mx_all (mx_hd t) t).1))
def mx_tk (sg fx : Bool) (t : List Int32) : Bool := mx_hd t == 90 || mx_hd t == 42 || mx_fl sg fx t
def mx_str (m : Nat) (sg fx : Bool) (beg : Int32) (t : List Int32) : mx_R7 :=
  if mx_tk sg fx t = true then mx_rest sg (mx_fl sg fx t) (mx_all (mx_hd t) t).1 (mx_hd t) (mx_c m t) (mx_all (mx_hd t) t).2
  else mx_rest sg false 0 0 beg t
theorem mx_tk_ok {sg fx : Bool} {t : List Int32} (h : mx_tk sg fx t = true) : px_isI (mx_hd t) = false ∧ mx_hd t ≠ -1 ∧ mx_hd t ≠ 0 := by
  unfold mx_tk mx_fl mx_sign at h
  generalize mx_hd t = s at *
  have : s = 90 ∨ s = 42 ∨ s = 43 ∨ s = 45 ∨ s = 202 := by
    simp only [Bool.or_eq_true, Bool.and_eq_true, beq_iff_eq] at h
    rcases h with (h | h) | (h | h)
    · exact Or.inl h
    · exact Or.inr (Or.inl h)
    · rcases h.1.1 with h | h
      · exact Or.inr (Or.inr (Or.inl h))
      · exact Or.inr (Or.inr (Or.inr (Or.inl h)))
    · exact Or.inr (Or.inr (Or.inr (Or.inr h.1.1)))
  rcases this with rfl | rfl | rfl | rfl | rfl <;> decide
theorem mx_fl_two {sg fx : Bool} {t : List Int32} (h : mx_fl sg fx t = true) : 1 < (mx_all (mx_hd t) t).1 := by
  unfold mx_fl at h
  simp only [Bool.or_eq_true, Bool.and_eq_true, decide_eq_true_eq] at h
  rcases h with h | h
  · exact h.2
  · exact h.2
theorem mx_163 {m : Nat} {row : Nat → Int32} {ys t : List Int32} (h : mx_RY m row ys) (hs : t <:+ ys) (ht : mx_upc t = t) {sg fx : Bool} {a b beg nn : Int32} :
    B_EditMovesModel_isNumber_163 (nI m) row a b 0 beg 0 nn (px_bz sg) (px_bz fx) (mx_c m t) = some (mx_str m sg fx beg t) := by
  have hl := mx_small h hs (s := mx_hd t)
  have h243 : ∀ fl : Bool, (mx_hd t = 90 ∨ mx_hd t = 42 ∨ fl = true) → px_isI (mx_hd t) = false → mx_hd t ≠ -1 → (fl = true → 1 ≤ (mx_all (mx_hd t) t).1) → B_EditMovesModel_isNumber_243 (nI m) row a b 0 beg 0 nn (mx_c m t) (px_bz sg) (mx_hd t) (px_bz fl) = some (mx_rest sg fl (mx_all (mx_hd t) t).1 (mx_hd t) (mx_c m t) (mx_all (mx_hd t) t).2) := by
    intro fl _ hi hn hf
    unfold B_EditMovesModel_isNumber_243
    rw [mx_run h hi hn hs ht]
    simp only [Option.bind_some]
    rw [mx_pass h hi hs ht]
    simp only [Option.bind_some]
    exact mx_275 h (mx_all_suf.trans hs) mx_all_norm hf hl hi hn
  have h222 : ∀ fl : Bool, (fl = true → px_isI (mx_hd t) = false ∧ mx_hd t ≠ -1 ∧ 1 ≤ (mx_all (mx_hd t) t).1) → B_EditMovesModel_isNumber_222 (nI m) row a b 0 beg 0 nn (mx_c m t) (px_bz sg) (mx_hd t) (px_bz fl) = some (if mx_hd t = 90 ∨ mx_hd t = 42 ∨ fl = true then mx_rest sg fl (mx_all (mx_hd t) t).1 (mx_hd t) (mx_c m t) (mx_all (mx_hd t) t).2 else mx_rest sg false 0 0 beg t) := by
    intro fl hfl
    unfold B_EditMovesModel_isNumber_222
    by_cases c1 : mx_hd t = 90
    · rw [if_pos c1, if_pos (Or.inl c1)]
      exact h243 fl (Or.inl c1) (by rw [c1]; decide) (by rw [c1]; decide) (fun q => (hfl q).2.2)
    · rw [if_neg c1]
      by_cases c2 : mx_hd t = 42
      · rw [if_pos c2, if_pos (Or.inr (Or.inl c2))]
        exact h243 fl (Or.inr (Or.inl c2)) (by rw [c2]; decide) (by rw [c2]; decide) (fun q => (hfl q).2.2)
      · rw [if_neg c2]
        cases fl with
        | false =>
          rw [if_pos px_bzf, if_neg (fun q => q.elim c1 (fun q => q.elim c2 (fun q => by cases q)))]
          exact mx_275 (sg := sg) (fl := false) (g := 0) h hs ht (fun q => by cases q) (by decide) (by decide) (by decide)
        | true =>
          rw [if_neg px_bzt, if_pos (Or.inr (Or.inr rfl))]
          exact h243 true (Or.inr (Or.inr rfl)) (hfl rfl).1 (hfl rfl).2.1 (fun _ => (hfl rfl).2.2)
  have hfin : ∀ fl : Bool, mx_fl sg fx t = fl → B_EditMovesModel_isNumber_222 (nI m) row a b 0 beg 0 nn (mx_c m t) (px_bz sg) (mx_hd t) (px_bz fl) = some (mx_str m sg fx beg t) := by
    intro fl e
    rw [h222 fl (fun q => by
      have hk : mx_tk sg fx t = true := by unfold mx_tk; rw [e, q]; simp
      have h2 := mx_fl_two (e.trans q)
      exact ⟨(mx_tk_ok hk).1, (mx_tk_ok hk).2.1, by omega⟩)]
    unfold mx_str mx_tk
    rw [e]
    congr 1
    by_cases c1 : mx_hd t = 90 <;> by_cases c2 : mx_hd t = 42 <;> cases fl <;> simp [c1, c2]
  have q1 : px_bz true = 1 := rfl
  have q0 : px_bz false = 0 := rfl
  have h1 := hfin true
  have h0 := hfin false
  rw [q1] at h1
  rw [q0] at h0
  have n202 : px_isI 202 = false := by decide
  have m202 : (202 : Int32) ≠ -1 := by decide
  have h194 : (mx_sign (mx_hd t) && !sg && decide (1 < (mx_all (mx_hd t) t).1)) = false → B_EditMovesModel_isNumber_194 (nI m) row a b 0 beg 0 nn (mx_c m t) (px_bz sg) (px_bz fx) (mx_hd t) = some (mx_str m sg fx beg t) := by
    intro e
    have e2 : mx_fl sg fx t = (mx_hd t == 202 && !fx && decide (1 < (mx_all (mx_hd t) t).1)) := by unfold mx_fl; rw [e]; simp
    unfold B_EditMovesModel_isNumber_194 B_EditMovesModel_isNumber_217 B_EditMovesModel_isNumber_221
    by_cases c1 : mx_hd t = 202
    · rw [if_pos c1]
      cases fx with
      | true =>
        rw [if_neg px_bzt]
        exact h0 (by rw [e2]; simp)
      | false =>
        rw [if_pos px_bzf]
        have hr := mx_run h (s := mx_hd t) (by rw [c1]; exact n202) (by rw [c1]; exact m202) hs ht
        rw [hr]
        simp only [Option.bind_some]
        by_cases c2 : 1 < (mx_all (mx_hd t) t).1
        · rw [if_neg (by rw [px_lit1, px_N_le (by omega) (by omega)]; omega)]
          exact h1 (by rw [e2]; simp [c1]; rw [c1] at c2; exact c2)
        · rw [if_pos (by rw [px_lit1, px_N_le (by omega) (by omega)]; omega)]
          exact h0 (by rw [e2]; simp [c1]; rw [c1] at c2; omega)
    · rw [if_neg c1]
      exact h0 (by rw [e2]; simp [c1])
  unfold B_EditMovesModel_isNumber_163
  rw [mx_signOf h hs]
  simp only [Option.bind_some, mx_F_isSign, px_bz_ne]
  cases c1 : mx_sign (mx_hd t) with
  | false =>
    rw [if_pos rfl]
    exact h194 (by rw [c1]; rfl)
  | true =>
    rw [if_neg (by decide)]
    cases hsg : sg with
    | true =>
      rw [if_neg (by decide)]
      rw [hsg] at h194
      exact h194 (by simp)
    | false =>
      rw [if_pos rfl]
      rw [hsg] at h194 h1
      have hi : px_isI (mx_hd t) = false ∧ mx_hd t ≠ -1 := by
        unfold mx_sign at c1
        generalize mx_hd t = s at *
        simp only [Bool.or_eq_true, beq_iff_eq] at c1
        rcases c1 with rfl | rfl <;> decide
      rw [mx_run h hi.1 hi.2 hs ht]
      simp only [Option.bind_some]
      by_cases c2 : 1 < (mx_all (mx_hd t) t).1
      · rw [if_pos (by rw [px_lit1, px_N_lt (by omega) (by omega)]; exact c2)]
        exact h1 (by unfold mx_fl; rw [c1]; simp [c2])
      · rw [if_neg (by rw [px_lit1, px_N_lt (by omega) (by omega)]; exact c2)]
        exact h194 (by rw [c1]; simp; omega)
/-- the fixed sign, the fixed currency sign, the string -/
def mx_sg1 (t : List Int32) : Bool := mx_sign (mx_hd t) && decide ((mx_all (mx_hd t) t).1 = 1)
def mx_fx1 (t : List Int32) : Bool := mx_hd t == 202 && decide ((mx_all 202 t).1 = 1)
def mx_u1 (t : List Int32) : List Int32 := if mx_sg1 t = true then mx_p1 t else t
def mx_u2 (t : List Int32) : List Int32 := if mx_fx1 t = true then mx_p1 t else t
def mx_num (m : Nat) (beg : Int32) (t : List Int32) : mx_R7 := mx_str m (mx_sg1 t) (mx_fx1 (mx_u1 t)) beg (mx_u2 (mx_u1 t))
theorem mx_119 {m : Nat} {row : Nat → Int32} {ys t : List Int32} (h : mx_RY m row ys) (hs : t <:+ ys) (ht : mx_upc t = t) {sg : Bool} {a b beg nn : Int32} :
    B_EditMovesModel_isNumber_119 (nI m) row a b 0 beg 0 nn (px_bz sg) (mx_c m t) = some (mx_str m sg (mx_fx1 t) beg (mx_u2 t)) := by
  have hl := mx_small h hs (s := 202)
  have h148 : ∀ fx : Bool, (fx = true → mx_hd t ≠ -1) → B_EditMovesModel_isNumber_148 (nI m) row a b 0 beg 0 nn (mx_c m t) (px_bz sg) (px_bz fx) = some (mx_str m sg fx beg (if fx = true then mx_p1 t else t)) := by
    intro fx hfx
    unfold B_EditMovesModel_isNumber_148
    cases fx with
    | false => rw [if_pos px_bzf, if_neg (by decide)]; exact mx_163 (fx := false) h hs ht
    | true =>
      rw [if_neg px_bzt, if_pos rfl, mx_passP h hs (hfx rfl)]
      simp only [Option.bind_some]
      exact mx_163 (fx := true) h (mx_p1_suf.trans hs) mx_p1_norm
  unfold B_EditMovesModel_isNumber_119 B_EditMovesModel_isNumber_147 mx_u2
  rw [mx_signOf h hs]
  simp only [Option.bind_some]
  by_cases c1 : mx_hd t = 202
  · rw [if_pos c1, mx_run h (s := 202) (by decide) (by decide) hs ht]
    simp only [Option.bind_some]
    by_cases c2 : (mx_all 202 t).1 = 1
    · have e : mx_fx1 t = true := by unfold mx_fx1; simp [c1, c2]
      rw [if_pos (by rw [c2]; rfl), e]
      exact h148 true (fun _ => by rw [c1]; decide)
    · have e : mx_fx1 t = false := by unfold mx_fx1; simp [c2]
      rw [if_neg (by rw [px_lit1, px_N_eq (by omega) (by omega)]; exact c2), e]
      exact h148 false (fun q => by cases q)
  · have e : mx_fx1 t = false := by unfold mx_fx1; simp [c1]
    rw [if_neg c1, e]
    exact h148 false (fun q => by cases q)
theorem mx_104 {m : Nat} {row : Nat → Int32} {ys t : List Int32} (h : mx_RY m row ys) (hs : t <:+ ys) (ht : mx_upc t = t) {sg : Bool} (hsg : sg = true → mx_hd t ≠ -1) {a b beg nn : Int32} :
    B_EditMovesModel_isNumber_104 (nI m) row a b 0 beg 0 nn (mx_c m t) (px_bz sg) = some (mx_str m sg (mx_fx1 (if sg = true then mx_p1 t else t)) beg (mx_u2 (if sg = true then mx_p1 t else t))) := by
  unfold B_EditMovesModel_isNumber_104
  cases sg with
  | false => rw [if_pos px_bzf]; exact mx_119 (sg := false) h hs ht
  | true =>
    rw [if_neg px_bzt, mx_passP h hs (hsg rfl)]
    simp only [Option.bind_some]
    exact mx_119 (sg := true) h (mx_p1_suf.trans hs) mx_p1_norm
/-- an insertion stands behind a credit -/
def mx_bad : Int32 → List Int32 → Bool
  | _, [] => false
  | p, x :: t => (px_isI x && (p == 200 || p == 201)) || mx_bad x t
theorem mx_2 {m : Nat} {row : Nat → Int32} {ys : List Int32} (h : mx_RY m row ys) {a b str beg g nn : Int32} : ∀ (t : List Int32) (p : Int32) (f : Nat), (p :: t) <:+ ys → t.length < f →
    B_EditMovesModel_isNumber_2 (nI m) row f a b str beg g nn (mx_c m t) = some (if mx_bad p t = true then (0, a, b, str, beg, g, nn) else mx_num m beg (mx_upc ys)) := by
  have h2 := h.2.1
  have h1 := h.1
  have hlast : ((F_EditMovesModel_main (nI m) row 0).bind fun r_507 => (F_EditMovesModel_signOf (nI m) row r_507).bind fun r_508 => (F_EditMovesModel_isSign r_508).bind fun r_509 => if r_509 = 0 then B_EditMovesModel_isNumber_103 (nI m) row a b 0 beg 0 nn r_507 else (F_EditMovesModel_signOf (nI m) row r_507).bind fun r_511 => (F_EditMovesModel_run (nI m) row r_507 r_511).bind fun r_512 => if r_512 = 1 then B_EditMovesModel_isNumber_104 (nI m) row a b 0 beg 0 nn r_507 1 else B_EditMovesModel_isNumber_103 (nI m) row a b 0 beg 0 nn r_507) = some (mx_num m beg (mx_upc ys)) := by
    have e0 : (0 : Int32) = mx_c m ys := by unfold mx_c; rw [h1]; simp [px_lit0]
    have hmn := mx_main h (List.suffix_refl ys)
    rw [← e0] at hmn
    have hs : mx_upc ys <:+ ys := mx_upc_suf
    have hl := mx_small h hs (s := mx_hd (mx_upc ys))
    have k1 := mx_104 h hs mx_upc_upc (sg := true) (a := a) (b := b) (beg := beg) (nn := nn)
    have k0 := mx_104 h hs mx_upc_upc (sg := false) (fun q => by cases q) (a := a) (b := b) (beg := beg) (nn := nn)
    have q1 : px_bz true = 1 := rfl
    have q0 : px_bz false = 0 := rfl
    rw [q1] at k1
    rw [q0] at k0
    rw [hmn]
    simp only [Option.bind_some]
    rw [mx_signOf h hs]
    simp only [Option.bind_some, mx_F_isSign, px_bz_ne]
    unfold B_EditMovesModel_isNumber_103 mx_num mx_u1
    cases c1 : mx_sign (mx_hd (mx_upc ys)) with
    | false =>
      have e : mx_sg1 (mx_upc ys) = false := by unfold mx_sg1; rw [c1]; rfl
      rw [if_pos rfl, e]
      exact k0
    | true =>
      have hi : px_isI (mx_hd (mx_upc ys)) = false ∧ mx_hd (mx_upc ys) ≠ -1 := by
        unfold mx_sign at c1
        generalize mx_hd (mx_upc ys) = s at *
        simp only [Bool.or_eq_true, beq_iff_eq] at c1
        rcases c1 with rfl | rfl <;> decide
      rw [if_neg (by decide), mx_run h hi.1 hi.2 hs mx_upc_upc]
      simp only [Option.bind_some]
      by_cases c2 : (mx_all (mx_hd (mx_upc ys)) (mx_upc ys)).1 = 1
      · have e : mx_sg1 (mx_upc ys) = true := by unfold mx_sg1; rw [c1]; simp [c2]
        rw [if_pos (by rw [c2]; rfl), e]
        exact k1 (fun _ => hi.2)
      · have e : mx_sg1 (mx_upc ys) = false := by unfold mx_sg1; rw [c1]; simp [c2]
        rw [if_neg (by rw [px_lit1, px_N_eq (by omega) (by omega)]; exact c2), e]
        exact k0
  intro t
  induction t with
  | nil =>
    intro p f hs hf
    obtain ⟨f, rfl⟩ : ∃ g, f = g + 1 := ⟨f - 1, by omega⟩
    unfold B_EditMovesModel_isNumber_2
    rw [if_pos (by unfold mx_c; rw [px_N_le (by omega) (by simp; omega)]; simp), hlast]
    simp [mx_bad]
  | cons x t ih =>
    intro p f hs hf
    obtain ⟨f, rfl⟩ : ∃ g, f = g + 1 := ⟨f - 1, by omega⟩
    have hs2 : (x :: t) <:+ ys := mx_tl hs
    have hl := hs2.length_le
    have hlp := hs.length_le
    rw [h1] at hl hlp
    have hl0 : 1 ≤ (x :: t).length := by simp
    have hlp1 : (p :: x :: t).length = (x :: t).length + 1 := by simp
    have e := mx_here h hs2
    have ep := mx_here h hs
    have e3 := mx_step h1 hs2
    have c1 : ¬ nI m ≤ mx_c m (x :: t) := by unfold mx_c; rw [px_N_le (by omega) (by omega)]; omega
    have c3 : (mx_c m (x :: t)).toNatClampNeg = m - (x :: t).length := by unfold mx_c; rw [px_N_clamp (by omega)]
    have c4 : ∀ k : Option mx_R7, wgd (mx_c m (x :: t)) 1400 k = k := by intro k; unfold mx_c; rw [px_wgd_in (by omega) (by omega)]
    have d0 : mx_c m (x :: t) - 1 = mx_c m (p :: x :: t) := by
      unfold mx_c
      rw [px_lit1, px_N_sub (by omega)]
      congr 1; try omega
    have d3 : (mx_c m (p :: x :: t)).toNatClampNeg = m - (p :: x :: t).length := by unfold mx_c; rw [px_N_clamp (by omega)]
    have d4 : ∀ k : Option mx_R7, wgd (mx_c m (p :: x :: t)) 1400 k = k := by intro k; unfold mx_c; rw [px_wgd_in (by omega) (by omega)]
    unfold B_EditMovesModel_isNumber_2
    rw [if_neg c1, c4, c3, e, mx_F_ins, e3, d0, d4, d3, ep, d4]
    simp only [Option.bind_some]
    have hi := ih x f hs2 (by simp at hf; omega)
    have eb : mx_bad p (x :: t) = ((px_isI x && (p == 200 || p == 201)) || mx_bad x t) := rfl
    rw [hi, eb]
    cases hx : px_isI x with
    | false => simp
    | true =>
      by_cases a1 : p = 200
      · simp [a1]
      · by_cases a2 : p = 201
        · simp [a2]
        · simp [a1, a2]
theorem mx_isNumber {m : Nat} {row : Nat → Int32} {ys : List Int32} {x : Int32} {t : List Int32} (h : mx_RY m row ys) (hy : ys = x :: t) {a b str beg g nn : Int32} :
    F_EditMovesModel_isNumber (nI m) row a b str beg g nn = some (if mx_bad x t = true then (0, a, b, str, beg, g, nn) else mx_num m beg (mx_upc ys)) := by
  have h2 := h.2.1
  have h1 := h.1
  have e1 : (1 : Int32) = mx_c m t := by
    unfold mx_c
    rw [hy] at h1
    rw [← h1]
    simp [px_lit1]
  have hs : (x :: t) <:+ ys := by rw [hy]; exact List.suffix_refl _
  have hl := hs.length_le
  have := mx_2 h (a := a) (b := b) (str := str) (beg := beg) (g := g) (nn := nn) t x fv hs (by show _ < 4000; simp at hl; omega)
  rw [← e1] at this
  exact this
