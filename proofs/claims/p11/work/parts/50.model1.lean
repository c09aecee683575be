/-! THE REFERENCE, PURE: its scan of the picture into a flat row of signs; main, run, pass over that row. -/
theorem mx_m1 : ¬ (-1 : Int32) = 0 := by decide
theorem mx_at0 {n j : Nat} {pic : Nat → Int32} (hn : n ≤ 60) (hj : j < 100000) : F_EditMovesModel_at0 (nI n) pic (nI j) = some ((px_lineL n pic).getD j (-1)) := by
  unfold F_EditMovesModel_at0
  rw [px_lineL_getD]
  by_cases h : j < n
  · rw [if_neg (by rw [px_N_le (by omega) (by omega)]; omega), px_wgd_in (by omega) (by omega), px_N_clamp (by omega), if_pos h]
  · rw [if_pos (by rw [px_N_le (by omega) (by omega)]; omega), if_neg h]
def mx_great (c : Int32) : Int32 := if c < 97 then c else if 122 < c then c else c - 32
theorem mx_F_great (c : Int32) : F_EditMovesModel_great c = some (mx_great c) := by
  unfold F_EditMovesModel_great mx_great
  split
  · rfl
  · split <;> rfl
def mx_one (g : Int32) : Bool := g == 57 || g == 90 || g == 42 || g == 43 || g == 45 || g == 66 || g == 48 || g == 47 || g == 44 || g == 46 || g == 86 || g == 88
/-- the sign ahead; -1: none -/
def mx_sg (mon : Int32) (xs : List Int32) : Int32 :=
  if xs.getD 0 (-1) = mon then 202
  else if mx_great (xs.getD 0 (-1)) = 67 then (if mx_great (xs.getD 1 (-1)) = 82 then 200 else -1)
  else if mx_great (xs.getD 0 (-1)) = 68 then (if mx_great (xs.getD 1 (-1)) = 66 then 201 else -1)
  else if mx_one (mx_great (xs.getD 0 (-1))) = true then mx_great (xs.getD 0 (-1)) else -1
theorem mx_F_signAt {n j : Nat} {pic : Nat → Int32} {mon : Int32} (hn : n ≤ 60) (hj : j < 1000) : F_EditMovesModel_signAt (nI n) mon pic (nI j) = some (mx_sg mon ((px_lineL n pic).drop j)) := by
  unfold F_EditMovesModel_signAt mx_sg
  rw [show (nI j + 1 : Int32) = nI (j + 1) from px_N_add _ _]
  rw [mx_at0 hn (by omega), mx_at0 hn (by omega)]
  simp only [Option.bind_some, mx_F_great, px_drop_getD, Nat.add_zero, B_EditMovesModel_signAt_153, B_EditMovesModel_signAt_158]
  generalize (px_lineL n pic).getD j (-1) = c
  generalize (px_lineL n pic).getD (j + 1) (-1) = d
  by_cases h0 : c = mon
  · rw [if_pos h0, if_pos h0]
  · rw [if_neg h0, if_neg h0]
    generalize mx_great c = g
    by_cases h1 : g = 67
    · rw [if_pos h1, if_pos h1]; split <;> rfl
    · rw [if_neg h1, if_neg h1]
      by_cases h2 : g = 68
      · rw [if_pos h2, if_pos h2]; split <;> rfl
      · rw [if_neg h2, if_neg h2]
        have e1 : ¬ (1 : Int32) = 0 := by decide
        simp only [if_neg e1, if_true]
        unfold mx_one
        by_cases a1 : g = 57
        · simp [a1]
        by_cases a2 : g = 90
        · simp [a2]
        by_cases a3 : g = 42
        · simp [a3]
        by_cases a4 : g = 43
        · simp [a4]
        by_cases a5 : g = 45
        · simp [a5]
        by_cases a6 : g = 66
        · simp [a6]
        by_cases a7 : g = 48
        · simp [a7]
        by_cases a8 : g = 47
        · simp [a8]
        by_cases a9 : g = 44
        · simp [a9]
        by_cases b1 : g = 46
        · simp [b1]
        by_cases b2 : g = 86
        · simp [b2]
        by_cases b3 : g = 88
        · simp [b3]
        simp [a1, a2, a3, a4, a5, a6, a7, a8, a9, b1, b2, b3]
theorem mx_F_isDigit (c : Int32) : F_EditMovesModel_isDigit c = some (if px_isD c then 1 else 0) := by
  unfold F_EditMovesModel_isDigit px_isD
  by_cases h1 : c < 48
  · simp [h1]
  · by_cases h2 : (57 : Int32) < c
    · simp [h1, h2]
    · simp [h1, h2]
/-- the count ahead (1: none stands there; 0: what stands there is none), and how many characters it takes -/
def mx_ct (ys : List Int32) : Nat × Nat :=
  if ys.getD 0 (-1) = 40 then
    if px_isD (ys.getD 1 (-1)) = true then
      if px_isD (ys.getD 2 (-1)) = true then (if ys.getD 3 (-1) = 41 then (10 * px_dv (ys.getD 1 (-1)) + px_dv (ys.getD 2 (-1)), 4) else (0, 0))
      else (if ys.getD 2 (-1) = 41 then (px_dv (ys.getD 1 (-1)), 3) else (0, 0))
    else (0, 0)
  else (1, 0)
theorem mx_ct_le {ys : List Int32} : (mx_ct ys).1 ≤ 99 ∧ (mx_ct ys).2 ≤ 4 ∧ (mx_ct ys).1 ≤ 20 * (1 + (mx_ct ys).2) := by
  unfold mx_ct
  split
  · split
    · rename_i h
      have h9 := (px_dv_N h).2
      split
      · rename_i h2
        have h8 := (px_dv_N h2).2
        split
        · dsimp only
          refine ⟨by omega, by omega, by omega⟩
        · simp
      · split
        · dsimp only
          refine ⟨by omega, by omega, by omega⟩
        · simp
    · simp
  · simp
def mx_w (s : Int32) : Nat := if s = 200 ∨ s = 201 then 2 else 1
def mx_flat (mon : Int32) : Nat → List Int32 → Option (List Int32)
  | 0, _ => some []
  | k + 1, xs =>
    if xs = [] then some []
    else if mx_sg mon xs = -1 ∨ (mx_ct (xs.drop (mx_w (mx_sg mon xs)))).1 = 0 then none
    else (mx_flat mon k (xs.drop (mx_w (mx_sg mon xs) + (mx_ct (xs.drop (mx_w (mx_sg mon xs)))).2))).map (fun t => List.replicate (mx_ct (xs.drop (mx_w (mx_sg mon xs)))).1 (mx_sg mon xs) ++ t)
def mx_RowIs (r : Nat → Int32) (ys : List Int32) : Prop := ∀ (k : Nat) (y : Int32), ys[k]? = some y → r k = y
theorem mx_snoc {r : Nat → Int32} {ys : List Int32} {i : Nat} {y : Int32} (h : mx_RowIs r ys) (hi : ys.length = i) : mx_RowIs (upd r i y) (ys ++ [y]) := by
  intro k z hk
  unfold upd
  by_cases e : k = i
  · subst e
    rw [List.getElem?_append_right (by omega)] at hk
    simp [hi] at hk
    rw [if_pos rfl]; exact hk
  · rw [if_neg e]
    apply h k z
    by_cases h2 : k < i
    · rwa [List.getElem?_append_left (by omega)] at hk
    · rw [List.getElem?_eq_none (by simp; omega)] at hk
      cases hk
theorem mx_183 {pc mon : Int32} {pic : Nat → Int32} {x1 s : Int32} {c : Nat} (hc : c ≤ 99) (K : Int32 → (Nat → Int32) → Int32 → (Option (Int32 × Int32 × (Nat → Int32)))) :
    ∀ (cnt f i : Nat) (row : Nat → Int32) (ys : List Int32), mx_RowIs row ys → ys.length + cnt ≤ 1400 → cnt + i = c → cnt < f →
    ∃ row', B_EditMovesModel_scan_183 pc mon pic K f (nI ys.length) row x1 s (nI c) (nI i) = K (nI (ys.length + cnt)) row' x1 ∧ mx_RowIs row' (ys ++ List.replicate cnt s) := by
  intro cnt
  induction cnt with
  | zero =>
    intro f i row ys hr hl hi hf
    obtain ⟨f, rfl⟩ : ∃ g, f = g + 1 := ⟨f - 1, by omega⟩
    refine ⟨row, ?_, by simpa using hr⟩
    unfold B_EditMovesModel_scan_183
    rw [if_pos (by rw [px_N_le (by omega) (by omega)]; omega)]
    rfl
  | succ cnt ih =>
    intro f i row ys hr hl hi hf
    obtain ⟨f, rfl⟩ : ∃ g, f = g + 1 := ⟨f - 1, by omega⟩
    unfold B_EditMovesModel_scan_183
    rw [if_neg (by rw [px_N_le (by omega) (by omega)]; omega), px_wgd_in (by omega) (by omega), px_N_clamp (by omega), px_lit1, px_N_add, px_N_add]
    obtain ⟨row', h1, h2⟩ := ih f (i + 1) (upd row ys.length s) (ys ++ [s]) (mx_snoc hr rfl) (by simp; omega) (by omega) (by omega)
    rw [List.length_append, List.length_singleton] at h1
    refine ⟨row', ?_, ?_⟩
    · rw [h1]
      congr 2; omega
    · rw [List.append_assoc] at h2
      exact h2
theorem mx_48 {n : Nat} {mon : Int32} {pic : Nat → Int32} (hn : n ≤ 60) {s : Int32} (K : Int32 → (Nat → Int32) → Int32 → (Option (Int32 × Int32 × (Nat → Int32)))) {j u : Nat} (hj : j + u < 1000) {row : Nat → Int32} {ys : List Int32} (hr : mx_RowIs row ys) (hl : ys.length + 99 ≤ 1400) :
    ((mx_ct ((px_lineL n pic).drop (j + u))).1 = 0 → ∃ m r, B_EditMovesModel_scan_48 (nI n) mon pic K (nI ys.length) row s (nI j) (nI u) = some (0, m, r)) ∧
    (¬ (mx_ct ((px_lineL n pic).drop (j + u))).1 = 0 → ∃ row', B_EditMovesModel_scan_48 (nI n) mon pic K (nI ys.length) row s (nI j) (nI u) = K (nI (ys.length + (mx_ct ((px_lineL n pic).drop (j + u))).1)) row' (nI (j + u + (mx_ct ((px_lineL n pic).drop (j + u))).2)) ∧ mx_RowIs row' (ys ++ List.replicate (mx_ct ((px_lineL n pic).drop (j + u))).1 s)) := by
  have hct := (@mx_ct_le ((px_lineL n pic).drop (j + u))).1
  generalize hB : B_EditMovesModel_scan_48 (nI n) mon pic K (nI ys.length) row s (nI j) (nI u) = o
  unfold B_EditMovesModel_scan_48 B_EditMovesModel_scan_97 B_EditMovesModel_scan_151 at hB
  rw [px_N_add] at hB
  rw [show (nI (j + u) + 1 : Int32) = nI (j + u + 1) from px_N_add _ _, show (nI (j + u) + 2 : Int32) = nI (j + u + 2) from px_N_add _ _] at hB
  rw [mx_at0 hn (by omega), mx_at0 hn (by omega), mx_at0 hn (by omega)] at hB
  simp only [Option.bind_some, mx_F_isDigit] at hB
  unfold mx_ct at hct ⊢
  simp only [px_drop_getD, Nat.add_zero] at hct ⊢
  by_cases h0 : (px_lineL n pic).getD (j + u) (-1) = 40
  · simp only [if_pos h0] at hct hB ⊢
    cases hd : px_isD ((px_lineL n pic).getD (j + u + 1) (-1)) with
    | false =>
      simp only [hd, Bool.false_eq_true, if_false, if_true] at hB ⊢
      exact ⟨fun _ => ⟨_, _, hB.symm⟩, fun h => by simp at h⟩
    | true =>
      obtain ⟨d1, d2⟩ := px_dv_N hd
      simp only [hd, if_true] at hct hB ⊢
      rw [if_neg (by decide)] at hB
      cases he : px_isD ((px_lineL n pic).getD (j + u + 2) (-1)) with
      | false =>
        simp only [he, Bool.false_eq_true, if_false, if_true] at hct hB ⊢
        rw [if_neg (by decide), d1] at hB
        rw [show (nI (j + u + 1) + 1 : Int32) = nI (j + u + 1 + 1) from px_N_add _ _, mx_at0 hn (by omega)] at hB
        simp only [Option.bind_some] at hB
        by_cases h2 : (px_lineL n pic).getD (j + u + 2) (-1) = 41
        · have h2' : (px_lineL n pic).getD (j + u + 1 + 1) (-1) = 41 := h2
          simp only [if_pos h2] at hct ⊢
          rw [if_pos h2'] at hB
          by_cases h3 : px_dv ((px_lineL n pic).getD (j + u + 1) (-1)) = 0
          · rw [h3, if_pos (show nI 0 = 0 from rfl)] at hB
            exact ⟨fun _ => ⟨_, _, hB.symm⟩, fun h => absurd h3 h⟩
          · rw [if_neg (by rw [px_lit0, px_N_eq (by omega) (by omega)]; exact h3)] at hB
            obtain ⟨row', g1, g2⟩ := mx_183 (pc := nI n) (mon := mon) (pic := pic) (x1 := nI (j + u + 3)) (s := s) hct K _ fv 0 row ys hr (by omega) (Nat.add_zero _) (by show _ < 4000; omega)
            refine ⟨fun h => absurd h h3, fun _ => ⟨row', ?_, g2⟩⟩
            have e : nI (j + u) + ((1 : Int32) + 2) = nI (j + u + 3) := px_N_add _ _
            rw [e] at hB
            rw [← hB]
            exact g1
        · have h2' : ¬ (px_lineL n pic).getD (j + u + 1 + 1) (-1) = 41 := h2
          simp only [if_neg h2]
          rw [if_neg h2'] at hB
          by_cases h3 : nI (px_dv ((px_lineL n pic).getD (j + u + 1) (-1))) = 0
          · rw [if_pos h3] at hB; exact ⟨fun _ => ⟨_, _, hB.symm⟩, fun h => by simp at h⟩
          · rw [if_neg h3] at hB; exact ⟨fun _ => ⟨_, _, hB.symm⟩, fun h => by simp at h⟩
      | true =>
        obtain ⟨e1, e2⟩ := px_dv_N he
        simp only [he, if_true] at hct hB ⊢
        rw [if_neg (by decide), if_neg (by decide), if_neg (by decide), d1] at hB
        have e0 : (10 : Int32) * nI (px_dv ((px_lineL n pic).getD (j + u + 1) (-1))) + (px_lineL n pic).getD (j + u + 2) (-1) - 48 = nI (10 * px_dv ((px_lineL n pic).getD (j + u + 1) (-1)) + px_dv ((px_lineL n pic).getD (j + u + 2) (-1))) := by
          generalize (px_lineL n pic).getD (j + u + 2) (-1) = x at *
          generalize px_dv ((px_lineL n pic).getD (j + u + 1) (-1)) = a at *
          have q10 : (10 : Int32) = nI 10 := rfl
          have e9 : x = nI (px_dv x) + 48 := by rw [← e1]; simp
          have q48 : (48 : Int32) = nI 48 := rfl
          rw [q48] at e9 ⊢
          rw [px_N_add] at e9
          rw [q10, px_N_mul]
          generalize px_dv x = d at *
          rw [e9, px_N_add, px_N_sub (by omega)]
          congr 1; try omega
        rw [e0] at hB
        rw [show (nI (j + u + 1) + 2 : Int32) = nI (j + u + 1 + 2) from px_N_add _ _, mx_at0 hn (by omega)] at hB
        simp only [Option.bind_some] at hB
        by_cases h2 : (px_lineL n pic).getD (j + u + 3) (-1) = 41
        · have h2' : (px_lineL n pic).getD (j + u + 1 + 2) (-1) = 41 := h2
          simp only [if_pos h2] at hct ⊢
          rw [if_pos h2'] at hB
          by_cases h3 : 10 * px_dv ((px_lineL n pic).getD (j + u + 1) (-1)) + px_dv ((px_lineL n pic).getD (j + u + 2) (-1)) = 0
          · rw [h3, if_pos (show nI 0 = 0 from rfl)] at hB
            exact ⟨fun _ => ⟨_, _, hB.symm⟩, fun h => absurd h3 h⟩
          · rw [if_neg (by rw [px_lit0, px_N_eq (by omega) (by omega)]; exact h3)] at hB
            obtain ⟨row', g1, g2⟩ := mx_183 (pc := nI n) (mon := mon) (pic := pic) (x1 := nI (j + u + 4)) (s := s) hct K _ fv 0 row ys hr (by omega) (Nat.add_zero _) (by show _ < 4000; omega)
            refine ⟨fun h => absurd h h3, fun _ => ⟨row', ?_, g2⟩⟩
            have e : nI (j + u) + ((2 : Int32) + 2) = nI (j + u + 4) := px_N_add _ _
            rw [e] at hB
            rw [← hB]
            exact g1
        · have h2' : ¬ (px_lineL n pic).getD (j + u + 1 + 2) (-1) = 41 := h2
          simp only [if_neg h2]
          rw [if_neg h2'] at hB
          by_cases h3 : nI (10 * px_dv ((px_lineL n pic).getD (j + u + 1) (-1)) + px_dv ((px_lineL n pic).getD (j + u + 2) (-1))) = 0
          · rw [if_pos h3] at hB; exact ⟨fun _ => ⟨_, _, hB.symm⟩, fun h => by simp at h⟩
          · rw [if_neg h3] at hB; exact ⟨fun _ => ⟨_, _, hB.symm⟩, fun h => by simp at h⟩
  · simp only [if_neg h0]
    rw [if_neg h0] at hB
    obtain ⟨row', g1, g2⟩ := mx_183 (pc := nI n) (mon := mon) (pic := pic) (x1 := nI (j + u)) (s := s) (c := 1) (by omega) K 1 fv 0 row ys hr (by omega) rfl (by decide)
    exact ⟨fun h => absurd h (by decide), fun _ => ⟨row', by rw [← hB]; exact g1, g2⟩⟩
theorem mx_scan_loop {n : Nat} {mon : Int32} {pic : Nat → Int32} (hn : n ≤ 60) : ∀ (k f j : Nat) (row : Nat → Int32) (ys : List Int32), n < k + j → k < f → j ≤ 66 → ys.length ≤ 20 * j → mx_RowIs row ys →
    match mx_flat mon k ((px_lineL n pic).drop j) with
    | none => ∃ m r, B_EditMovesModel_scan_7 (nI n) mon pic f (nI ys.length) row (nI j) = some (0, m, r)
    | some zs => ∃ r, B_EditMovesModel_scan_7 (nI n) mon pic f (nI ys.length) row (nI j) = some (1, nI (ys ++ zs).length, r) ∧ mx_RowIs r (ys ++ zs) ∧ (ys ++ zs).length ≤ 1320 := by
  intro k
  induction k with
  | zero =>
    intro f j row ys hk hf hj hl hr
    obtain ⟨f, rfl⟩ : ∃ g, f = g + 1 := ⟨f - 1, by omega⟩
    simp only [mx_flat]
    refine ⟨row, ?_, by simpa using hr, by simp; omega⟩
    unfold B_EditMovesModel_scan_7
    rw [if_pos (by rw [px_N_le (by omega) (by omega)]; omega)]
    simp
  | succ k ih =>
    intro f j row ys hk hf hj hl hr
    obtain ⟨f, rfl⟩ : ∃ g, f = g + 1 := ⟨f - 1, by omega⟩
    simp only [mx_flat]
    unfold B_EditMovesModel_scan_7
    by_cases hjn : n ≤ j
    · have e : (px_lineL n pic).drop j = [] := List.drop_eq_nil_of_le (by rw [px_lineL_len]; exact hjn)
      have c2 : nI n ≤ nI j := by rw [px_N_le (by omega) (by omega)]; omega
      rw [if_pos c2, if_pos e]
      exact ⟨row, by simp, by simpa using hr, by simp; omega⟩
    · have e : (px_lineL n pic).drop j ≠ [] := by
        intro e
        have := congrArg List.length e
        rw [List.length_drop, px_lineL_len] at this
        simp at this; omega
      have c2 : ¬ nI n ≤ nI j := by rw [px_N_le (by omega) (by omega)]; omega
      rw [if_neg c2, if_neg e, mx_F_signAt hn (by omega)]
      simp only [Option.bind_some]
      generalize hs : mx_sg mon ((px_lineL n pic).drop j) = s
      have hw : mx_w s ≤ 2 ∧ 1 ≤ mx_w s := by unfold mx_w; split <;> simp
      have h48 := mx_48 (n := n) (mon := mon) (pic := pic) hn (s := s) (B_EditMovesModel_scan_7 (nI n) mon pic f) (j := j) (u := mx_w s) (by omega) hr (by omega)
      have hc := @mx_ct_le ((px_lineL n pic).drop (j + mx_w s))
      have e2 : ((px_lineL n pic).drop j).drop (mx_w s) = (px_lineL n pic).drop (j + mx_w s) := by rw [List.drop_drop]
      rw [e2]
      have e3 : ((px_lineL n pic).drop j).drop (mx_w s + (mx_ct ((px_lineL n pic).drop (j + mx_w s))).2) = (px_lineL n pic).drop (j + mx_w s + (mx_ct ((px_lineL n pic).drop (j + mx_w s))).2) := by
        rw [List.drop_drop]; congr 1; omega
      rw [e3]
      generalize mx_ct ((px_lineL n pic).drop (j + mx_w s)) = ct at *
      by_cases z1 : s = -1
      · have z0 : s = -1 ∨ ct.1 = 0 := Or.inl z1
        rw [if_pos z1, if_pos z0]
        exact ⟨_, _, rfl⟩
      · rw [if_neg z1]
        have hB : (if s = 200 then B_EditMovesModel_scan_43 (nI n) mon pic (B_EditMovesModel_scan_7 (nI n) mon pic f) (nI ys.length) row s (nI j) else if s = 201 then B_EditMovesModel_scan_43 (nI n) mon pic (B_EditMovesModel_scan_7 (nI n) mon pic f) (nI ys.length) row s (nI j) else B_EditMovesModel_scan_48 (nI n) mon pic (B_EditMovesModel_scan_7 (nI n) mon pic f) (nI ys.length) row s (nI j) 1) = B_EditMovesModel_scan_48 (nI n) mon pic (B_EditMovesModel_scan_7 (nI n) mon pic f) (nI ys.length) row s (nI j) (nI (mx_w s)) := by
          unfold B_EditMovesModel_scan_43 mx_w
          by_cases a : s = 200
          · simp only [if_pos a, if_pos (Or.inl a : s = 200 ∨ s = 201)]; rfl
          · by_cases b : s = 201
            · simp only [if_neg a, if_pos b, if_pos (Or.inr b : s = 200 ∨ s = 201)]; rfl
            · simp only [if_neg a, if_neg b, if_neg (show ¬ (s = 200 ∨ s = 201) from fun q => q.elim a b)]; rfl
        rw [hB]
        by_cases z2 : ct.1 = 0
        · have z0 : s = -1 ∨ ct.1 = 0 := Or.inr z2
          rw [if_pos z0]
          exact h48.1 z2
        · have z0 : ¬ (s = -1 ∨ ct.1 = 0) := fun q => q.elim z1 z2
          rw [if_neg z0]
          obtain ⟨row', g1, g2⟩ := h48.2 z2
          rw [g1]
          have h := ih f (j + mx_w s + ct.2) row' (ys ++ List.replicate ct.1 s) (by omega) (by omega) (by omega) (by simp; omega) g2
          rw [List.length_append, List.length_replicate] at h
          cases ht : mx_flat mon k ((px_lineL n pic).drop (j + mx_w s + ct.2)) with
          | none =>
            rw [ht] at h
            exact h
          | some zs =>
            rw [ht] at h
            obtain ⟨r, h1, h2, h3⟩ := h
            refine ⟨r, ?_, ?_, ?_⟩
            · rw [h1]
              simp
            · simpa using h2
            · simpa using h3
/-- the picture's text as a flat row of signs -/
def mx_rows (mon : Int32) (xs : List Int32) : Option (List Int32) := mx_flat mon 61 xs
theorem mx_scan {n : Nat} {mon : Int32} {pic : Nat → Int32} (hn : n ≤ 60) {m0 : Int32} {row : Nat → Int32} :
    match mx_rows mon (px_lineL n pic) with
    | none => ∃ m r, F_EditMovesModel_scan (nI n) mon pic m0 row = some (0, m, r)
    | some ys => ∃ r, F_EditMovesModel_scan (nI n) mon pic m0 row = some (1, nI ys.length, r) ∧ mx_RowIs r ys ∧ ys.length ≤ 1320 := by
  have h := mx_scan_loop (mon := mon) (pic := pic) hn 61 fv 0 row [] (by omega) (by decide) (by omega) (by simp) (by intro k y h; simp at h)
  rw [List.drop_zero] at h
  unfold mx_rows F_EditMovesModel_scan
  cases ht : mx_flat mon 61 (px_lineL n pic) with
  | none => rw [ht] at h; exact h
  | some ys =>
    rw [ht] at h
    exact h
