/-! THE REFERENCE, PURE: put, plain, fill, editText: the result grows as a list. -/
theorem mx_put {res : Nat → Int32} {out : List Int32} {c : Int32} (hr : mx_RowIs res out) (hl : out.length + 1 ≤ 200) : ∃ res', F_EditMovesModel_put (nI out.length) res c = some (nI (out ++ [c]).length, res') ∧ mx_RowIs res' (out ++ [c]) := by
  unfold F_EditMovesModel_put
  rw [px_wgd_in (by omega) (by omega), px_N_clamp (by omega)]
  have k1 : nI out.length + 1 = nI (out.length + 1) := px_N_add _ _
  rw [k1]
  refine ⟨upd res out.length c, ?_, mx_snoc hr rfl⟩
  rw [List.length_append]
  rfl
def mx_ss (s : Int32) (neg : Bool) : Int32 := if s = 43 then (if neg then 45 else 43) else (if neg then 45 else 32)
theorem mx_F_ss {s : Int32} {neg : Bool} : F_EditMovesModel_shownSign s (px_bz neg) = some (mx_ss s neg) := by
  unfold F_EditMovesModel_shownSign mx_ss
  cases neg <;> by_cases a : s = 43 <;> simp [a, px_bz]
def mx_plain (mon : Int32) (neg : Bool) (s : Int32) : List Int32 :=
  if s = 43 ∨ s = 45 then [mx_ss s neg] else if s = 66 then [32] else if s = 86 then [] else if s = 200 then (if neg then [67, 82] else [32, 32]) else if s = 201 then (if neg then [68, 66] else [32, 32]) else if s = 202 then [mon] else [s]
theorem mx_plain_len {mon : Int32} {neg : Bool} {s : Int32} : (mx_plain mon neg s).length = mx_wide s := by
  unfold mx_plain mx_wide
  by_cases a1 : s = 43
  · simp [a1]
  by_cases a2 : s = 45
  · simp [a2]
  by_cases a3 : s = 66
  · simp [a3]
  by_cases a4 : s = 86
  · simp [a4]
  by_cases a5 : s = 200
  · cases neg <;> simp [a5]
  by_cases a6 : s = 201
  · cases neg <;> simp [a6]
  by_cases a7 : s = 202
  · simp [a7]
  simp [a1, a2, a3, a4, a5, a6, a7]
theorem mx_122 {mon s x y : Int32} {neg : Bool} {res : Nat → Int32} {out : List Int32} (hr : mx_RowIs res out) (hl : out.length + 2 ≤ 200) (hy : y = if neg then (if s = 200 then 82 else 66) else 32) :
    ∃ res', B_EditMovesModel_plain_122 mon (px_bz neg) (nI out.length) res s x = some (nI (out ++ [x, y]).length, res') ∧ mx_RowIs res' (out ++ [x, y]) := by
  unfold B_EditMovesModel_plain_122
  obtain ⟨r1, h1, g1⟩ := mx_put (c := x) hr (by omega)
  rw [h1]
  simp only [Option.bind_some, px_bz_ne]
  have hl2 : (out ++ [x]).length + 1 ≤ 200 := by simp; omega
  obtain ⟨r2, h2, g2⟩ := mx_put (c := y) g1 hl2
  have e : out ++ [x] ++ [y] = out ++ [x, y] := by simp
  rw [e] at h2 g2
  refine ⟨r2, ?_, g2⟩
  cases neg with
  | false =>
    simp only [Bool.false_eq_true, if_false] at hy
    subst hy
    rw [if_pos rfl, h2]
    rfl
  | true =>
    rw [if_neg (by decide)]
    simp only [if_true] at hy
    by_cases c : s = 200
    · rw [if_pos c] at hy ⊢
      subst hy
      rw [h2]; rfl
    · rw [if_neg c] at hy ⊢
      subst hy
      rw [h2]; rfl
theorem mx_F_plain {mon s : Int32} {neg : Bool} {res : Nat → Int32} {out : List Int32} (hr : mx_RowIs res out) (hl : out.length + mx_wide s ≤ 200) :
    ∃ res', F_EditMovesModel_plain mon (px_bz neg) (nI out.length) res s = some (nI (out ++ mx_plain mon neg s).length, res') ∧ mx_RowIs res' (out ++ mx_plain mon neg s) := by
  have hone : ∀ c : Int32, out.length + 1 ≤ 200 → ∃ res', ((F_EditMovesModel_put (nI out.length) res c).bind fun r => some (r.1, r.2)) = some (nI (out ++ [c]).length, res') ∧ mx_RowIs res' (out ++ [c]) := by
    intro c h
    obtain ⟨r1, h1, g1⟩ := mx_put (c := c) hr h
    exact ⟨r1, by rw [h1]; rfl, g1⟩
  unfold F_EditMovesModel_plain
  unfold mx_wide at hl
  rw [mx_F_ss]
  simp only [Option.bind_some, px_bz_ne]
  by_cases a1 : s = 43
  · have ep : mx_plain mon neg s = [mx_ss s neg] := by simp [mx_plain, a1]
    rw [if_pos a1, ep]
    exact hone _ (by simp [a1] at hl; omega)
  rw [if_neg a1]
  by_cases a2 : s = 45
  · have ep : mx_plain mon neg s = [mx_ss s neg] := by simp [mx_plain, a2]
    rw [if_pos a2, ep]
    exact hone _ (by simp [a2] at hl; omega)
  rw [if_neg a2]
  by_cases a3 : s = 66
  · have ep : mx_plain mon neg s = [32] := by simp [mx_plain, a3]
    rw [if_pos a3, ep]
    exact hone _ (by simp [a3] at hl; omega)
  rw [if_neg a3]
  by_cases a4 : s = 86
  · have ep : mx_plain mon neg s = [] := by simp [mx_plain, a4]
    rw [if_pos a4, ep]
    exact ⟨res, by simp, by simpa using hr⟩
  rw [if_neg a4]
  by_cases a5 : s = 200
  · have hl2 : out.length + 2 ≤ 200 := by simp [a5] at hl; omega
    cases neg with
    | false =>
      have ep : mx_plain mon false s = [32, 32] := by simp [mx_plain, a5]
      rw [if_pos a5, if_pos rfl, ep]
      exact mx_122 (neg := false) hr hl2 rfl
    | true =>
      have ep : mx_plain mon true s = [67, 82] := by simp [mx_plain, a5]
      rw [if_pos a5, if_neg (by decide), if_pos a5, ep]
      exact mx_122 (s := s) (x := 67) (y := 82) (neg := true) hr hl2 (by simp [a5])
  rw [if_neg a5]
  by_cases a6 : s = 201
  · have hl2 : out.length + 2 ≤ 200 := by simp [a6] at hl; omega
    cases neg with
    | false =>
      have ep : mx_plain mon false s = [32, 32] := by simp [mx_plain, a6]
      rw [if_pos a6, if_pos rfl, ep]
      exact mx_122 (neg := false) hr hl2 rfl
    | true =>
      have ep : mx_plain mon true s = [68, 66] := by simp [mx_plain, a6]
      rw [if_pos a6, if_neg (by decide), if_neg a5, ep]
      exact mx_122 (s := s) (x := 68) (y := 66) (neg := true) hr hl2 (by simp [a5])
  rw [if_neg a6]
  have hl1 : out.length + 1 ≤ 200 := by simp [a4, a5, a6] at hl; omega
  by_cases a7 : s = 202
  · have ep : mx_plain mon neg s = [mon] := by simp [mx_plain, a7]
    rw [if_pos a7, ep]
    exact hone _ hl1
  · have ep : mx_plain mon neg s = [s] := by simp [mx_plain, a1, a2, a3, a4, a5, a6, a7]
    rw [if_neg a7, ep]
    exact hone _ hl1
/-- a sign's places where all is filled -/
def mx_f1 (c y : Int32) : List Int32 := List.replicate (mx_wide y) (if c = 42 ∧ y = 46 then 46 else c)
def mx_fh (c y : Int32) : Nat := if c = 42 ∧ y = 46 then 0 else mx_wide y
def mx_fill (c : Int32) : List Int32 → List Int32
  | [] => []
  | y :: t => mx_f1 c y ++ mx_fill c t
def mx_fills (c : Int32) : List Int32 → Nat
  | [] => 0
  | y :: t => mx_fh c y + mx_fills c t
theorem mx_12 {m : Nat} {row : Nat → Int32} {ys t : List Int32} {y : Int32} (h : mx_RY m row ys) (hs : (y :: t) <:+ ys) {c : Int32} (K : Int32 → Int32 → (Nat → Int32) → Int32 → Int32 → (Option (Int32 × Int32 × (Nat → Int32)))) :
    ∀ (r i f hid : Nat) (res : Nat → Int32) (out : List Int32), i + r = mx_wide y → r < f → mx_RowIs res out → out.length + r ≤ 200 →
    ∃ res', B_EditMovesModel_fill_12 (nI m) row K f (nI out.length) (nI hid) res c (mx_c m (y :: t)) (nI i) = K (nI (out ++ List.replicate r (if c = 42 ∧ y = 46 then 46 else c)).length) (nI (hid + (if c = 42 ∧ y = 46 then 0 else r))) res' c (mx_c m t) ∧ mx_RowIs res' (out ++ List.replicate r (if c = 42 ∧ y = 46 then 46 else c)) := by
  have hm := h.2.1
  have hl := hs.length_le
  rw [h.1] at hl
  have hl0 : 1 ≤ (y :: t).length := by simp
  have e := mx_here h hs
  have e3 := mx_step h.1 hs
  have hw : mx_wide y ≤ 2 := by unfold mx_wide; split; simp; split <;> simp
  have c3 : (mx_c m (y :: t)).toNatClampNeg = m - (y :: t).length := by unfold mx_c; rw [px_N_clamp (by omega)]
  have c4 : ∀ k : Option (Int32 × Int32 × (Nat → Int32)), wgd (mx_c m (y :: t)) 1400 k = k := by intro k; unfold mx_c; rw [px_wgd_in (by omega) (by omega)]
  intro r
  induction r with
  | zero =>
    intro i f hid res out hi hf hr hlen
    obtain ⟨f, rfl⟩ : ∃ g, f = g + 1 := ⟨f - 1, by omega⟩
    unfold B_EditMovesModel_fill_12
    rw [c4, c3, e, mx_F_wide]
    simp only [Option.bind_some]
    rw [if_pos (by rw [px_N_le (by omega) (by omega)]; omega), e3]
    exact ⟨res, by simp, by simpa using hr⟩
  | succ r ih =>
    intro i f hid res out hi hf hr hlen
    obtain ⟨f, rfl⟩ : ∃ g, f = g + 1 := ⟨f - 1, by omega⟩
    have k1 : nI i + 1 = nI (i + 1) := px_N_add _ _
    unfold B_EditMovesModel_fill_12 B_EditMovesModel_fill_46 B_EditMovesModel_fill_47 B_EditMovesModel_fill_64
    rw [c4, c3, e, mx_F_wide]
    simp only [Option.bind_some]
    rw [if_neg (by rw [px_N_le (by omega) (by omega)]; omega), c4, k1]
    obtain ⟨r1, h1, g1⟩ := mx_put (c := c) hr (by omega)
    obtain ⟨r2, h2, g2⟩ := mx_put (c := 46) hr (by omega)
    have z0 : (0 : Int32) = 0 := rfl
    have o1 : ¬ (1 : Int32) = 0 := by decide
    simp only [if_true, if_neg o1, h1, h2, Option.bind_some]
    by_cases p : c = 42 ∧ y = 46
    · rw [if_pos p.1, if_pos p.2]
      have hp : (nI hid + 0 : Int32) = nI hid := by rw [px_lit0, px_N_add]; rfl
      rw [hp]
      obtain ⟨r3, h3, g3⟩ := ih (i + 1) f hid r2 (out ++ [46]) (by omega) (by omega) g2 (by simp; omega)
      refine ⟨r3, ?_, ?_⟩
      · rw [h3]
        simp only [if_pos p]
        congr 2
        simp <;> omega
      · simp only [if_pos p] at g3 ⊢
        rw [List.replicate_succ]
        simpa using g3
    · have hp : (nI hid + 1 : Int32) = nI (hid + 1) := px_N_add _ _
      have hgo : ∃ res', B_EditMovesModel_fill_12 (nI m) row K f (nI (out ++ [c]).length) (nI (hid + 1)) r1 c (mx_c m (y :: t)) (nI (i + 1)) = K (nI (out ++ List.replicate (r + 1) (if c = 42 ∧ y = 46 then 46 else c)).length) (nI (hid + (if c = 42 ∧ y = 46 then 0 else r + 1))) res' c (mx_c m t) ∧ mx_RowIs res' (out ++ List.replicate (r + 1) (if c = 42 ∧ y = 46 then 46 else c)) := by
        obtain ⟨r3, h3, g3⟩ := ih (i + 1) f (hid + 1) r1 (out ++ [c]) (by omega) (by omega) g1 (by simp; omega)
        refine ⟨r3, ?_, ?_⟩
        · rw [h3]
          simp only [if_neg p]
          have e1 : (out ++ [c] ++ List.replicate r c).length = (out ++ List.replicate (r + 1) c).length := by simp <;> omega
          have e2 : hid + 1 + r = hid + (r + 1) := by omega
          rw [e1, e2]
        · simp only [if_neg p] at g3 ⊢
          rw [List.replicate_succ]
          simpa using g3
      rw [hp]
      by_cases q : c = 42
      · rw [if_pos q, if_neg (fun z => p ⟨q, z⟩)]
        exact hgo
      · rw [if_neg q]
        exact hgo
theorem mx_wid_suf {t ys : List Int32} {y : Int32} : mx_wid (y :: t) = mx_wide y + mx_wid t := rfl
theorem mx_F_fill {m : Nat} {row : Nat → Int32} {ys : List Int32} (h : mx_RY m row ys) {c : Int32} : ∀ (t : List Int32) (f hid : Nat) (res : Nat → Int32) (out : List Int32), t <:+ ys → t.length < f → mx_RowIs res out → out.length + mx_wid t ≤ 200 →
    ∃ res', B_EditMovesModel_fill_2 (nI m) row f (nI out.length) (nI hid) res c (mx_c m t) = some (nI (out ++ mx_fill c t).length, nI (hid + mx_fills c t), res') ∧ mx_RowIs res' (out ++ mx_fill c t) := by
  intro t
  induction t with
  | nil =>
    intro f hid res out hs hf hr hl
    obtain ⟨f, rfl⟩ : ∃ g, f = g + 1 := ⟨f - 1, by omega⟩
    have hm := h.2.1
    unfold B_EditMovesModel_fill_2
    rw [if_pos (by unfold mx_c; rw [px_N_le (by omega) (by simp; omega)]; simp)]
    exact ⟨res, by simp [mx_fill, mx_fills], by simpa [mx_fill] using hr⟩
  | cons y t ih =>
    intro f hid res out hs hf hr hl
    obtain ⟨f, rfl⟩ : ∃ g, f = g + 1 := ⟨f - 1, by omega⟩
    have hm := h.2.1
    have hll := hs.length_le
    rw [h.1] at hll
    have hl0 : 1 ≤ (y :: t).length := by simp
    have hw : mx_wide y ≤ 2 := by unfold mx_wide; split; simp; split <;> simp
    have c1 : ¬ nI m ≤ mx_c m (y :: t) := by unfold mx_c; rw [px_N_le (by omega) (by omega)]; omega
    unfold B_EditMovesModel_fill_2
    rw [if_neg c1]
    have hl2 : mx_wid (y :: t) = mx_wide y + mx_wid t := rfl
    obtain ⟨r1, h1, g1⟩ := mx_12 h hs (c := c) (B_EditMovesModel_fill_2 (nI m) row f) (mx_wide y) 0 fv hid res out (by omega) (by show _ < 4000; omega) hr (by omega)
    have h1' : B_EditMovesModel_fill_12 (nI m) row (B_EditMovesModel_fill_2 (nI m) row f) fv (nI out.length) (nI hid) res c (mx_c m (y :: t)) 0 = _ := h1
    rw [h1']
    obtain ⟨r2, h2, g2⟩ := ih f (hid + (if c = 42 ∧ y = 46 then 0 else mx_wide y)) r1 (out ++ List.replicate (mx_wide y) (if c = 42 ∧ y = 46 then 46 else c)) (mx_tl hs) (by simp at hf; omega) g1 (by simp; omega)
    refine ⟨r2, ?_, ?_⟩
    · rw [h2]
      have e1 : out ++ List.replicate (mx_wide y) (if c = 42 ∧ y = 46 then 46 else c) ++ mx_fill c t = out ++ mx_fill c (y :: t) := by rw [List.append_assoc]; rfl
      have e2 : hid + (if c = 42 ∧ y = 46 then 0 else mx_wide y) + mx_fills c t = hid + mx_fills c (y :: t) := by
        show hid + mx_fh c y + mx_fills c t = hid + (mx_fh c y + mx_fills c t)
        omega
      rw [e1, e2]
    · rw [List.append_assoc] at g2
      exact g2

/-- a text's places: what they are, how many signs of the text were taken -/
def mx_te (xs : List Int32) : Nat → List Int32 → List Int32
  | _, [] => []
  | k, y :: t => if y = 88 then (if k < xs.length then xs.getD k 0 else 32) :: mx_te xs (k + 1) t else (if y = 66 then 32 else y) :: mx_te xs k t
def mx_tn : List Int32 → Nat
  | [] => 0
  | y :: t => (if y = 88 then 1 else 0) + mx_tn t
theorem mx_F_editText {m : Nat} {row : Nat → Int32} {ys : List Int32} (h : mx_RY m row ys) {n : Nat} {txt : Nat → Int32} (hn : n ≤ 60) {cu : Int32} : ∀ (t : List Int32) (f k : Nat) (res : Nat → Int32) (out : List Int32), t <:+ ys → t.length < f → k + t.length < 100000 → mx_RowIs res out → out.length + t.length ≤ 200 →
    ∃ res', B_EditMovesModel_editText_4 (nI n) (nI m) txt row f (nI out.length) cu res (nI k) (mx_c m t) = some (nI (out ++ mx_te (px_lineL n txt) k t).length, nI (out ++ mx_te (px_lineL n txt) k t).length, nI (n - (k + mx_tn t)), res') ∧ mx_RowIs res' (out ++ mx_te (px_lineL n txt) k t) := by
  intro t
  induction t with
  | nil =>
    intro f k res out hs hf hk hr hl
    obtain ⟨f, rfl⟩ : ∃ g, f = g + 1 := ⟨f - 1, by omega⟩
    have hm := h.2.1
    unfold B_EditMovesModel_editText_4
    rw [if_pos (by unfold mx_c; rw [px_N_le (by omega) (by simp; omega)]; simp)]
    refine ⟨res, ?_, by simpa [mx_te] using hr⟩
    simp only [mx_te, List.append_nil, mx_tn, Nat.add_zero]
    by_cases c : n ≤ k
    · rw [if_pos (by rw [px_N_le (by omega) (by omega)]; omega), Nat.sub_eq_zero_of_le c]
      rfl
    · rw [if_neg (by rw [px_N_le (by omega) (by omega)]; omega), px_N_sub (by omega)]
  | cons y t ih =>
    intro f k res out hs hf hk hr hl
    obtain ⟨f, rfl⟩ : ∃ g, f = g + 1 := ⟨f - 1, by omega⟩
    have hm := h.2.1
    have hll := hs.length_le
    rw [h.1] at hll
    have hl0 : (y :: t).length = t.length + 1 := by simp
    have e := mx_here h hs
    have e3 := mx_step h.1 hs
    have c1 : ¬ nI m ≤ mx_c m (y :: t) := by unfold mx_c; rw [px_N_le (by omega) (by omega)]; omega
    have c3 : (mx_c m (y :: t)).toNatClampNeg = m - (y :: t).length := by unfold mx_c; rw [px_N_clamp (by omega)]
    have c4 : ∀ k : Option (Int32 × Int32 × Int32 × (Nat → Int32)), wgd (mx_c m (y :: t)) 1400 k = k := by intro k; unfold mx_c; rw [px_wgd_in (by omega) (by omega)]
    have k1 : nI k + 1 = nI (k + 1) := px_N_add _ _
    unfold B_EditMovesModel_editText_4
    rw [if_neg c1]
    simp only [c4]
    rw [c3, e, e3, k1]
    have hgo : ∀ (c : Int32) (k' : Nat), k' + t.length < 100000 → ∃ res', ((F_EditMovesModel_put (nI out.length) res c).bind fun r => B_EditMovesModel_editText_4 (nI n) (nI m) txt row f r.1 cu r.2 (nI k') (mx_c m t)) = some (nI (out ++ (c :: mx_te (px_lineL n txt) k' t)).length, nI (out ++ (c :: mx_te (px_lineL n txt) k' t)).length, nI (n - (k' + mx_tn t)), res') ∧ mx_RowIs res' (out ++ (c :: mx_te (px_lineL n txt) k' t)) := by
      intro c k' hk'
      obtain ⟨r1, h1, g1⟩ := mx_put (c := c) hr (by omega)
      rw [h1]
      simp only [Option.bind_some]
      obtain ⟨r2, h2, g2⟩ := ih f k' r1 (out ++ [c]) (mx_tl hs) (by omega) hk' g1 (by simp; omega)
      have e9 : out ++ [c] ++ mx_te (px_lineL n txt) k' t = out ++ (c :: mx_te (px_lineL n txt) k' t) := by simp
      rw [e9] at h2 g2
      exact ⟨r2, h2, g2⟩
    by_cases a1 : y = 88
    · have et : mx_te (px_lineL n txt) k (y :: t) = (if k < (px_lineL n txt).length then (px_lineL n txt).getD k 0 else 32) :: mx_te (px_lineL n txt) (k + 1) t := by rw [mx_te, if_pos a1]
      have en : k + mx_tn (y :: t) = k + 1 + mx_tn t := by rw [mx_tn, if_pos a1]; omega
      rw [if_pos a1, et, en]
      by_cases a2 : k < n
      · have a3 : k < (px_lineL n txt).length := by rw [px_lineL_len]; exact a2
        rw [if_neg (by rw [px_N_le (by omega) (by omega)]; omega), px_wgd_in (by omega) (by omega), px_N_clamp (by omega), if_pos a3, px_lineL_getD, if_pos a2]
        exact hgo _ (k + 1) (by omega)
      · have a3 : ¬ k < (px_lineL n txt).length := by rw [px_lineL_len]; exact a2
        rw [if_pos (by rw [px_N_le (by omega) (by omega)]; omega), if_neg a3]
        exact hgo _ (k + 1) (by omega)
    · have et : mx_te (px_lineL n txt) k (y :: t) = (if y = 66 then 32 else y) :: mx_te (px_lineL n txt) k t := by rw [mx_te, if_neg a1]
      have en : k + mx_tn (y :: t) = k + mx_tn t := by rw [mx_tn, if_neg a1]; omega
      rw [if_neg a1, et, en]
      by_cases a2 : y = 66
      · rw [if_pos a2, if_pos a2]
        exact hgo _ k (by omega)
      · rw [if_neg a2, if_neg a2]
        exact hgo _ k (by omega)
