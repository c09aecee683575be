/-! THE REFERENCE, PURE: shown, places. -/
abbrev mx_O3 := Option (Int32 × Int32 × (Nat → Int32))
abbrev mx_K75 := Int32 → Int32 → (Nat → Int32) → Int32 → Int32 → Int32 → Int32 → Int32 → mx_O3
/-- a place of the suppressed stretch -/
def mx_hp (mon str : Int32) (neg st : Bool) : Int32 := if st = true then (if str = 202 then mon else mx_ss str neg) else if str = 42 then 42 else 32
/-- the places of one sign, l signs from the row's end on; the stretch from FB signs before the end up to FS -/
def mx_po (mon str : Int32) (neg fl : Bool) (FB FS : Nat) (isd : Bool) (d y : Int32) (l : Nat) : List Int32 :=
  if l ≤ FB ∧ FS < l then [mx_hp mon str neg (fl && decide (l = FS + 1))] else if isd = true then [48 + d] else mx_plain mon neg y
def mx_ph (FB FS l : Nat) : Nat := if l ≤ FB ∧ FS < l then 1 else 0
def mx_b1 (b : Bool) : Nat := if b then 1 else 0
theorem mx_186 {mon str beg g : Int32} {neg fl isd : Bool} {row came : Nat → Int32} {m : Nat} {ys t : List Int32} {y : Int32} (h : mx_RY m row ys) (hs : (y :: t) <:+ ys) (K : mx_K75) {FB FS hid dgt : Nat} (hFB : FB ≤ m) (hFS : FS ≤ m) {d : Int32} {res : Nat → Int32} {out : List Int32} (hr : mx_RowIs res out)
    (hl : out.length + (mx_po mon str neg fl FB FS isd d y (y :: t).length).length ≤ 200) :
    ∃ res', B_EditMovesModel_places_186 mon (nI m) str beg g (px_bz neg) row came K (nI out.length) (nI hid) res (nI (m - FB)) (nI (m - FS)) (px_bz fl) (mx_c m (y :: t)) y (px_bz isd) d (nI dgt) (px_bz isd)
      = K (nI (out ++ mx_po mon str neg fl FB FS isd d y (y :: t).length).length) (nI (hid + mx_ph FB FS (y :: t).length)) res' (nI (m - FB)) (nI (m - FS)) (nI (dgt + mx_b1 isd)) (px_bz fl) (mx_c m t) ∧ mx_RowIs res' (out ++ mx_po mon str neg fl FB FS isd d y (y :: t).length) := by
  have hm := h.2.1
  have hll := hs.length_le
  rw [h.1] at hll
  have hl0 : 1 ≤ (y :: t).length := by simp
  have e3 := mx_step h.1 hs
  have ed : nI dgt + px_bz isd = nI (dgt + mx_b1 isd) := by
    have : px_bz isd = nI (mx_b1 isd) := by cases isd <;> rfl
    rw [this, px_N_add]
  have h1 : nI hid + 1 = nI (hid + 1) := px_N_add _ _
  have hone : ∀ (c : Int32) (hd : Nat), out.length + 1 ≤ 200 → ∃ res', ((F_EditMovesModel_put (nI out.length) res c).bind fun r => K r.1 (nI hd) r.2 (nI (m - FB)) (nI (m - FS)) (nI (dgt + mx_b1 isd)) (px_bz fl) (mx_c m t)) = K (nI (out ++ [c]).length) (nI hd) res' (nI (m - FB)) (nI (m - FS)) (nI (dgt + mx_b1 isd)) (px_bz fl) (mx_c m t) ∧ mx_RowIs res' (out ++ [c]) := by
    intro c hd hh
    obtain ⟨r1, g1, g2⟩ := mx_put (c := c) hr hh
    exact ⟨r1, by rw [g1]; rfl, g2⟩
  unfold B_EditMovesModel_places_186 B_EditMovesModel_places_227 B_EditMovesModel_places_228 B_EditMovesModel_places_289
  rw [ed, h1, e3]
  have hplain : ¬ ((y :: t).length ≤ FB ∧ FS < (y :: t).length) →
      ∃ res', (if px_bz isd = 0 then ((F_EditMovesModel_plain mon (px_bz neg) (nI out.length) res y).bind fun r => K r.1 (nI hid) r.2 (nI (m - FB)) (nI (m - FS)) (nI (dgt + mx_b1 isd)) (px_bz fl) (mx_c m t)) else ((F_EditMovesModel_put (nI out.length) res (48 + d)).bind fun r => K r.1 (nI hid) r.2 (nI (m - FB)) (nI (m - FS)) (nI (dgt + mx_b1 isd)) (px_bz fl) (mx_c m t)))
      = K (nI (out ++ mx_po mon str neg fl FB FS isd d y (y :: t).length).length) (nI (hid + mx_ph FB FS (y :: t).length)) res' (nI (m - FB)) (nI (m - FS)) (nI (dgt + mx_b1 isd)) (px_bz fl) (mx_c m t) ∧ mx_RowIs res' (out ++ mx_po mon str neg fl FB FS isd d y (y :: t).length) := by
    intro c
    have eh : hid + mx_ph FB FS (y :: t).length = hid := by unfold mx_ph; rw [if_neg c]; rfl
    rw [eh]
    cases isd with
    | false =>
      have eo : mx_po mon str neg fl FB FS false d y (y :: t).length = mx_plain mon neg y := by unfold mx_po; rw [if_neg c, if_neg (by decide)]
      rw [eo] at hl ⊢
      rw [mx_plain_len] at hl
      obtain ⟨r1, g1, g2⟩ := mx_F_plain (mon := mon) (s := y) (neg := neg) hr hl
      exact ⟨r1, by rw [if_pos px_bzf, g1]; rfl, g2⟩
    | true =>
      have eo : mx_po mon str neg fl FB FS true d y (y :: t).length = [48 + d] := by unfold mx_po; rw [if_neg c, if_pos rfl]
      rw [eo] at hl ⊢
      rw [if_neg px_bzt]
      exact hone _ hid hl
  by_cases c1 : FB < (y :: t).length
  · rw [if_pos (by unfold mx_c; rw [px_N_lt (by omega) (by omega)]; omega)]
    exact hplain (by omega)
  · rw [if_neg (by unfold mx_c; rw [px_N_lt (by omega) (by omega)]; omega)]
    by_cases c2 : (y :: t).length ≤ FS
    · rw [if_pos (by unfold mx_c; rw [px_N_le (by omega) (by omega)]; omega)]
      exact hplain (by omega)
    · rw [if_neg (by unfold mx_c; rw [px_N_le (by omega) (by omega)]; omega)]
      have c : (y :: t).length ≤ FB ∧ FS < (y :: t).length := by omega
      have eh : hid + mx_ph FB FS (y :: t).length = hid + 1 := by unfold mx_ph; rw [if_pos c]
      have eo : mx_po mon str neg fl FB FS isd d y (y :: t).length = [mx_hp mon str neg (fl && decide ((y :: t).length = FS + 1))] := by unfold mx_po; rw [if_pos c]
      rw [eh, eo]
      rw [eo] at hl
      have hl1 : out.length + 1 ≤ 200 := hl
      have hno : ∃ res', (if (0 : Int32) = 0 then (if str = 42 then ((F_EditMovesModel_put (nI out.length) res 42).bind fun r => K r.1 (nI (hid + 1)) r.2 (nI (m - FB)) (nI (m - FS)) (nI (dgt + mx_b1 isd)) (px_bz fl) (mx_c m t)) else ((F_EditMovesModel_put (nI out.length) res 32).bind fun r => K r.1 (nI (hid + 1)) r.2 (nI (m - FB)) (nI (m - FS)) (nI (dgt + mx_b1 isd)) (px_bz fl) (mx_c m t))) else (if str = 202 then ((F_EditMovesModel_put (nI out.length) res mon).bind fun r => K r.1 (nI (hid + 1)) r.2 (nI (m - FB)) (nI (m - FS)) (nI (dgt + mx_b1 isd)) (px_bz fl) (mx_c m t)) else ((F_EditMovesModel_shownSign str (px_bz neg)).bind fun q => (F_EditMovesModel_put (nI out.length) res q).bind fun r => K r.1 (nI (hid + 1)) r.2 (nI (m - FB)) (nI (m - FS)) (nI (dgt + mx_b1 isd)) (px_bz fl) (mx_c m t)))) = K (nI (out ++ [mx_hp mon str neg false]).length) (nI (hid + 1)) res' (nI (m - FB)) (nI (m - FS)) (nI (dgt + mx_b1 isd)) (px_bz fl) (mx_c m t) ∧ mx_RowIs res' (out ++ [mx_hp mon str neg false]) := by
        rw [if_pos rfl]
        unfold mx_hp
        by_cases q : str = 42
        · rw [if_pos q, if_neg (by decide), if_pos q]; exact hone _ (hid + 1) hl1
        · rw [if_neg q, if_neg (by decide), if_neg q]; exact hone _ (hid + 1) hl1
      cases fl with
      | false =>
        rw [if_pos px_bzf]
        exact hno
      | true =>
        rw [if_neg px_bzt]
        have ex : nI (m - FS) - 1 = nI (m - FS - 1) := by rw [px_lit1, px_N_sub (by omega)]
        rw [ex]
        by_cases c3 : (y :: t).length = FS + 1
        · rw [if_pos (by unfold mx_c; rw [px_N_eq (by omega) (by omega)]; omega), if_neg (by decide)]
          have e9 : (true && decide ((y :: t).length = FS + 1)) = true := by rw [decide_eq_true c3]; rfl
          rw [e9, mx_F_ss]
          simp only [Option.bind_some]
          unfold mx_hp
          by_cases q : str = 202
          · rw [if_pos q, if_pos rfl, if_pos q]; exact hone _ (hid + 1) hl1
          · rw [if_neg q, if_pos rfl, if_neg q]; exact hone _ (hid + 1) hl1
        · rw [if_neg (by unfold mx_c; rw [px_N_eq (by omega) (by omega)]; omega)]
          have e9 : (true && decide ((y :: t).length = FS + 1)) = false := by rw [decide_eq_false c3]; rfl
          rw [e9]
          exact hno
/-- whether a sign is a digit's place -/
def mx_isd (str : Int32) (fl : Bool) (LB : Nat) (y : Int32) (l : Nat) : Bool := decide (y = 57) || (decide (y = str ∧ l ≤ LB ∧ str ≠ 0) && !(fl && decide (l = LB)))
/-- all places from a suffix on, with the digits from dgt on -/
def mx_pl (mon str : Int32) (neg fl : Bool) (FB FS LB : Nat) (came : Nat → Int32) : List Int32 → Nat → List Int32
  | [], _ => []
  | y :: t, dgt => mx_po mon str neg fl FB FS (mx_isd str fl LB y (y :: t).length) (if mx_isd str fl LB y (y :: t).length then came dgt else 0) y (y :: t).length ++ mx_pl mon str neg fl FB FS LB came t (dgt + mx_b1 (mx_isd str fl LB y (y :: t).length))
def mx_phs (FB FS : Nat) : List Int32 → Nat
  | [] => 0
  | y :: t => mx_ph FB FS (y :: t).length + mx_phs FB FS t
/-- how many digits' places -/
def mx_nd (str : Int32) (fl : Bool) (LB : Nat) : List Int32 → Nat
  | [] => 0
  | y :: t => mx_b1 (mx_isd str fl LB y (y :: t).length) + mx_nd str fl LB t
theorem mx_75 {mon str beg g : Int32} {neg fl : Bool} {row came : Nat → Int32} {m : Nat} {ys : List Int32} (h : mx_RY m row ys) {FB FS LB : Nat} (hFB : FB ≤ m) (hFS : FS ≤ m) (hLB : LB ≤ m) (hb : str ≠ 0 → beg = nI (m - LB)) (h0 : ∀ y ∈ ys, y ≠ 0) :
    ∀ (t : List Int32) (f hid dgt : Nat) (res : Nat → Int32) (out : List Int32), t <:+ ys → t.length < f → mx_RowIs res out → out.length + (mx_pl mon str neg fl FB FS LB came t dgt).length ≤ 200 → dgt + mx_nd str fl LB t ≤ 18 →
    ∃ res', B_EditMovesModel_places_75 mon (nI m) str beg g (px_bz neg) row came f (nI out.length) (nI hid) res (nI (m - FB)) (nI (m - FS)) (nI dgt) (px_bz fl) (mx_c m t)
      = some (nI (out ++ mx_pl mon str neg fl FB FS LB came t dgt).length, nI (hid + mx_phs FB FS t), res') ∧ mx_RowIs res' (out ++ mx_pl mon str neg fl FB FS LB came t dgt) := by
  have hm := h.2.1
  intro t
  induction t with
  | nil =>
    intro f hid dgt res out hs hf hr hl hd
    obtain ⟨f, rfl⟩ : ∃ g, f = g + 1 := ⟨f - 1, by omega⟩
    unfold B_EditMovesModel_places_75
    rw [if_pos (by unfold mx_c; rw [px_N_le (by omega) (by simp; omega)]; simp)]
    exact ⟨res, by simp [mx_pl, mx_phs], by simpa [mx_pl] using hr⟩
  | cons y t ih =>
    intro f hid dgt res out hs hf hr hl hd
    obtain ⟨f, rfl⟩ : ∃ g, f = g + 1 := ⟨f - 1, by omega⟩
    have hll := hs.length_le
    rw [h.1] at hll
    have hl0 : 1 ≤ (y :: t).length := by simp
    have hl1 : (y :: t).length = t.length + 1 := by simp
    have e := mx_here h hs
    have hy0 : y ≠ 0 := h0 y (hs.mem (by simp))
    have c1 : ¬ nI m ≤ mx_c m (y :: t) := by unfold mx_c; rw [px_N_le (by omega) (by omega)]; omega
    have c3 : (mx_c m (y :: t)).toNatClampNeg = m - (y :: t).length := by unfold mx_c; rw [px_N_clamp (by omega)]
    have c4 : ∀ k : mx_O3, wgd (mx_c m (y :: t)) 1400 k = k := by intro k; unfold mx_c; rw [px_wgd_in (by omega) (by omega)]
    have hd2 : dgt + mx_b1 (mx_isd str fl LB y (y :: t).length) + mx_nd str fl LB t ≤ 18 := by
      have : mx_nd str fl LB (y :: t) = mx_b1 (mx_isd str fl LB y (y :: t).length) + mx_nd str fl LB t := rfl
      omega
    have hpl : mx_pl mon str neg fl FB FS LB came (y :: t) dgt = mx_po mon str neg fl FB FS (mx_isd str fl LB y (y :: t).length) (if mx_isd str fl LB y (y :: t).length then came dgt else 0) y (y :: t).length ++ mx_pl mon str neg fl FB FS LB came t (dgt + mx_b1 (mx_isd str fl LB y (y :: t).length)) := rfl
    have h156 : ∀ isd : Bool, mx_isd str fl LB y (y :: t).length = isd → ∃ res', B_EditMovesModel_places_156 mon (nI m) str beg g (px_bz neg) row came (B_EditMovesModel_places_75 mon (nI m) str beg g (px_bz neg) row came f) (nI out.length) (nI hid) res (nI (m - FB)) (nI (m - FS)) (nI dgt) (px_bz fl) (mx_c m (y :: t)) y (px_bz isd)
      = some (nI (out ++ mx_pl mon str neg fl FB FS LB came (y :: t) dgt).length, nI (hid + mx_phs FB FS (y :: t)), res') ∧ mx_RowIs res' (out ++ mx_pl mon str neg fl FB FS LB came (y :: t) dgt) := by
      intro isd hi
      rw [hpl] at hl ⊢
      rw [hi] at hl hd2 ⊢
      rw [List.length_append] at hl
      obtain ⟨r1, g1, g2⟩ := mx_186 (mon := mon) (str := str) (beg := beg) (g := g) (neg := neg) (fl := fl) (isd := isd) (came := came) h hs (B_EditMovesModel_places_75 mon (nI m) str beg g (px_bz neg) row came f) (hid := hid) (dgt := dgt) hFB hFS (d := if isd then came dgt else 0) hr (by omega)
      obtain ⟨r2, k1, k2⟩ := ih f (hid + mx_ph FB FS (y :: t).length) (dgt + mx_b1 isd) r1 (out ++ mx_po mon str neg fl FB FS isd (if isd then came dgt else 0) y (y :: t).length) (mx_tl hs) (by omega) g2 (by rw [List.length_append]; omega) hd2
      refine ⟨r2, ?_, by rw [List.append_assoc] at k2; exact k2⟩
      have eh : hid + mx_phs FB FS (y :: t) = hid + mx_ph FB FS (y :: t).length + mx_phs FB FS t := by
        have : mx_phs FB FS (y :: t) = mx_ph FB FS (y :: t).length + mx_phs FB FS t := rfl
        omega
      rw [eh, ← List.append_assoc, ← k1, ← g1]
      unfold B_EditMovesModel_places_156 B_EditMovesModel_places_173
      cases isd with
      | false => rw [if_pos px_bzf, if_pos px_bzf]; rfl
      | true =>
        have hb1 : mx_b1 true = 1 := rfl
        rw [hb1] at hd2
        rw [if_neg px_bzt, if_neg px_bzt, px_wgd_in (by omega) (by omega), px_N_clamp (by omega)]
        rfl
    have t1 := h156 true
    have t0 := h156 false
    have q1 : px_bz true = 1 := rfl
    have q0 : px_bz false = 0 := rfl
    rw [q1] at t1
    rw [q0] at t0
    have h123 : ∀ os : Bool, decide (y = str ∧ (y :: t).length ≤ LB ∧ str ≠ 0) = os → ∃ res', B_EditMovesModel_places_123 mon (nI m) str beg g (px_bz neg) row came (B_EditMovesModel_places_75 mon (nI m) str beg g (px_bz neg) row came f) (nI out.length) (nI hid) res (nI (m - FB)) (nI (m - FS)) (nI dgt) (px_bz fl) (mx_c m (y :: t)) y (px_bz os)
      = some (nI (out ++ mx_pl mon str neg fl FB FS LB came (y :: t) dgt).length, nI (hid + mx_phs FB FS (y :: t)), res') ∧ mx_RowIs res' (out ++ mx_pl mon str neg fl FB FS LB came (y :: t) dgt) := by
      intro os ho
      unfold B_EditMovesModel_places_123 B_EditMovesModel_places_151 B_EditMovesModel_places_155
      by_cases a1 : y = 57
      · rw [if_pos a1]
        exact t1 (by unfold mx_isd; rw [decide_eq_true a1]; rfl)
      · rw [if_neg a1]
        have ei : mx_isd str fl LB y (y :: t).length = (os && !(fl && decide ((y :: t).length = LB))) := by unfold mx_isd; rw [decide_eq_false a1, ho]; rfl
        cases os with
        | false =>
          rw [if_pos px_bzf]
          exact t0 (by rw [ei]; rfl)
        | true =>
          rw [if_neg px_bzt]
          have hst : str ≠ 0 := (of_decide_eq_true ho).2.2
          cases hfl : fl with
          | false =>
            rw [if_pos px_bzf]
            rw [hfl] at t1 ei
            exact t1 (by rw [ei]; rfl)
          | true =>
            rw [if_neg px_bzt]
            rw [hfl] at t1 t0 ei
            rw [hb hst]
            by_cases a2 : (y :: t).length = LB
            · rw [if_pos (by unfold mx_c; rw [a2])]
              rw [← hb hst]
              exact t0 (by rw [ei, decide_eq_true a2]; rfl)
            · rw [if_neg (by unfold mx_c; rw [px_N_eq (by omega) (by omega)]; omega)]
              rw [← hb hst]
              exact t1 (by rw [ei, decide_eq_false a2]; rfl)
    have u1 := h123 true
    have u0 := h123 false
    rw [q1] at u1
    rw [q0] at u0
    unfold B_EditMovesModel_places_75 B_EditMovesModel_places_122
    rw [if_neg c1, c4, c3, e]
    by_cases a1 : y = str
    · have hst : str ≠ 0 := fun q => hy0 (a1.trans q)
      rw [if_pos a1]
      by_cases a2 : LB < (y :: t).length
      · have a3 : mx_c m (y :: t) < beg := by rw [hb hst]; unfold mx_c; rw [px_N_lt (by omega) (by omega)]; omega
        rw [if_pos a3]
        exact u0 (decide_eq_false (fun q => by omega))
      · have a3 : ¬ mx_c m (y :: t) < beg := by rw [hb hst]; unfold mx_c; rw [px_N_lt (by omega) (by omega)]; omega
        rw [if_neg a3, if_neg hst]
        exact u1 (decide_eq_true ⟨a1, by omega, hst⟩)
    · rw [if_neg a1]
      exact u0 (decide_eq_false (fun q => a1 q.1))

/-- from where on the string is shown: n of its signs are passed, r are left -/
def mx_sh (fl : Bool) (came : Nat → Int32) : Nat → Nat → List Int32 → List Int32
  | 0, _, t => t
  | r + 1, n, t => if (fl = false ∨ 1 ≤ n) ∧ came (n - mx_b1 fl) ≠ 0 then t else mx_sh fl came r (n + 1) (mx_p1 t)
def mx_dx (fl : Bool) (n : Nat) : Int32 := if fl then nI n - 1 else nI n
theorem mx_dx_succ {fl : Bool} {n : Nat} : mx_dx fl n + 1 = mx_dx fl (n + 1) := by
  unfold mx_dx
  have e : nI n + 1 = nI (n + 1) := px_N_add _ _
  cases fl with
  | false => exact e
  | true =>
    simp only [if_true]
    rw [← e]
    simp
theorem mx_all_cons {s : Int32} (hi : px_isI s = false) {t : List Int32} {r : Nat} (h : (mx_all s t).1 = r + 1) (ht : mx_upc t = t) : ∃ u, t = s :: u ∧ (mx_all s (mx_upc u)).1 = r := by
  cases t with
  | nil => simp [mx_all] at h
  | cons x u =>
    by_cases a : x = s
    · rw [mx_all, if_pos a] at h
      refine ⟨u, by rw [a], ?_⟩
      rw [mx_all_upc hi]
      have h2 : (mx_all s u).1 + 1 = r + 1 := h
      omega
    · have hx : ¬ px_isI x = true := by
        intro q
        rw [mx_upc, if_pos q] at ht
        have := (mx_upc_suf (t := u)).length_le
        rw [ht] at this
        simp at this
        omega
      rw [mx_all, if_neg a, if_neg hx] at h
      simp at h
theorem mx_31 {m : Nat} {row came : Nat → Int32} {ys : List Int32} (h : mx_RY m row ys) {str beg : Int32} {fl : Bool} {g : Nat} (hi : px_isI str = false) (hg : g ≤ 18 + mx_b1 fl) : ∀ (r n f : Nat) (t : List Int32), r + n = g → r < f → t <:+ ys → mx_upc t = t → (mx_all str t).1 = r →
    B_EditMovesModel_shown_31 (nI m) str beg (nI g) row came f (mx_dx fl n) (mx_c m t) (nI n) = some (mx_c m (mx_sh fl came r n t)) := by
  have hb : mx_b1 fl ≤ 1 := by cases fl <;> decide
  intro r
  induction r with
  | zero =>
    intro n f t hn hf hs ht ha
    obtain ⟨f, rfl⟩ : ∃ g, f = g + 1 := ⟨f - 1, by omega⟩
    unfold B_EditMovesModel_shown_31
    rw [if_pos (by rw [px_N_le (by omega) (by omega)]; omega)]
    rfl
  | succ r ih =>
    intro n f t hn hf hs ht ha
    obtain ⟨f, rfl⟩ : ∃ g, f = g + 1 := ⟨f - 1, by omega⟩
    obtain ⟨u, rfl, hu⟩ := mx_all_cons hi ha ht
    have hnext : B_EditMovesModel_shown_54 (nI m) str beg (nI g) row came (B_EditMovesModel_shown_31 (nI m) str beg (nI g) row came f) (mx_dx fl n) (mx_c m (str :: u)) (nI n) = some (mx_c m (mx_sh fl came r (n + 1) (mx_p1 (str :: u)))) := by
      unfold B_EditMovesModel_shown_54
      have k1 : nI n + 1 = nI (n + 1) := px_N_add _ _
      rw [mx_step h.1 hs, mx_main h (mx_tl hs), mx_dx_succ, k1]
      simp only [Option.bind_some]
      exact ih (n + 1) f (mx_upc u) (by omega) (by omega) (mx_upc_suf.trans (mx_tl hs)) mx_upc_upc hu
    unfold B_EditMovesModel_shown_31
    rw [if_neg (by rw [px_N_le (by omega) (by omega)]; omega), hnext]
    have es : mx_sh fl came (r + 1) n (str :: u) = if (fl = false ∨ 1 ≤ n) ∧ came (n - mx_b1 fl) ≠ 0 then (str :: u) else mx_sh fl came r (n + 1) (mx_p1 (str :: u)) := rfl
    rw [es]
    by_cases c : fl = false ∨ 1 ≤ n
    · have hle : mx_b1 fl ≤ n := by
        rcases c with c | c
        · rw [c]; exact Nat.zero_le _
        · omega
      have ed : mx_dx fl n = nI (n - mx_b1 fl) := by
        unfold mx_dx
        cases fl with
        | false => rfl
        | true =>
          simp only [if_true]
          rw [px_lit1, px_N_sub (show 1 ≤ n from hle)]
          rfl
      rw [ed, if_neg (by rw [px_lit0, px_N_lt (by omega) (by omega)]; omega), px_wgd_in (by omega) (by omega), px_N_clamp (by omega)]
      by_cases c2 : came (n - mx_b1 fl) = 0
      · rw [if_pos c2, if_neg (fun q => q.2 c2)]
      · rw [if_neg c2, if_pos ⟨c, c2⟩]
    · have hn0 : n = 0 := by
        by_cases q : 1 ≤ n
        · exact absurd (Or.inr q) c
        · omega
      have hfl : fl = true := by
        cases fl with
        | false => exact absurd (Or.inl rfl) c
        | true => rfl
      have ed : mx_dx fl n < 0 := by rw [hfl, hn0]; decide
      rw [if_pos ed, if_neg (fun q => c q.1)]
/-- whether a string of this sign floats -/
def mx_flo (str : Int32) : Bool := !(str == 0) && !(str == 90) && !(str == 42)
theorem mx_F_shown {m : Nat} {row came : Nat → Int32} {ys t : List Int32} (h : mx_RY m row ys) {str beg : Int32} {g : Nat} (hi : px_isI str = false) (h0 : str ≠ 0) (hg : g ≤ 18 + mx_b1 (mx_flo str)) (hs : t <:+ ys) (ht : mx_upc t = t) (ha : (mx_all str t).1 = g) (hb : beg = mx_c m t) :
    F_EditMovesModel_shown (nI m) str beg (nI g) row came = some (mx_c m (mx_sh (mx_flo str) came g 0 t)) := by
  have hb1 : mx_b1 (mx_flo str) ≤ 1 := by cases mx_flo str <;> decide
  have hk := mx_31 h (came := came) (str := str) (beg := beg) (fl := mx_flo str) hi hg g 0 fv t (by omega) (by show _ < 4000; omega) hs ht ha
  unfold F_EditMovesModel_shown B_EditMovesModel_shown_18
  rw [hb] at hk ⊢
  by_cases a1 : str = 90
  · have e : mx_flo str = false := by rw [a1]; decide
    rw [e] at hk ⊢
    rw [if_pos a1]
    exact hk
  · rw [if_neg a1]
    by_cases a2 : str = 42
    · have e : mx_flo str = false := by rw [a2]; decide
      rw [e] at hk ⊢
      rw [if_pos a2]
      exact hk
    · have e : mx_flo str = true := by unfold mx_flo; simp [h0, a1, a2]
      rw [e] at hk ⊢
      rw [if_neg a2]
      exact hk
