/-! THE REFERENCE, PURE: places from its entry; back; at. -/
theorem mx_places0 {mon beg : Int32} {neg : Bool} {row came : Nat → Int32} {m g : Nat} {ys : List Int32} (h : mx_RY m row ys) (h0 : ∀ y ∈ ys, y ≠ 0) {hid : Nat} {res : Nat → Int32}
    (hl : (mx_pl mon 0 neg false 0 0 0 came ys 0).length ≤ 200) (hd : mx_nd 0 false 0 ys ≤ 18) :
    ∃ res', F_EditMovesModel_places mon (nI m) 0 beg (nI g) (px_bz neg) row came 0 (nI hid) res = some (nI (mx_pl mon 0 neg false 0 0 0 came ys 0).length, nI (hid + mx_phs 0 0 ys), res') ∧ mx_RowIs res' (mx_pl mon 0 neg false 0 0 0 came ys 0) := by
  have h1 := h.1
  have h2 := h.2.1
  have e0 : (0 : Int32) = mx_c m ys := by unfold mx_c; rw [h1]; simp [px_lit0]
  obtain ⟨r, k1, k2⟩ := mx_75 (mon := mon) (str := 0) (beg := beg) (g := nI g) (neg := neg) (fl := false) (came := came) h (FB := 0) (FS := 0) (LB := 0) (Nat.zero_le _) (Nat.zero_le _) (Nat.zero_le _) (fun q => absurd rfl q) h0 ys fv hid 0 res [] (List.suffix_refl _) (by show _ < 4000; omega) (by intro k y q; simp at q) (by simpa using hl) (by omega)
  rw [← e0] at k1
  rw [List.nil_append] at k1 k2
  refine ⟨r, ?_, k2⟩
  unfold F_EditMovesModel_places B_EditMovesModel_places_18 B_EditMovesModel_places_37
  rw [if_pos rfl, if_pos rfl, if_pos rfl]
  exact k1
theorem mx_places1 {mon str beg : Int32} {neg : Bool} {row came : Nat → Int32} {m g : Nat} {ys t : List Int32} (h : mx_RY m row ys) (h0 : ∀ y ∈ ys, y ≠ 0) (hst : str ≠ 0) (hi : px_isI str = false) (hg : g ≤ 18 + mx_b1 (mx_flo str)) (hs : t <:+ ys) (ht : mx_upc t = t) (ha : (mx_all str t).1 = g) (hb : beg = mx_c m t) (hsh : mx_sh (mx_flo str) came g 0 t <:+ ys) {hid : Nat} {res : Nat → Int32}
    (hl : (mx_pl mon str neg (mx_flo str) t.length (mx_sh (mx_flo str) came g 0 t).length t.length came ys 0).length ≤ 200) (hd : mx_nd str (mx_flo str) t.length ys ≤ 18) :
    ∃ res', F_EditMovesModel_places mon (nI m) str beg (nI g) (px_bz neg) row came 0 (nI hid) res = some (nI (mx_pl mon str neg (mx_flo str) t.length (mx_sh (mx_flo str) came g 0 t).length t.length came ys 0).length, nI (hid + mx_phs t.length (mx_sh (mx_flo str) came g 0 t).length ys), res') ∧ mx_RowIs res' (mx_pl mon str neg (mx_flo str) t.length (mx_sh (mx_flo str) came g 0 t).length t.length came ys 0) := by
  have h1 := h.1
  have h2 := h.2.1
  have hlt := hs.length_le
  have hls := hsh.length_le
  have e0 : (0 : Int32) = mx_c m ys := by unfold mx_c; rw [h1]; simp [px_lit0]
  obtain ⟨r, k1, k2⟩ := mx_75 (mon := mon) (str := str) (beg := beg) (g := nI g) (neg := neg) (fl := mx_flo str) (came := came) h (FB := t.length) (FS := (mx_sh (mx_flo str) came g 0 t).length) (LB := t.length) (by omega) (by omega) (by omega) (fun _ => hb) h0 ys fv hid 0 res [] (List.suffix_refl _) (by show _ < 4000; omega) (by intro k y q; simp at q) (by simpa using hl) (by omega)
  rw [← e0] at k1
  rw [List.nil_append] at k1 k2
  refine ⟨r, ?_, k2⟩
  unfold F_EditMovesModel_places B_EditMovesModel_places_18 B_EditMovesModel_places_37
  rw [if_neg hst, if_neg hst, mx_F_shown h hi hst hg hs ht ha hb]
  simp only [Option.bind_some]
  rw [if_neg hst]
  have eb : beg = nI (m - t.length) := hb
  by_cases a1 : str = 90
  · have e : mx_flo str = false := by rw [a1]; decide
    rw [if_pos a1]
    rw [e] at k1 ⊢
    rw [← eb] at k1
    exact k1
  · rw [if_neg a1]
    by_cases a2 : str = 42
    · have e : mx_flo str = false := by rw [a2]; decide
      rw [if_pos a2]
      rw [e] at k1 ⊢
      rw [← eb] at k1
      exact k1
    · have e : mx_flo str = true := by unfold mx_flo; simp [hst, a1, a2]
      rw [if_neg a2]
      rw [e] at k1 ⊢
      rw [← eb] at k1
      exact k1
theorem mx_sh_suf {fl : Bool} {came : Nat → Int32} : ∀ (r n : Nat) (t : List Int32), mx_sh fl came r n t <:+ t := by
  intro r
  induction r with
  | zero => intro n t; exact List.suffix_refl _
  | succ r ih =>
    intro n t
    unfold mx_sh
    split
    · exact List.suffix_refl _
    · exact (ih (n + 1) (mx_p1 t)).trans mx_p1_suf
/-- what is read back: the digits that came, one behind the other -/
def mx_num10 (br : Nat → Int32) : Nat → Int64
  | 0 => 0
  | k + 1 => 10 * mx_num10 br k + (br k).toInt64
def mx_minus (out : List Int32) : Bool := out.any (fun c => c == 45 || c == 67 || c == 68)
theorem mx_78 {p so : Int32} {res br : Nat → Int32} {D : Nat} (hD : D ≤ 18) {mi : Bool} : ∀ (r k f : Nat), k + r = D → r < f → B_EditMovesModel_back_78 p so (nI D) res br f (mx_num10 br k) (px_bz mi) (nI k) = some (1, if mi = true then -mx_num10 br D else mx_num10 br D) := by
  intro r
  induction r with
  | zero =>
    intro k f hk hf
    obtain ⟨f, rfl⟩ : ∃ g, f = g + 1 := ⟨f - 1, by omega⟩
    have : k = D := by omega
    subst this
    unfold B_EditMovesModel_back_78
    rw [if_pos (by rw [px_N_le (by omega) (by omega)]; omega)]
    cases mi <;> rfl
  | succ r ih =>
    intro k f hk hf
    obtain ⟨f, rfl⟩ : ∃ g, f = g + 1 := ⟨f - 1, by omega⟩
    have k1 : nI k + 1 = nI (k + 1) := px_N_add _ _
    unfold B_EditMovesModel_back_78
    rw [if_neg (by rw [px_N_le (by omega) (by omega)]; omega), px_wgd_in (by omega) (by omega), px_N_clamp (by omega), k1]
    exact ih (k + 1) f (by omega) (by omega)
theorem mx_14 {so : Int32} {res br : Nat → Int32} {out : List Int32} (hr : mx_RowIs res out) (ho : out.length ≤ 200) {D : Nat} (hD : D ≤ 18) : ∀ (t : List Int32) (f : Nat) (mi : Bool) (nu : Int64), t <:+ out → t.length < f →
    B_EditMovesModel_back_14 (nI out.length) so (nI D) res br f nu (px_bz mi) (mx_c out.length t) = some (1, if (mi || mx_minus t) = true then -mx_num10 br D else mx_num10 br D) := by
  intro t
  induction t with
  | nil =>
    intro f mi nu hs hf
    obtain ⟨f, rfl⟩ : ∃ g, f = g + 1 := ⟨f - 1, by omega⟩
    unfold B_EditMovesModel_back_14
    rw [if_pos (by unfold mx_c; rw [px_N_le (by omega) (by simp; omega)]; simp)]
    have e : (mi || mx_minus []) = mi := by simp [mx_minus]
    rw [e]
    exact mx_78 hD D 0 fv (by omega) (by show _ < 4000; omega)
  | cons y t ih =>
    intro f mi nu hs hf
    obtain ⟨f, rfl⟩ : ∃ g, f = g + 1 := ⟨f - 1, by omega⟩
    have hll := hs.length_le
    have hl0 : (y :: t).length = t.length + 1 := by simp
    have hRY : mx_RY out.length res out := ⟨rfl, by omega, hr⟩
    have e := mx_here hRY hs
    have e3 := mx_step rfl hs
    have c1 : ¬ nI out.length ≤ mx_c out.length (y :: t) := by unfold mx_c; rw [px_N_le (by omega) (by omega)]; omega
    have c3 : (mx_c out.length (y :: t)).toNatClampNeg = out.length - (y :: t).length := by unfold mx_c; rw [px_N_clamp (by omega)]
    have c4 : ∀ k : Option (Int32 × Int64), wgd (mx_c out.length (y :: t)) 200 k = k := by intro k; unfold mx_c; rw [px_wgd_in (by omega) (by omega)]
    have i1 := ih f true nu (mx_tl hs) (by omega)
    have i0 := ih f false nu (mx_tl hs) (by omega)
    have q1 : px_bz true = 1 := rfl
    have q0 : px_bz false = 0 := rfl
    rw [q1] at i1
    rw [q0] at i0
    unfold B_EditMovesModel_back_14
    rw [if_neg c1]
    simp only [c4]
    rw [c3, e, e3, i1, i0]
    have em : mx_minus (y :: t) = ((y == 45 || y == 67 || y == 68) || mx_minus t) := by unfold mx_minus; rw [List.any_cons]
    rw [em]
    cases mi with
    | true => simp [px_bz]
    | false =>
      rw [if_pos px_bzf]
      by_cases a1 : y = 45
      · simp [a1]
      · by_cases a2 : y = 67
        · simp [a2]
        · by_cases a3 : y = 68
          · simp [a3]
          · simp [a1, a2, a3]
theorem mx_F_back {so : Int32} {res br : Nat → Int32} {out : List Int32} (hr : mx_RowIs res out) (ho : out.length ≤ 200) {D : Nat} (hD : D ≤ 18) {nu : Int64} :
    F_EditMovesModel_back (nI out.length) so (nI D) res br nu = some (if so = 1 then (1, if mx_minus out = true then -mx_num10 br D else mx_num10 br D) else (0, nu)) := by
  unfold F_EditMovesModel_back
  have e0 : (0 : Int32) = mx_c out.length out := by unfold mx_c; simp [px_lit0]
  have hk := mx_14 (so := so) (br := br) hr ho hD out fv false nu (List.suffix_refl _) (by show _ < 4000; omega)
  rw [← e0, Bool.false_or] at hk
  by_cases c : so = 1
  · rw [if_pos c, if_pos c]
    exact hk
  · rw [if_neg c, if_neg c]
theorem mx_F_back0 {p so bd : Int32} {res br : Nat → Int32} {nu : Int64} (h : ¬ so = 1) : F_EditMovesModel_back p so bd res br nu = some (0, nu) := by
  unfold F_EditMovesModel_back
  rw [if_neg h]
theorem mx_F_at {res : Nat → Int32} {out : List Int32} (hr : mx_RowIs res out) (ho : out.length ≤ 200) {i : Int32} : F_EditMovesModel_at (nI out.length) res i = some (if i < 0 ∨ nI out.length ≤ i then -1 else out.getD i.toNatClampNeg 0) := by
  unfold F_EditMovesModel_at
  by_cases c1 : i < 0
  · rw [if_pos c1, if_pos (Or.inl c1)]
  · rw [if_neg c1]
    by_cases c2 : nI out.length ≤ i
    · rw [if_pos c2, if_pos (Or.inr c2)]
    · rw [if_neg c2, if_neg (fun q => q.elim c1 c2)]
      have c1' := c1
      rw [px_notlt_le, Int32.le_iff_toInt_le] at c1'
      have z : (0 : Int32).toInt = 0 := by decide
      have e := px_N_of (by omega : 0 ≤ i.toInt)
      have hb := Int32.toInt_lt i
      generalize hk : i.toInt.toNat = k at e
      have hk2 : k < 2147483648 := by omega
      rw [e] at c2 ⊢
      rw [px_N_le (by omega) (by omega)] at c2
      rw [px_wgd_in (by omega) (by omega), px_N_clamp (by omega)]
      have hlt : k < out.length := by omega
      have e2 : out[k]? = some out[k] := List.getElem?_eq_getElem hlt
      rw [hr k _ e2, List.getD_eq_getElem?_getD, e2]
      rfl
