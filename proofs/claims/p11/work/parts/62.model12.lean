/-! THE REFERENCE, PURE: edit always ends, and what it leaves for later calls. -/
def mx_IV (pl so bd : Int32) : Prop := (pl = -1 ∨ ∃ k : Nat, k ≤ 200 ∧ pl = nI k) ∧ (so = 1 → (∃ k : Nat, k ≤ 200 ∧ pl = nI k) ∧ ∃ D : Nat, D ≤ 18 ∧ bd = nI D)
abbrev mx_O20 := Int32 × Int32 × Int32 × Int32 × Int32 × Int32 × Int32 × Int32 × Int32 × Int32 × Int32 × Int32 × Int32 × Int32 × Int32 × (Nat → Int32) × (Nat → Int32) × (Nat → Int32) × (Nat → Int32) × (Nat → Int32)
abbrev mx_OK (o : mx_O20) : Prop := mx_IV o.2.2.2.2.2.2.2.2.2.1 o.2.2.2.2.2.2.2.2.2.2.2.2.1 o.2.2.2.2.2.2.2.2.2.2.2.2.2.2.1
theorem mx_ok {k D : Nat} {so : Int32} (hk : k ≤ 200) (hD : D ≤ 18) : mx_IV (nI k) so (nI D) := ⟨Or.inr ⟨k, hk, rfl⟩, fun _ => ⟨⟨k, hk, rfl⟩, D, hD, rfl⟩⟩
theorem mx_okn {bd : Int32} : mx_IV (-1) 0 bd := ⟨Or.inl rfl, fun q => absurd q (by decide)⟩
theorem mx_okt {k : Nat} {bd : Int32} (hk : k ≤ 200) : mx_IV (nI k) 2 bd := ⟨Or.inr ⟨k, hk, rfl⟩, fun q => absurd q (by decide)⟩
theorem mx_fill_len {c : Int32} : ∀ t : List Int32, (mx_fill c t).length = mx_wid t
  | [] => rfl
  | y :: t => by
    show (mx_f1 c y ++ mx_fill c t).length = mx_wide y + mx_wid t
    rw [List.length_append, mx_fill_len t]
    unfold mx_f1
    rw [List.length_replicate]
theorem mx_c_all {m : Nat} {row : Nat → Int32} {ys : List Int32} (h : mx_RY m row ys) : mx_c m ys = 0 := by
  unfold mx_c
  rw [h.1, Nat.sub_self]
  rfl
theorem mx_F_fill0 {m : Nat} {row : Nat → Int32} {ys : List Int32} (h : mx_RY m row ys) (hw : mx_wid ys ≤ 200) {hid : Nat} {res : Nat → Int32} (c : Int32) : ∃ (k j : Nat) (res' : Nat → Int32), F_EditMovesModel_fill (nI m) row 0 (nI hid) res c = some (nI k, nI j, res') ∧ k ≤ 200 := by
  have h2 := h.2.1
  have h1 := h.1
  obtain ⟨r, k1, k2⟩ := mx_F_fill h (c := c) ys fv hid res [] (List.suffix_refl _) (by show _ < 4000; omega) (by intro k y q; simp at q) (by simpa using hw)
  rw [mx_c_all h, List.nil_append] at k1
  exact ⟨_, _, r, k1, by rw [mx_fill_len]; exact hw⟩
theorem mx_wide1 {str y : Int32} (hz : str = 90 ∨ str = 42 ∨ str = 43 ∨ str = 45 ∨ str = 202) (h : y = str ∨ px_isI y = true) : mx_wide y = 1 := by
  rcases h with h | h
  · rw [h]
    rcases hz with hz | hz | hz | hz | hz <;> rw [hz] <;> rfl
  · unfold px_isI at h
    simp only [Bool.or_eq_true, beq_iff_eq] at h
    rcases h with ((h | h) | h) | h <;> rw [h] <;> rfl
theorem mx_F_places {mon : Int32} {neg : Bool} {row came : Nat → Int32} {ys : List Int32} {beg0 : Int32} (h : mx_RY ys.length row ys) (h0 : ∀ y ∈ ys, y ≠ 0) (hq : (mx_num ys.length beg0 (mx_upc ys)).1 ≠ 0) (hw : mx_wid ys ≤ 200) {hid : Nat} {res : Nat → Int32} :
    ∃ (k j : Nat) (res' : Nat → Int32), F_EditMovesModel_places mon (nI ys.length) (mx_num ys.length beg0 (mx_upc ys)).2.2.2.1 (mx_num ys.length beg0 (mx_upc ys)).2.2.2.2.1 (mx_num ys.length beg0 (mx_upc ys)).2.2.2.2.2.1 (px_bz neg) row came 0 (nI hid) res = some (nI k, nI j, res') ∧ k ≤ 200 := by
  obtain ⟨a, b, g, _, _, e3, _, h19, hc⟩ := mx_facts hq
  rw [e3]
  rcases hc with ⟨hs, hnd⟩ | ⟨u, hu, hun, hs, hb, ha, hi, hn0, hz, hg, hnd⟩
  · rw [hs]
    have hl : (mx_pl mon 0 neg false 0 0 0 came ys 0).length = mx_wid ys := mx_pl_len (Or.inl rfl) ys 0 (fun y w _ q _ => by simp at q)
    obtain ⟨r, k1, _⟩ := mx_places0 (mon := mon) (beg := (mx_num ys.length beg0 (mx_upc ys)).2.2.2.2.1) (neg := neg) (came := came) (g := g) h h0 (hid := hid) (res := res) (by rw [hl]; exact hw) (by omega)
    exact ⟨_, _, r, k1, by rw [hl]; exact hw⟩
  · rw [hs, hb]
    have hsh : mx_sh (mx_flo (mx_hd u)) came g 0 u <:+ u := mx_sh_suf g 0 u
    have hl : (mx_pl mon (mx_hd u) neg (mx_flo (mx_hd u)) u.length (mx_sh (mx_flo (mx_hd u)) came g 0 u).length u.length came ys 0).length = mx_wid ys := by
      refine mx_pl_len (Or.inr hz) ys 0 ?_
      intro y w hy q1 q2
      have hyu : (y :: w) <:+ u := mx_suf_cmp hy hu q1
      exact mx_wide1 hz (mx_sh_between hi g 0 u hun ha y w hyu q2)
    obtain ⟨r, k1, _⟩ := mx_places1 (mon := mon) (neg := neg) (came := came) (g := g) h h0 hn0 hi hg hu hun ha rfl (hsh.trans hu) (hid := hid) (res := res) (by rw [hl]; exact hw) (by omega)
    exact ⟨_, _, r, k1, by rw [hl]; exact hw⟩
theorem mx_191 {pn tn sc mon : Int32} {v : Int64} {bl sz : Int32} {pic txt : Nat → Int32} {neg : Bool} {row res came mag br : Nat → Int32} {ys : List Int32} {beg0 so ah be cu rs nn x1 : Int32} (h : mx_RY ys.length row ys) (h0 : ∀ y ∈ ys, y ≠ 0) (hq : (mx_num ys.length beg0 (mx_upc ys)).1 ≠ 0) (hw : mx_wid ys ≤ 200) {hid D : Nat} (hD : D ≤ 18) :
    ∃ o, B_EditMovesModel_edit_191 pn tn sc mon v bl sz pic txt (nI ys.length) so ah be (mx_num ys.length beg0 (mx_upc ys)).2.2.2.1 (mx_num ys.length beg0 (mx_upc ys)).2.2.2.2.1 (mx_num ys.length beg0 (mx_upc ys)).2.2.2.2.2.1 nn 0 (nI hid) cu rs (px_bz neg) (nI D) row res came mag br x1 = some o ∧ mx_OK o := by
  obtain ⟨k, j, r, e, hk⟩ := mx_F_places (mon := mon) (neg := neg) (came := came) h h0 hq hw (hid := hid) (res := res)
  unfold B_EditMovesModel_edit_191
  by_cases c1 : x1 = 0
  · rw [if_pos c1, e]
    exact ⟨_, rfl, mx_ok hk hD⟩
  · rw [if_neg c1]
    by_cases c2 : nn = 0
    · rw [if_pos c2]
      by_cases c3 : (mx_num ys.length beg0 (mx_upc ys)).2.2.2.1 = 42
      · obtain ⟨k, j, r, e, hk⟩ := mx_F_fill0 h hw (hid := hid) (res := res) 42
        rw [if_pos c3, e]
        exact ⟨_, rfl, mx_ok hk hD⟩
      · obtain ⟨k, j, r, e, hk⟩ := mx_F_fill0 h hw (hid := hid) (res := res) 32
        rw [if_neg c3, e]
        exact ⟨_, rfl, mx_ok hk hD⟩
    · rw [if_neg c2, e]
      exact ⟨_, rfl, mx_ok hk hD⟩
theorem mx_159 {pn tn sc mon : Int32} {v : Int64} {bl sz : Int32} {pic txt : Nat → Int32} {s : Bool} {row res came mag br : Nat → Int32} {ys : List Int32} {beg0 so ah be cu rs nn neg x1 : Int32} (h : mx_RY ys.length row ys) (h0 : ∀ y ∈ ys, y ≠ 0) (hq : (mx_num ys.length beg0 (mx_upc ys)).1 ≠ 0) (hw : mx_wid ys ≤ 200) {hid D : Nat} (hD : D ≤ 18) :
    ∃ o, B_EditMovesModel_edit_159 pn tn sc mon v bl sz pic txt (nI ys.length) so ah be (mx_num ys.length beg0 (mx_upc ys)).2.2.2.1 (mx_num ys.length beg0 (mx_upc ys)).2.2.2.2.1 (mx_num ys.length beg0 (mx_upc ys)).2.2.2.2.2.1 nn 0 (nI hid) cu rs neg (nI D) row res came mag br x1 (px_bz s) = some o ∧ mx_OK o := by
  unfold B_EditMovesModel_edit_159 wgz
  rw [if_pos (by cases s; exact Or.inl rfl; exact Or.inr rfl)]
  by_cases c1 : x1 = 0
  · rw [if_pos c1]
    exact mx_191 h h0 hq hw hD
  · rw [if_neg c1]
    by_cases c2 : bl = 0
    · rw [if_pos c2]
      exact mx_191 h h0 hq hw hD
    · rw [if_neg c2]
      by_cases c3 : (mx_num ys.length beg0 (mx_upc ys)).2.2.2.1 = 42
      · rw [if_pos c3]
        exact mx_191 h h0 hq hw hD
      · obtain ⟨k, j, r, e, hk⟩ := mx_F_fill0 h hw (hid := hid) (res := res) 32
        rw [if_neg c3, e]
        exact ⟨_, rfl, mx_ok hk hD⟩
theorem mx_114 {pn tn sc mon : Int32} {v : Int64} {bl sz : Int32} {pic txt : Nat → Int32} {row res came mag : Nat → Int32} {ys : List Int32} {beg0 so ah be cu rs nn neg x1 : Int32} (h : mx_RY ys.length row ys) (h0 : ∀ y ∈ ys, y ≠ 0) (hq : (mx_num ys.length beg0 (mx_upc ys)).1 ≠ 0) (hw : mx_wid ys ≤ 200) {hid D : Nat} (hD : D ≤ 18) :
    ∀ (r k f : Nat) (br : Nat → Int32), k + r = D → r < f →
    ∃ o, B_EditMovesModel_edit_114 pn tn sc mon v bl sz pic txt f (nI ys.length) so ah be (mx_num ys.length beg0 (mx_upc ys)).2.2.2.1 (mx_num ys.length beg0 (mx_upc ys)).2.2.2.2.1 (mx_num ys.length beg0 (mx_upc ys)).2.2.2.2.2.1 nn 0 (nI hid) cu rs neg (nI D) row res came mag br x1 (nI k) = some o ∧ mx_OK o := by
  intro r
  induction r with
  | zero =>
    intro k f br hk hf
    obtain ⟨f, rfl⟩ : ∃ g, f = g + 1 := ⟨f - 1, by omega⟩
    unfold B_EditMovesModel_edit_114 B_EditMovesModel_edit_158
    rw [if_pos (by rw [px_N_le (by omega) (by omega)]; omega)]
    have a0 := fun br => mx_159 (pn := pn) (tn := tn) (sc := sc) (mon := mon) (v := v) (bl := bl) (sz := sz) (pic := pic) (txt := txt) (s := false) (res := res) (came := came) (mag := mag) (br := br) (so := so) (ah := ah) (be := be) (cu := cu) (rs := rs) (nn := nn) (neg := neg) (x1 := x1) h h0 hq hw (hid := hid) hD
    have a1 := fun br => mx_159 (pn := pn) (tn := tn) (sc := sc) (mon := mon) (v := v) (bl := bl) (sz := sz) (pic := pic) (txt := txt) (s := true) (res := res) (came := came) (mag := mag) (br := br) (so := so) (ah := ah) (be := be) (cu := cu) (rs := rs) (nn := nn) (neg := neg) (x1 := x1) h h0 hq hw (hid := hid) hD
    split
    · exact a0 br
    · split
      · exact a1 br
      · exact a0 br
  | succ r ih =>
    intro k f br hk hf
    obtain ⟨f, rfl⟩ : ∃ g, f = g + 1 := ⟨f - 1, by omega⟩
    unfold B_EditMovesModel_edit_114
    rw [if_neg (by rw [px_N_le (by omega) (by omega)]; omega)]
    have hg : ¬ (nI k < 0 ∨ 18 ≤ (nI k).toNatClampNeg) := by
      rw [px_N_clamp (by omega)]
      intro q
      rcases q with q | q
      · rw [px_lit0, px_N_lt (by omega) (by omega)] at q
        omega
      · omega
    unfold wgd
    rw [if_neg hg, if_neg hg]
    have e : nI k + 1 = nI (k + 1) := px_N_add k 1
    rw [e]
    exact ih (k + 1) f _ (by omega) (by omega)
theorem mx_114z {pn tn sc mon : Int32} {v : Int64} {bl sz : Int32} {pic txt : Nat → Int32} {row res came mag : Nat → Int32} {ys : List Int32} {beg0 so ah be cu rs nn neg x1 : Int32} (h : mx_RY ys.length row ys) (h0 : ∀ y ∈ ys, y ≠ 0) (hq : (mx_num ys.length beg0 (mx_upc ys)).1 ≠ 0) (hw : mx_wid ys ≤ 200) {D : Nat} (hD : D ≤ 18) (br : Nat → Int32) :
    ∃ o, B_EditMovesModel_edit_114 pn tn sc mon v bl sz pic txt fv (nI ys.length) so ah be (mx_num ys.length beg0 (mx_upc ys)).2.2.2.1 (mx_num ys.length beg0 (mx_upc ys)).2.2.2.2.1 (mx_num ys.length beg0 (mx_upc ys)).2.2.2.2.2.1 nn 0 0 cu rs neg (nI D) row res came mag br x1 0 = some o ∧ mx_OK o := by
  have t := mx_114 (pn := pn) (tn := tn) (sc := sc) (mon := mon) (v := v) (bl := bl) (sz := sz) (pic := pic) (txt := txt) (res := res) (came := came) (mag := mag) (so := so) (ah := ah) (be := be) (cu := cu) (rs := rs) (nn := nn) (neg := neg) (x1 := x1) h h0 hq hw (hid := 0) hD D 0 fv br (by omega) (by show _ < 4000; omega)
  rw [← px_lit0] at t
  exact t
theorem mx_68n {pn tn sc mon : Int32} {v : Int64} {bl sz : Int32} {pic txt : Nat → Int32} {row res came mag br : Nat → Int32} {ys : List Int32} {beg0 cu pl rs nn neg bd : Int32} (h : mx_RY ys.length row ys) (h0 : ∀ y ∈ ys, y ≠ 0) (hq : (mx_num ys.length beg0 (mx_upc ys)).1 ≠ 0) (hw : mx_wid ys ≤ 200) {a b M d : Nat} (hD : a + b ≤ 18) (hc : ∀ i, i < a + b → came i = nI (px_digS M a b d i)) :
    ∃ o, B_EditMovesModel_edit_68 pn tn sc mon v bl sz pic txt (nI ys.length) 1 (nI a) (nI b) (mx_num ys.length beg0 (mx_upc ys)).2.2.2.1 (mx_num ys.length beg0 (mx_upc ys)).2.2.2.2.1 (mx_num ys.length beg0 (mx_upc ys)).2.2.2.2.2.1 nn pl 0 cu rs neg bd row res came mag br = some o ∧ mx_OK o := by
  unfold B_EditMovesModel_edit_68
  rw [if_neg (by decide), mx_isZero hD hc, px_N_add]
  simp only [Option.bind_some]
  exact mx_114z h h0 hq hw hD br
theorem mx_68t {pn sc mon : Int32} {v : Int64} {bl sz : Int32} {pic txt : Nat → Int32} {row res came mag br : Nat → Int32} {ys : List Int32} {ah be st bg g hid cu pl rs nn neg bd : Int32} {n : Nat} (hn : n ≤ 60) (h : mx_RY ys.length row ys) (ht : mx_tx ys = true) (hw : mx_wid ys ≤ 200) :
    ∃ o, B_EditMovesModel_edit_68 pn (nI n) sc mon v bl sz pic txt (nI ys.length) 2 ah be st bg g nn pl hid cu rs neg bd row res came mag br = some o ∧ mx_OK o := by
  have hl := mx_tx_wid ht
  obtain ⟨r, k1, _⟩ := mx_F_editText h (txt := txt) hn (cu := cu) ys fv 0 res [] (List.suffix_refl _) (by show _ < 4000; omega) (by omega) (by intro k y q; simp at q) (by simp; omega)
  rw [mx_c_all h, List.nil_append] at k1
  unfold B_EditMovesModel_edit_68 F_EditMovesModel_editText
  rw [if_pos rfl]
  have k2 : B_EditMovesModel_editText_4 (nI n) (nI ys.length) txt row fv 0 cu res 0 0 = _ := k1
  rw [k2]
  exact ⟨_, rfl, mx_okt (by rw [mx_te_len]; omega)⟩
theorem mx_F_edit {n n1 d : Nat} (hn : n ≤ 60) (hn1 : n1 ≤ 60) (hd : d ≤ 18) {mon : Int32} {v : Int64} {bl sz : Int32} {pic txt : Nat → Int32} {m0 so a b str beg g nn pl hid cu rs neg bd : Int32} {row res came mag br : Nat → Int32} :
    ∃ o, F_EditMovesModel_edit (nI n) (nI n1) (nI d) mon v bl sz pic txt m0 so a b str beg g nn pl hid cu rs neg bd row res came mag br = some o ∧ mx_OK o := by
  have hL := mx_F_look (mon := mon) (pic := pic) hn (m0 := m0) (so := so) (a := a) (b := b) (str := str) (beg := beg) (g := g) (nn := nn) (row := row)
  unfold F_EditMovesModel_edit
  rcases hk : mx_look beg mon (px_lineL n pic) with _ | ⟨ys, _ | q⟩
  · rw [hk] at hL
    obtain ⟨m1, a1, b1, c1, d1, e1, f1, r1, hL⟩ := hL
    rw [hL]
    exact ⟨_, rfl, mx_okn⟩
  · rw [hk] at hL
    obtain ⟨a1, b1, c1, d1, e1, f1, r1, hL, hRY⟩ := hL
    rw [hL]
    simp only [Option.bind_some]
    rw [if_neg (by decide), mx_width hRY]
    simp only [Option.bind_some]
    have hy := hRY.2.1
    have hw2 : ∀ t : List Int32, mx_wid t ≤ 2 * t.length := by
      intro t
      induction t with
      | nil => exact Nat.le_refl _
      | cons y t ih =>
        have : mx_wide y ≤ 2 := by unfold mx_wide; split; simp; split <;> simp
        show mx_wide y + mx_wid t ≤ 2 * (y :: t).length
        simp; omega
    have hyw := hw2 ys
    by_cases c : mx_wid ys ≤ 200
    · rw [if_pos (by rw [px_lit200, px_N_le (by omega) (by omega)]; exact c), if_neg (by decide)]
      exact mx_68t hn1 hRY (mx_look_text hk) c
    · rw [if_neg (by rw [px_lit200, px_N_le (by omega) (by omega)]; exact c)]
      exact ⟨_, rfl, mx_okn⟩
  · rw [hk] at hL
    obtain ⟨r1, hL, hRY⟩ := hL
    obtain ⟨hqe, hq, h0⟩ := mx_look_num hk
    subst hqe
    rw [hL]
    simp only [Option.bind_some]
    rw [if_neg (by decide), mx_width hRY]
    simp only [Option.bind_some]
    have hy := hRY.2.1
    have hw2 : ∀ t : List Int32, mx_wid t ≤ 2 * t.length := by
      intro t
      induction t with
      | nil => exact Nat.le_refl _
      | cons y t ih =>
        have : mx_wide y ≤ 2 := by unfold mx_wide; split; simp; split <;> simp
        show mx_wide y + mx_wid t ≤ 2 * (y :: t).length
        simp; omega
    have hyw := hw2 ys
    by_cases c : mx_wid ys ≤ 200
    · rw [if_pos (by rw [px_lit200, px_N_le (by omega) (by omega)]; exact c)]
      first | rw [if_pos trivial] | rw [if_pos rfl]
      obtain ⟨x, y, g1, e1, e2, _, _, h19, _⟩ := mx_facts hq
      obtain ⟨came', mag', hdg, hca⟩ := mx_digits (v := v) (a := x) (b := y) (d := d) hd (by omega) (cu := 0) (came := came) (mag := mag)
      rw [e1, e2, hdg]
      simp only [Option.bind_some]
      split
      · exact mx_68n hRY h0 hq c (by omega) hca
      · split
        · exact mx_68n hRY h0 hq c (by omega) hca
        · exact ⟨_, rfl, mx_okn⟩
    · rw [if_neg (by rw [px_lit200, px_N_le (by omega) (by omega)]; exact c)]
      exact ⟨_, rfl, mx_okn⟩
