def px_lStep (xs : List Int32) (s : Int32) (q : Nat × px_RS) : Nat × px_RS :=
  if s = 88 then (q.1 + 1, px_xput q.2 (if q.1 < xs.length then xs.getD q.1 0 else 32) false)
  else (q.1, px_xput q.2 (if s = 66 then 32 else s) false)
def px_lin (xs : List Int32) (t : List px_Rn) (q : Nat × px_RS) : Nat × px_RS := t.foldl (fun q x => px_iter (px_lStep xs x.1) x.2 q) q
theorem px_lStep_le {xs : List Int32} {s : Int32} {q : Nat × px_RS} (h : q.2.1 ≤ 200) : (px_lStep xs s q).2.1 ≤ 200 ∧ (px_lStep xs s q).1 ≤ q.1 + 1 := by
  unfold px_lStep
  split
  · exact ⟨px_xput_le h, Nat.le_refl _⟩
  · exact ⟨px_xput_le h, Nat.le_succ _⟩
theorem px_iterL_le {xs : List Int32} {s : Int32} : ∀ (n : Nat) (q : Nat × px_RS), q.2.1 ≤ 200 → (px_iter (px_lStep xs s) n q).2.1 ≤ 200 ∧ (px_iter (px_lStep xs s) n q).1 ≤ q.1 + n := by
  intro n
  induction n with
  | zero => intro q h; exact ⟨h, Nat.le_refl _⟩
  | succ n ih =>
    intro q h
    unfold px_iter
    have h1 := px_lStep_le (xs := xs) (s := s) h
    have h2 := ih _ h1.1
    exact ⟨h2.1, by omega⟩
theorem px_E_33 {n0 : Nat} {lrow : Nat → Int32} (hn0 : n0 ≤ 60) {m : Nat} {sg ct : Nat → Int32} {rs t : List px_Rn} {x : px_Rn} (h : px_RH m sg ct rs) (hs : (x :: t) <:+ rs) {kind : Int32}
    (K : Int32 → Int32 → (Nat → Int32) → (Nat → Int32) → Int32 → Int32 → (Option (Int32 × Int32 × Int32 × (Nat → Int32) × (Nat → Int32)))) :
    ∀ (n f j : Nat) (q : Nat × px_RS), q.2.1 ≤ 200 → q.1 + n < 100000 → n + j = x.2 → n < f →
    B_Editor_writeLine_33 (nI m) sg ct (nI n0) lrow K f kind (nI q.2.1) q.2.2.1 q.2.2.2 (nI q.1) (px_cu m (x :: t)) x.1 (nI j)
      = (let u := px_iter (px_lStep (px_lineL n0 lrow) x.1) n q
         K kind (nI u.2.1) u.2.2.1 u.2.2.2 (nI u.1) (px_cu m t)) := by
  have hx := h.ok x (hs.mem (by simp))
  have hm := h.le
  have hc : F_Picture_count (nI m) ct (px_cu m (x :: t)) = some (nI x.2) := by
    unfold px_cu
    rw [px_Pn_count h.rlen h.le h.are (by omega), px_suf_drop h.rlen hs]
    rfl
  intro n
  induction n with
  | zero =>
    intro f j s hl hn hj hf
    obtain ⟨f, rfl⟩ : ∃ g, f = g + 1 := ⟨f - 1, by omega⟩
    unfold B_Editor_writeLine_33
    rw [hc]
    simp only [Option.bind_some]
    rw [if_pos (by rw [px_N_le (by omega) (by omega)]; omega), px_cu_step h.rlen hs]
    rfl
  | succ n ih =>
    intro f j q hl hn hj hf
    obtain ⟨f, rfl⟩ : ∃ g, f = g + 1 := ⟨f - 1, by omega⟩
    unfold B_Editor_writeLine_33
    rw [hc]
    simp only [Option.bind_some]
    have hl1 := px_lStep_le (xs := px_lineL n0 lrow) (s := x.1) hl
    have hi := ih f (j + 1) (px_lStep (px_lineL n0 lrow) x.1 q) hl1.1 (by omega) (by omega) (by omega)
    rw [if_neg (by rw [px_N_le (by omega) (by omega)]; omega)]
    rw [px_L_char hn0 (by omega)]
    simp only [Option.bind_some]
    rw [px_R_put0 hl, px_R_put0 hl, px_R_put0 hl]
    simp only [Option.bind_some]
    have e1 : nI j + 1 = nI (j + 1) := by rw [px_lit1, px_N_add]
    have e2 : nI q.1 + 1 = nI (q.1 + 1) := by rw [px_lit1, px_N_add]
    rw [e1, e2]
    unfold px_iter
    rw [← hi]
    unfold px_lStep
    by_cases c1 : x.1 = 88
    · rw [if_pos c1, if_pos c1]
      by_cases c2 : q.1 < n0
      · have c2' : ¬ nI n0 ≤ nI q.1 := by rw [px_N_le (by omega) (by omega)]; omega
        have c3 : q.1 < (px_lineL n0 lrow).length := by rw [px_lineL_len]; exact c2
        rw [if_neg c2', if_pos c3]
      · have c2' : nI n0 ≤ nI q.1 := by rw [px_N_le (by omega) (by omega)]; omega
        have c3 : ¬ q.1 < (px_lineL n0 lrow).length := by rw [px_lineL_len]; exact c2
        rw [if_pos c2', if_neg c3]
    · rw [if_neg c1, if_neg c1]
      by_cases c2 : x.1 = 66
      · rw [if_pos c2, if_pos c2]
      · rw [if_neg c2, if_neg c2]
theorem px_E_13 {n0 : Nat} {lrow : Nat → Int32} (hn0 : n0 ≤ 60) {m : Nat} {sg ct : Nat → Int32} {rs : List px_Rn} (h : px_RH m sg ct rs) {kind : Int32} :
    ∀ (t : List px_Rn) (f : Nat) (q : Nat × px_RS), t <:+ rs → q.2.1 ≤ 200 → q.1 + 99 * t.length < 90000 → t.length < f →
    B_Editor_writeLine_13 (nI m) sg ct (nI n0) lrow f kind (nI q.2.1) q.2.2.1 q.2.2.2 (nI q.1) (px_cu m t)
      = (let u := px_lin (px_lineL n0 lrow) t q
         some (nI (n0 - u.1), kind, nI u.2.1, u.2.2.1, u.2.2.2)) := by
  intro t
  induction t with
  | nil =>
    intro f q hs hl hn hf
    obtain ⟨f, rfl⟩ : ∃ g, f = g + 1 := ⟨f - 1, by omega⟩
    have hle := h.le
    unfold B_Editor_writeLine_13
    rw [if_pos (by unfold px_cu; rw [px_N_le (by omega) (by simp; omega)]; simp)]
    simp at hn
    have e : px_lin (px_lineL n0 lrow) [] q = q := rfl
    rw [e]
    simp only
    by_cases c2 : n0 ≤ q.1
    · have c2' : nI n0 ≤ nI q.1 := by rw [px_N_le (by omega) (by omega)]; omega
      rw [if_pos c2', Nat.sub_eq_zero_of_le c2]
      rfl
    · have c2' : ¬ nI n0 ≤ nI q.1 := by rw [px_N_le (by omega) (by omega)]; omega
      rw [if_neg c2', px_N_sub (by omega)]
  | cons x t ih =>
    intro f q hs hl hn hf
    obtain ⟨f, rfl⟩ : ∃ g, f = g + 1 := ⟨f - 1, by omega⟩
    have hle := h.le
    have hl1 := hs.length_le
    rw [h.rlen] at hl1
    have hl0 : 1 ≤ (x :: t).length := by simp
    have hx := h.ok x (hs.mem (by simp))
    have c1 : ¬ nI m ≤ px_cu m (x :: t) := by unfold px_cu; rw [px_N_le (by omega) (by omega)]; omega
    have hlen : (x :: t).length = t.length + 1 := by simp
    unfold B_Editor_writeLine_13
    rw [if_neg c1, px_Pn_sgn h hs]
    simp only [Option.bind_some]
    have e4 : px_hd (x :: t) = x.1 := rfl
    rw [e4]
    rw [px_lit0, px_E_33 hn0 h hs _ x.2 fu 0 q hl (by omega) (by omega) (by show _ < 1000; omega)]
    have h2 := px_iterL_le (xs := px_lineL n0 lrow) (s := x.1) x.2 q hl
    exact ih f _ (px_suf_tl hs) h2.1 (by omega) (by omega)
theorem px_E_writeLine {n0 : Nat} {lrow : Nat → Int32} (hn0 : n0 ≤ 60) {m : Nat} {sg ct : Nat → Int32} {rs : List px_Rn} (h : px_RH m sg ct rs) {kind : Int32} {r : px_RS} (hr : r.1 ≤ 200) :
    F_Editor_writeLine (nI m) sg ct (nI n0) lrow kind (nI r.1) r.2.1 r.2.2 = (let u := px_lin (px_lineL n0 lrow) rs (0, r)
         some (nI (n0 - u.1), 2, nI u.2.1, u.2.2.1, u.2.2.2)) := by
  have hs : rs <:+ rs := List.suffix_refl _
  have hlen := h.rlen
  have hle := h.le
  have e0 : (0 : Int32) = px_cu m rs := by unfold px_cu; rw [h.rlen]; simp [px_lit0]
  have := px_E_13 hn0 h (kind := 2) (lrow := lrow) rs fu (0, r) hs hr (by show 0 + _ < _; omega) (by show _ < 1000; omega)
  rw [← e0] at this
  exact this
/-- what was read back -/
def px_bkStep (r : px_RS) (q : Int64 × Bool) (i : Nat) : Int64 × Bool :=
  (if r.2.2 i = 0 then q.1 else q.1 * 10 + ((r.2.1 i) - 48).toInt64, q.2 || decide (r.2.1 i = 45 ∨ r.2.1 i = 67 ∨ r.2.1 i = 68))
def px_bk (r : px_RS) : Int64 :=
  let q := (List.range' 0 r.1).foldl (px_bkStep r) (0, false)
  if q.2 = true then -q.1 else q.1
theorem px_R_whole_loop {r : px_RS} (hr : r.1 ≤ 200) : ∀ (k i f : Nat) (a : Int64) (b : Bool), i + k = r.1 → k < f →
    B_Result_wholeNumber_7 (nI r.1) r.2.1 r.2.2 f a (px_bz b) (nI i) = (let q := (List.range' i k).foldl (px_bkStep r) (a, b)
      some (if q.2 = true then -q.1 else q.1)) := by
  intro k
  induction k with
  | zero =>
    intro i f a b hk hf
    obtain ⟨f, rfl⟩ : ∃ g, f = g + 1 := ⟨f - 1, by omega⟩
    unfold B_Result_wholeNumber_7 B_Result_wholeNumber_105
    rw [if_pos (by rw [px_N_le (by omega) (by omega)]; omega)]
    cases b <;> simp [px_bz]
  | succ k ih =>
    intro i f a b hk hf
    obtain ⟨f, rfl⟩ : ∃ g, f = g + 1 := ⟨f - 1, by omega⟩
    unfold B_Result_wholeNumber_7
    have c1 : ¬ nI r.1 ≤ nI i := by rw [px_N_le (by omega) (by omega)]; omega
    have c2 : ¬ (200 : Int32) ≤ nI i := by rw [px_lit200, px_N_le (by omega) (by omega)]; omega
    rw [if_neg c1, if_neg c2, if_neg c2, px_wgd_in (by omega) (by omega), px_wgd_in (by omega) (by omega), px_N_clamp (by omega), List.range'_succ, List.foldl_cons]
    have h68 : ∀ a' : Int64, B_Result_wholeNumber_68 (nI r.1) r.2.1 r.2.2 (B_Result_wholeNumber_7 (nI r.1) r.2.1 r.2.2 f) a' (px_bz b) (nI i) (r.2.1 i) = (let q := (List.range' (i + 1) k).foldl (px_bkStep r) (a', b || decide (r.2.1 i = 45 ∨ r.2.1 i = 67 ∨ r.2.1 i = 68))
      some (if q.2 = true then -q.1 else q.1)) := by
      intro a'
      have i1 := ih (i + 1) f a' true (by omega) (by omega)
      have i0 := ih (i + 1) f a' false (by omega) (by omega)
      have q1 : px_bz true = 1 := rfl
      have q0 : px_bz false = 0 := rfl
      rw [q1] at i1
      rw [q0] at i0
      unfold B_Result_wholeNumber_68
      have e1 : nI i + 1 = nI (i + 1) := by rw [px_lit1, px_N_add]
      rw [e1, i1, i0]
      cases b with
      | true => simp [px_bz]
      | false =>
        by_cases d1 : r.2.1 i = 45 <;> by_cases d2 : r.2.1 i = 67 <;> by_cases d3 : r.2.1 i = 68 <;> simp [d1, d2, d3, px_bz]
    rw [h68, h68]
    unfold px_bkStep
    by_cases c : r.2.2 i = 0
    · rw [if_pos c]; simp [c]
    · rw [if_neg c]; simp [c]
theorem px_R_whole {r : px_RS} (hr : r.1 ≤ 200) : F_Result_wholeNumber (nI r.1) r.2.1 r.2.2 = some (px_bk r) :=
  px_R_whole_loop hr r.1 0 fu 0 false (by omega) (by show _ < 1000; omega)
/-- a power's place is within the picture's digits -/
def px_vP (a b d p : Nat) : Bool := decide (p + 1 ≤ a + d ∧ d ≤ p + b)
def px_lostN (M a b d k : Nat) : Nat := ((List.range k).filter (fun p => !decide (px_dg M p = 0) && !px_vP a b d p)).length
def px_lostA (M a d k : Nat) : Bool := (List.range k).any (fun p => !decide (px_dg M p = 0) && decide (a + d ≤ p))
def px_allZ (M a b d k : Nat) : Bool := (List.range k).all (fun p => decide (px_dg M p = 0) || !px_vP a b d p)
def px_digS (M a b d i : Nat) : Nat := if i + 1 ≤ a + d ∧ i < a + b then px_dg M (a + d - 1 - i) else 0
theorem px_D_fold {M a b d : Nat} (hab : a + b ≤ 18) {c0 : Nat → Int32} (hc : ∀ j, j < 18 → c0 j = 0) : ∀ k : Nat,
    let r := (List.range k).foldl (px_dStep M a b d) (0, false, true, c0)
    r.1 = px_lostN M a b d k ∧ r.2.1 = px_lostA M a d k ∧ r.2.2.1 = px_allZ M a b d k ∧ ∀ i, i < 18 → r.2.2.2 i = nI (if i + 1 ≤ a + d ∧ i < a + b ∧ a + d - 1 - i < k then px_dg M (a + d - 1 - i) else 0) := by
  intro k
  induction k with
  | zero =>
    refine ⟨rfl, rfl, rfl, ?_⟩
    intro i hi
    rw [if_neg (by omega)]
    exact hc i hi
  | succ k ih =>
    obtain ⟨h1, h2, h3, h4⟩ := ih
    simp only [List.range_succ, List.foldl_append, List.foldl_cons, List.foldl_nil, px_lostN, px_lostA, px_allZ, List.filter_append, List.length_append, List.any_append, List.all_append]
    rw [px_lostN] at h1
    rw [px_lostA] at h2
    rw [px_allZ] at h3
    rw [← h1, ← h2, ← h3]
    generalize (List.range k).foldl (px_dStep M a b d) (0, false, true, c0) = r at *
    unfold px_dStep
    by_cases z : px_dg M k = 0
    · rw [if_pos z]
      refine ⟨by simp [z], by simp [z], by simp [z], ?_⟩
      intro i hi
      rw [h4 i hi]
      congr 1
      by_cases q : a + d - 1 - i = k
      · rw [if_neg (by omega)]
        split
        · rw [q, z]
        · rfl
      · by_cases w : i + 1 ≤ a + d ∧ i < a + b ∧ a + d - 1 - i < k
        · rw [if_pos w, if_pos (by omega)]
        · rw [if_neg w, if_neg (by omega)]
    · rw [if_neg z]
      by_cases v : k + 1 ≤ a + d ∧ d ≤ k + b
      · rw [if_pos v]
        have v' : px_vP a b d k = true := by simp [px_vP, v]
        have nle : ¬ a + d ≤ k := by omega
        refine ⟨by simp [z, v'], by simp [z, nle], by simp [z, v'], ?_⟩
        intro i hi
        simp only [upd]
        by_cases q : i = a + d - 1 - k
        · rw [if_pos q, if_pos (by omega)]
          congr 2; omega
        · rw [if_neg q, h4 i hi]
          congr 1
          by_cases w : i + 1 ≤ a + d ∧ i < a + b ∧ a + d - 1 - i < k
          · rw [if_pos w, if_pos (by omega)]
          · rw [if_neg w, if_neg (by omega)]
      · rw [if_neg v]
        have v' : px_vP a b d k = false := by simp [px_vP]; omega
        refine ⟨by simp [z, v'], by simp [z], by simp [z, v'], ?_⟩
        intro i hi
        rw [h4 i hi]
        congr 1
        by_cases w : i + 1 ≤ a + d ∧ i < a + b ∧ a + d - 1 - i < k
        · rw [if_pos w, if_pos (by omega)]
        · rw [if_neg w, if_neg (by omega)]
theorem px_dg_big {M p : Nat} (hM : M < 10 ^ 19) (hp : 19 ≤ p) : px_dg M p = 0 := by
  unfold px_dg
  have : (10 : Nat) ^ 19 ≤ 10 ^ p := Nat.pow_le_pow_right (by decide) hp
  rw [Nat.div_eq_of_lt (by omega)]
theorem px_D_brought {v : Int64} {a b d : Nat} (px_hd : d ≤ 18) (hab : a + b ≤ 18) {x y z w : Int32} {came : Nat → Int32} : ∃ c : Nat → Int32, px_digA c = (fun i => nI (px_digS v.toInt.natAbs a b d i)) ∧
    F_Digits_bring x y z w came v (nI d) (nI a) (nI b) = some (nI (px_lostN v.toInt.natAbs a b d 19), px_bz (px_lostA v.toInt.natAbs a d 19), px_bz (px_allZ v.toInt.natAbs a b d 19), px_bz (decide (v.toInt < 0) && !px_allZ v.toInt.natAbs a b d 19), c) := by
  obtain ⟨c0, h0, h1⟩ := px_D_bring (v := v) px_hd hab (x := x) (y := y) (z := z) (w := w) (came := came)
  have hM : v.toInt.natAbs < 10 ^ 19 := by
    have := Int64.le_toInt v
    have := Int64.toInt_lt v
    omega
  have hf := px_D_fold (M := v.toInt.natAbs) (d := d) hab h0 19
  rw [List.range_eq_range'] at hf
  obtain ⟨f1, f2, f3, f4⟩ := hf
  simp only at h1
  generalize (List.range' 0 19).foldl (px_dStep v.toInt.natAbs a b d) (0, false, true, c0) = r at *
  refine ⟨r.2.2.2, ?_, by rw [h1, f1, f2, f3]⟩
  · funext i
    unfold px_digA px_digS
    by_cases hi : i < 18
    · rw [if_pos hi, f4 i hi]
      congr 1
      by_cases w : i + 1 ≤ a + d ∧ i < a + b
      · rw [if_pos w]
        by_cases w2 : a + d - 1 - i < 19
        · rw [if_pos ⟨w.1, w.2, w2⟩]
        · rw [if_neg (fun q => w2 q.2.2), px_dg_big hM (by omega)]
      · rw [if_neg w, if_neg (fun q => w ⟨q.1, q.2.1⟩)]
    · rw [if_neg hi, if_neg (by omega)]
      rfl
abbrev px_Out := Int32 × Nat × Int32 × Nat × px_RS
/-- editing: what it answers and leaves -/
def px_editS (cur : Int32) (v : Int64) (d : Nat) (bw sz : Bool) (pic txt : List Int32) (r0 : px_RS) : px_Out :=
  match px_kindOf cur pic with
  | none => ⟨-2, 0, 0, 0, r0⟩
  | some (rs, none) => if px_plc rs ≤ 200 then ⟨nI (px_lin txt rs (0, r0)).2.1, txt.length - (px_lin txt rs (0, r0)).1, 2, 0, (px_lin txt rs (0, r0)).2⟩ else ⟨-2, 0, 0, 0, r0⟩
  | some (rs, some q) =>
    if px_plc rs ≤ 200 then
      let M := v.toInt.natAbs
      let az := px_allZ M q.1 q.2.1 d 19
      if sz = true ∧ px_lostA M q.1 d 19 = true then ⟨-1, px_lostN M q.1 q.2.1 d 19, 0, 0, r0⟩
      else
        let u := px_amt (px_hidden az q.2.2.1 bw q.2.2.2.1) (decide (v.toInt < 0) && !az) (fun i => nI (px_digS M q.1 q.2.1 d i)) (px_fillOf q.2.2.2.1) q.2.2.2.1 q.2.2.2.2 rs (px_es0 r0 0)
        ⟨nI u.2.2.2.2.1, px_lostN M q.1 q.2.1 d 19, 1, u.2.2.2.1, u.2.2.2.2⟩
    else ⟨-2, 0, 0, 0, r0⟩
theorem px_plc_le {rs : List px_Rn} (h : ∀ x ∈ rs, x.2 ≤ 99) : px_plc rs ≤ 198 * rs.length := by
  induction rs with
  | nil => simp [px_plc]
  | cons x t ih =>
    have h1 := h x (by simp)
    have h2 := ih (fun y hy => h y (by simp [hy]))
    have hw : px_wid x.1 ≤ 2 := by unfold px_wid; split; simp; split <;> simp
    have : x.2 * px_wid x.1 ≤ 99 * 2 := Nat.mul_le_mul h1 hw
    unfold px_plc
    simp; omega
theorem px_numOf_dig {cur : Int32} {rs : List px_Rn} {q : px_Shp} (h : px_numOf cur rs = some q) : 1 ≤ q.1 + q.2.1 ∧ q.1 + q.2.1 ≤ 18 := by
  have hE : ∀ {fixed : Int32} {g a sb nb : Nat} {ss : Int32} {fl : Bool} {t : List px_Rn}, px_numEnd rs fixed g a sb nb ss fl t = some q → 1 ≤ q.1 + q.2.1 ∧ q.1 + q.2.1 ≤ 18 := by
    intro fixed g a sb nb ss fl t h
    unfold px_numEnd at h
    simp only at h
    rw [Option.ite_none_right_eq_some] at h
    obtain ⟨c, h⟩ := h
    cases h
    exact ⟨c.2.2.1, c.2.2.2⟩
  unfold px_numOf at h
  simp only at h
  split at h
  · exact hE h
  · split at h
    · exact hE h
    · exact hE h
theorem px_kindOf_num {cur : Int32} {xs : List Int32} {rs : List px_Rn} {q : px_Shp} (h : px_kindOf cur xs = some (rs, some q)) : px_runsOf cur xs = some rs ∧ rs ≠ [] ∧ px_isTx false rs = false ∧ px_numOf cur rs = some q := by
  unfold px_kindOf at h
  split at h
  · cases h
  · rename_i rs' e
    split at h
    · cases h
    · split at h
      · cases h
      · split at h
        · cases h
        · rename_i e0 e1 _ _ e2
          cases h
          exact ⟨e, e0, by simpa using e1, e2⟩
section Top
theorem px_X_edit {n0 n1 : Nat} {prow trow : Nat → Int32} (hn0 : n0 ≤ 60) (hn1 : n1 ≤ 60) {v : Int64} {d : Nat} (px_hd : d ≤ 18) {cur : Int32} {bw sz : Bool} {r0 : px_RS} {k0 h0 l0 : Int32} {len0 : Int32} {c1 c2 c3 c4 c5 c6 c7 c8 c9 : Int32} {c10 c11 : Nat → Int32} {e1 e2 e3 e4 e5 e6 e7 e8 : Int32} {e9 : Nat → Int32} (hr0 : r0.1 = 0) :
    ∃ (b1 b2 b3 b4 b5 b6 b7 b8 b9 : Int32) (b10 b11 : Nat → Int32) (g1 g2 g3 g4 g5 g6 g7 g8 : Int32) (g9 : Nat → Int32),
    F_EditMoves_edit v (nI d) cur (px_bz bw) (px_bz sz) (nI n0) prow (nI n1) trow l0 c1 c2 c3 c4 c5 c6 c7 c8 c9 c10 c11 e1 e2 e3 e4 e5 e6 e7 e8 e9 k0 len0 h0 r0.2.1 r0.2.2
      = (let o := px_editS cur v d bw sz (px_lineL n0 prow) (px_lineL n1 trow) r0
         some (o.1, nI o.2.1, b1, b2, b3, b4, b5, b6, b7, b8, b9, b10, b11, g1, g2, g3, g4, g5, g6, g7, g8, g9, o.2.2.1, nI o.2.2.2.2.1, nI o.2.2.2.1, o.2.2.2.2.2.1, o.2.2.2.2.2.2)) := by
  unfold F_EditMoves_edit px_editS
  simp only [F_Result_drop, Option.bind_some]
  have hR := px_Pn_read (row := prow) hn0 (a1 := c1) (a2 := c2) (a3 := c3) (a4 := c4) (a5 := c5) (a6 := c6) (a7 := c7) (a8 := c8) (a9 := c9) (sg := c10) (ct := c11) (cur := cur)
  have hz : (0 : Int32) = nI r0.1 := by rw [hr0]; rfl
  rcases hk : px_kindOf cur (px_lineL n0 prow) with _ | ⟨rs, _ | q⟩
  · skip
    rw [hk] at hR
    obtain ⟨sg, ct, hR⟩ := hR
    rw [hR]
    simp only [Option.bind_some, if_true, hr0]
    exact ⟨_, _, _, _, _, _, _, _, _, _, _, _, _, _, _, _, _, _, _, _, rfl⟩
  · skip
    rw [hk] at hR
    obtain ⟨c, sg, ct, hR, hRH⟩ := hR
    rw [hR]
    simp only [Option.bind_some]
    have hle := hRH.le
    have hpl := px_plc_le (fun x hx => (hRH.ok x hx).2.2)
    have t2 : ¬ (2 : Int32) = 0 := by decide
    rw [if_neg t2]
    by_cases c4 : px_plc rs ≤ 200
    · have c4' : nI (px_plc rs) ≤ 200 := by rw [px_lit200, px_N_le (by omega) (by omega)]; exact c4
      rw [if_pos c4']
      simp only [if_pos c4, if_true]
      unfold F_EditMoves_editLine
      have hw := px_E_writeLine (lrow := trow) hn1 hRH (kind := 0) (r := r0) (by omega)
      rw [← hz] at hw
      rw [hw]
      simp only [Option.bind_some]
      rw [px_lineL_len]
      exact ⟨_, _, _, _, _, _, _, _, _, _, _, _, _, _, _, _, _, _, _, _, rfl⟩
    · have c4' : ¬ nI (px_plc rs) ≤ 200 := by rw [px_lit200, px_N_le (by omega) (by omega)]; exact c4
      rw [if_neg c4']
      simp only [if_neg c4, hr0]
      exact ⟨_, _, _, _, _, _, _, _, _, _, _, _, _, _, _, _, _, _, _, _, rfl⟩
  · skip
    rw [hk] at hR
    obtain ⟨c, sg, ct, hR, hRH⟩ := hR
    rw [hR]
    simp only [Option.bind_some]
    have hq := px_numOf_dig (px_kindOf_num hk).2.2.2
    have hle := hRH.le
    have hpl := px_plc_le (fun x hx => (hRH.ok x hx).2.2)
    have t2 : ¬ (1 : Int32) = 0 := by decide
    have t3 : ¬ (1 : Int32) = 2 := by decide
    rw [if_neg t2]
    by_cases c4 : px_plc rs ≤ 200
    · have c4' : nI (px_plc rs) ≤ 200 := by rw [px_lit200, px_N_le (by omega) (by omega)]; exact c4
      rw [if_pos c4', if_neg t3]
      simp only [if_pos c4]
      unfold F_EditMoves_editAmount
      obtain ⟨cm, hcm, hb⟩ := px_D_brought (v := v) px_hd hq.2 (x := e5) (y := e6) (z := e7) (w := e8) (came := e9)
      rw [hb]
      simp only [Option.bind_some]
      have h58 : B_EditMoves_editAmount_58 v (nI d) (px_bz bw) (px_bz sz) (nI rs.length) (nI q.1) (nI q.2.1) (px_bz q.2.2.1) q.2.2.2.1 (px_bz q.2.2.2.2) sg ct (nI (px_lostN v.toInt.natAbs q.1 q.2.1 d 19)) e1 e2 e3 e4 (nI (px_lostN v.toInt.natAbs q.1 q.2.1 d 19)) (px_bz (px_lostA v.toInt.natAbs q.1 d 19)) (px_bz (px_allZ v.toInt.natAbs q.1 q.2.1 d 19)) (px_bz (decide (v.toInt < 0) && !px_allZ v.toInt.natAbs q.1 q.2.1 d 19)) cm 0 0 0 r0.2.1 r0.2.2
          = (let u := px_amt (px_hidden (px_allZ v.toInt.natAbs q.1 q.2.1 d 19) q.2.2.1 bw q.2.2.2.1) (decide (v.toInt < 0) && !px_allZ v.toInt.natAbs q.1 q.2.1 d 19) (fun i => nI (px_digS v.toInt.natAbs q.1 q.2.1 d i)) (px_fillOf q.2.2.2.1) q.2.2.2.1 q.2.2.2.2 rs (px_es0 r0 0)
             some (nI u.2.2.2.2.1, nI (px_lostN v.toInt.natAbs q.1 q.2.1 d 19), px_fillOf q.2.2.2.1, nI u.1, px_bz u.2.1, px_bz u.2.2.1, nI (px_lostN v.toInt.natAbs q.1 q.2.1 d 19), px_bz (px_lostA v.toInt.natAbs q.1 d 19), px_bz (px_allZ v.toInt.natAbs q.1 q.2.1 d 19), px_bz (decide (v.toInt < 0) && !px_allZ v.toInt.natAbs q.1 q.2.1 d 19), cm, 1, nI u.2.2.2.2.1, nI u.2.2.2.1, u.2.2.2.2.2.1, u.2.2.2.2.2.2)) := by
        unfold B_EditMoves_editAmount_58
        have hw := px_E_writeAmount (neg := decide (v.toInt < 0) && !px_allZ v.toInt.natAbs q.1 q.2.1 d 19) (az := px_allZ v.toInt.natAbs q.1 q.2.1 d 19) (al := q.2.2.1) (bw := bw) (fl := q.2.2.2.2) (came := cm) (ss := q.2.2.2.1) hRH (r := r0) (by omega) (hid := 0) (a := e1) (b := e2) (c := e3) (d := e4) (e := 0)
        rw [← hz, ← px_lit0] at hw
        rw [hw, hcm]
        rfl
      rw [h58]
      by_cases c5 : sz = true ∧ px_lostA v.toInt.natAbs q.1 d 19 = true
      · have s1 : ¬ px_bz sz = 0 := by rw [c5.1]; decide
        have s2 : ¬ px_bz (px_lostA v.toInt.natAbs q.1 d 19) = 0 := by rw [c5.2]; decide
        rw [if_neg s1, if_neg s2]
        simp only [if_pos c5, Option.bind_some, hr0]
        exact ⟨_, _, _, _, _, _, _, _, _, _, _, _, _, _, _, _, _, _, _, _, rfl⟩
      · simp only [if_neg c5]
        by_cases s1 : px_bz sz = 0
        · rw [if_pos s1]
          simp only [Option.bind_some]
          exact ⟨_, _, _, _, _, _, _, _, _, _, _, _, _, _, _, _, _, _, _, _, rfl⟩
        · have s2 : px_bz (px_lostA v.toInt.natAbs q.1 d 19) = 0 := by
            rw [px_bz_ne] at s1 ⊢
            cases hh : px_lostA v.toInt.natAbs q.1 d 19 with
            | false => rfl
            | true => exact absurd ⟨by simpa using s1, hh⟩ c5
          rw [if_neg s1, if_pos s2]
          simp only [Option.bind_some]
          exact ⟨_, _, _, _, _, _, _, _, _, _, _, _, _, _, _, _, _, _, _, _, rfl⟩
    · have c4' : ¬ nI (px_plc rs) ≤ 200 := by rw [px_lit200, px_N_le (by omega) (by omega)]; exact c4
      rw [if_neg c4']
      simp only [if_neg c4, hr0]
      exact ⟨_, _, _, _, _, _, _, _, _, _, _, _, _, _, _, _, _, _, _, _, rfl⟩
end Top
theorem px_lineL_clear {row : Nat → Int32} : px_lineL 0 row = [] := rfl
theorem px_L_add {n : Nat} {row : Nat → Int32} {c : Int32} (hn : n ≤ 60) : ∃ row', F_Line_add (nI n) row c = some (nI (if n < 60 then n + 1 else n), row') ∧ px_lineL (if n < 60 then n + 1 else n) row' = if n < 60 then px_lineL n row ++ [c] else px_lineL n row := by
  unfold F_Line_add
  rw [if_neg (by rw [px_lit0, px_N_lt (by omega) (by omega)]; omega)]
  by_cases h : n < 60
  · refine ⟨upd row n c, ?_, ?_⟩
    · rw [if_neg (by rw [px_lit60, px_N_le (by omega) (by omega)]; omega), px_wgd_in (by omega) (by omega), px_N_clamp (by omega), px_lit1, px_N_add, if_pos h]
    · rw [if_pos h, if_pos h]
      unfold px_lineL
      rw [List.range_succ, List.map_append]
      congr 1
      · apply List.map_congr_left
        intro j hj
        rw [List.mem_range] at hj
        unfold upd
        rw [if_neg (by omega)]
      · simp [upd]
  · refine ⟨row, ?_, ?_⟩
    · rw [if_pos (by rw [px_lit60, px_N_le (by omega) (by omega)]; omega), if_neg h]
    · rw [if_neg h, if_neg h]
/-- a line behind which c comes -/
def px_lnAdd (xs : List Int32) (c : Int32) : List Int32 := if xs.length < 60 then xs ++ [c] else xs
def px_picS (xs : List Int32) (c : Int32) : List Int32 := if c = 0 then [] else px_lnAdd xs (if c ≤ 0 ∨ 126 < c then 127 else c)
def px_txtS (xs : List Int32) (c : Int32) : List Int32 := if c < 32 ∨ 126 < c then [] else px_lnAdd xs c
theorem px_L_add' {n : Nat} {row : Nat → Int32} {c : Int32} (hn : n ≤ 60) : ∃ n' row', F_Line_add (nI n) row c = some (nI n', row') ∧ px_lineL n' row' = px_lnAdd (px_lineL n row) c ∧ n' ≤ 60 := by
  obtain ⟨row', h1, h2⟩ := px_L_add (row := row) (c := c) hn
  refine ⟨_, row', h1, ?_, by split <;> omega⟩
  rw [h2]
  unfold px_lnAdd
  rw [px_lineL_len]
theorem px_X_picture {n : Nat} {row : Nat → Int32} {c : Int32} (hn : n ≤ 60) : ∃ n' row', F_EditMoves_picture (nI n) row c = some (nI n', row') ∧ px_lineL n' row' = px_picS (px_lineL n row) c ∧ n' ≤ 60 := by
  unfold F_EditMoves_picture px_picS
  obtain ⟨n1, r1, h1, h2, h3⟩ := px_L_add' (row := row) (c := c) hn
  obtain ⟨n2, r2, g1, g2, g3⟩ := px_L_add' (row := row) (c := 127) hn
  rw [h1, g1]
  simp only [Option.bind_some, F_Line_clear]
  by_cases c0 : c = 0
  · rw [if_pos c0, if_pos c0]
    exact ⟨0, row, rfl, rfl, by omega⟩
  · rw [if_neg c0, if_neg c0]
    by_cases c1 : c ≤ 0
    · rw [if_pos c1, if_pos (Or.inl c1)]
      exact ⟨n2, r2, rfl, g2, g3⟩
    · rw [if_neg c1]
      by_cases c2 : (126 : Int32) < c
      · rw [if_pos c2, if_pos (Or.inr c2)]
        exact ⟨n2, r2, rfl, g2, g3⟩
      · rw [if_neg c2, if_neg (by simp [c1, c2])]
        exact ⟨n1, r1, rfl, h2, h3⟩
theorem px_X_text {n : Nat} {row : Nat → Int32} {c : Int32} (hn : n ≤ 60) : ∃ n' row', F_EditMoves_text (nI n) row c = some (nI n', row') ∧ px_lineL n' row' = px_txtS (px_lineL n row) c ∧ n' ≤ 60 := by
  unfold F_EditMoves_text px_txtS
  obtain ⟨n1, r1, h1, h2, h3⟩ := px_L_add' (row := row) (c := c) hn
  rw [h1]
  simp only [Option.bind_some, F_Line_clear]
  by_cases c1 : c < 32
  · rw [if_pos c1, if_pos (Or.inl c1)]
    exact ⟨0, row, rfl, rfl, by omega⟩
  · rw [if_neg c1]
    by_cases c2 : (126 : Int32) < c
    · rw [if_pos c2, if_pos (Or.inr c2)]
      exact ⟨0, row, rfl, rfl, by omega⟩
    · rw [if_neg c2, if_neg (by simp [c1, c2])]
      exact ⟨n1, r1, rfl, h2, h3⟩
theorem px_X_value {a v : Int64} {d : Nat} {sc : Int32} (px_hd : d ≤ 18) : ∃ d', F_EditMoves_value a (nI d) v sc = some (if sc < 0 ∨ 18 < sc then (0, a, nI d) else (1, v, nI d')) ∧ (¬ (sc < 0 ∨ 18 < sc) → d' ≤ 18 ∧ sc = nI d') := by
  unfold F_EditMoves_value
  by_cases c1 : sc < 0
  · exact ⟨0, by rw [if_pos c1, if_pos (Or.inl c1)], fun q => absurd (Or.inl c1) q⟩
  · rw [if_neg c1]
    by_cases c2 : sc ≤ 18
    · have c3 : ¬ (18 : Int32) < sc := by rw [px_notlt_le]; exact c2
      have c1' := c1
      rw [px_notlt_le, Int32.le_iff_toInt_le] at c1'
      have z : (0 : Int32).toInt = 0 := by decide
      have e := px_N_of (by omega : 0 ≤ sc.toInt)
      have c2' := c2
      rw [Int32.le_iff_toInt_le] at c2'
      have z18 : (18 : Int32).toInt = 18 := by decide
      refine ⟨sc.toInt.toNat, ?_, fun _ => ⟨by omega, e⟩⟩
      rw [if_pos c2, if_neg (by simp [c1, c3]), ← e]
    · have c3 : (18 : Int32) < sc := by
        rw [Int32.le_iff_toInt_le] at c2
        rw [Int32.lt_iff_toInt_lt]; omega
      exact ⟨0, by rw [if_neg c2, if_pos (Or.inr c3)], fun q => absurd (Or.inr c3) q⟩
def px_xget (r : px_RS) (i : Int32) : Int32 := if i < 0 ∨ nI r.1 ≤ i then -1 else r.2.1 i.toNatClampNeg
theorem px_X_at {r : px_RS} {i : Int32} (hr : r.1 ≤ 200) : F_EditMoves_at (nI r.1) r.2.1 i = some (px_xget r i) := by
  unfold F_EditMoves_at F_Result_character px_xget
  by_cases c1 : i < 0
  · simp [c1]
  · rw [if_neg c1]
    by_cases c2 : nI r.1 ≤ i
    · simp [c1, c2]
    · have hi2 : ¬ (200 : Int32) ≤ i := by
        rw [Int32.le_iff_toInt_le] at c2 ⊢
        rw [px_N_toInt (by omega)] at c2
        have z2 : (200 : Int32).toInt = 200 := by decide
        omega
      have c3 : ¬ (i < 0 ∨ nI r.1 ≤ i) := by
        intro q; rcases q with q | q
        · exact c1 q
        · exact c2 q
      rw [if_neg c2, if_neg hi2, if_neg c3]
      unfold wgd
      rw [if_neg]
      · rfl
      · intro q
        rcases q with q | q
        · exact c1 q
        · rw [Int32.le_iff_toInt_le] at hi2
          have z2 : (200 : Int32).toInt = 200 := by decide
          unfold Int32.toNatClampNeg at q
          omega
theorem px_X_back {r : px_RS} {kind : Int32} {b : Int64} (hr : r.1 ≤ 200) : F_EditMoves_back kind (nI r.1) r.2.1 r.2.2 b = some (if kind = 1 then (1, px_bk r) else (0, b)) := by
  unfold F_EditMoves_back
  rw [px_R_whole hr]
  split <;> rfl
def px_curOk (c : Int32) : Bool := !(decide (c ≤ 32) || decide (126 < c)) && !px_isD c && !(!decide (px_great c < 65) && decide (px_great c ≤ 90)) && !decide (0 ≤ px_ix1 ((c.toUInt32 % 65536).toInt32))
theorem px_X_currency {cur c p : Int32} : F_EditMoves_currency cur c p = some (if px_curOk c = true then (cur, c) else (-1, cur)) := by
  unfold F_EditMoves_currency F_EditMoves_mayBeCurrency B_EditMoves_mayBeCurrency_38 px_curOk
  rw [px_E_isDigit, px_E_toGreat]
  simp only [Option.bind_some, px_S_ix1]
  by_cases c1 : c ≤ 32
  · simp [c1]
  · rw [if_neg c1]
    by_cases c2 : (126 : Int32) < c
    · simp [c2]
    · rw [if_neg c2]
      cases c3 : px_isD c with
      | true => simp
      | false =>
        simp only [Bool.false_eq_true, if_false, if_true]
        by_cases c4 : px_great c < 65
        · by_cases c5 : 0 ≤ px_ix1 ((c.toUInt32 % 65536).toInt32) <;> simp [c1, c2, c4, c5]
        · by_cases c6 : px_great c ≤ 90
          · simp [c1, c2, c4, c6]
          · by_cases c5 : 0 ≤ px_ix1 ((c.toUInt32 % 65536).toInt32) <;> simp [c1, c2, c4, c5, c6]
theorem px_X_zero {a b : Bool} : F_EditMoves_zero (px_bz a) (px_bz b) = some (px_bz a, px_bz b) := by cases a <;> cases b <;> rfl
theorem px_X_size {a b : Bool} : F_EditMoves_size (px_bz a) (px_bz b) = some (px_bz a, px_bz b) := by cases a <;> cases b <;> rfl
/-- what is told of the picture -/
def px_toldS (cur : Int32) (pic : List Int32) (w : Int32) : Int32 :=
  if w = 0 then (match px_kindOf cur pic with | none => 0 | some (_, none) => 2 | some (_, some _) => 1)
  else if w = 1 then (match px_kindOf cur pic with | none => 0 | some (_, none) => 0 | some (_, some q) => nI q.1)
  else if w = 2 then (match px_kindOf cur pic with | none => 0 | some (_, none) => 0 | some (_, some q) => nI q.2.1)
  else if w = 3 then (match px_kindOf cur pic with | none => 0 | some (rs, none) => nI (px_plc rs) | some (rs, some _) => nI (px_plc rs))
  else if w = 4 then (match px_kindOf cur pic with | none => 0 | some (_, none) => 0 | some (_, some q) => px_bz q.2.2.1)
  else -1
theorem px_X_told {n0 : Nat} {prow : Nat → Int32} (hn0 : n0 ≤ 60) {cur w : Int32} {c1 c2 c3 c4 c5 c6 c7 c8 c9 : Int32} {c10 c11 : Nat → Int32} :
    ∃ (b1 b2 b3 b4 b5 b6 b7 b8 b9 : Int32) (b10 b11 : Nat → Int32), F_EditMoves_told cur (nI n0) prow c1 c2 c3 c4 c5 c6 c7 c8 c9 c10 c11 w = some (px_toldS cur (px_lineL n0 prow) w, b1, b2, b3, b4, b5, b6, b7, b8, b9, b10, b11) := by
  have hR := px_Pn_read (row := prow) hn0 (a1 := c1) (a2 := c2) (a3 := c3) (a4 := c4) (a5 := c5) (a6 := c6) (a7 := c7) (a8 := c8) (a9 := c9) (sg := c10) (ct := c11) (cur := cur)
  unfold F_EditMoves_told px_toldS
  rcases hk : px_kindOf cur (px_lineL n0 prow) with _ | ⟨rs, _ | q⟩
  · skip
    rw [hk] at hR
    obtain ⟨sg, ct, hR⟩ := hR
    rw [hR]
    refine ⟨0, 0, 0, 0, 0, 0, 0, 0, 0, sg, ct, ?_⟩
    by_cases d0 : w = 0
    · simp [d0]
    by_cases d1 : w = 1
    · simp [d0, d1]
    by_cases d2 : w = 2
    · simp [d0, d1, d2]
    by_cases d3 : w = 3
    · simp [d0, d1, d2, d3]
    by_cases d4 : w = 4
    · simp [d0, d1, d2, d3, d4]
    simp [d0, d1, d2, d3, d4]
  · skip
    rw [hk] at hR
    obtain ⟨c, sg, ct, hR, hRH⟩ := hR
    rw [hR]
    refine ⟨c, nI rs.length, 2, nI (px_plc rs), 0, 0, 0, 0, 0, sg, ct, ?_⟩
    by_cases d0 : w = 0
    · simp [d0]
    by_cases d1 : w = 1
    · simp [d0, d1]
    by_cases d2 : w = 2
    · simp [d0, d1, d2]
    by_cases d3 : w = 3
    · simp [d0, d1, d2, d3]
    by_cases d4 : w = 4
    · simp [d0, d1, d2, d3, d4]
    simp [d0, d1, d2, d3, d4]
  · skip
    rw [hk] at hR
    obtain ⟨c, sg, ct, hR, hRH⟩ := hR
    rw [hR]
    refine ⟨c, nI rs.length, 1, nI (px_plc rs), nI q.1, nI q.2.1, px_bz q.2.2.1, q.2.2.2.1, px_bz q.2.2.2.2, sg, ct, ?_⟩
    by_cases d0 : w = 0
    · simp [d0]
    by_cases d1 : w = 1
    · simp [d0, d1]
    by_cases d2 : w = 2
    · simp [d0, d1, d2]
    by_cases d3 : w = 3
    · simp [d0, d1, d2, d3]
    by_cases d4 : w = 4
    · cases hh : q.2.2.1 <;> simp [d0, d1, d2, d3, d4, px_bz, hh]
    simp [d0, d1, d2, d3, d4]
