theorem px_tdiv10 (x : Int) : (x.tdiv 10).natAbs = x.natAbs / 10 := by rw [Int.natAbs_tdiv]; rfl
theorem px_tmod10 (x : Int) : (x.tmod 10).natAbs = x.natAbs % 10 := by rw [Int.natAbs_tmod]; rfl
theorem px_i64_div10 (x : Int64) : (x / 10).toInt = x.toInt.tdiv 10 := by
  rw [Int64.toInt_div]
  have h1 := Int64.le_toInt x
  have h2 := Int64.toInt_lt x
  have e : (10 : Int64).toInt = 10 := by decide
  rw [e]
  apply Int.bmod_eq_of_le
  · have : -(2 ^ 63 : Int) ≤ x.toInt.tdiv 10 := by
      have := px_tdiv10 x.toInt
      omega
    omega
  · have := px_tdiv10 x.toInt
    omega
theorem px_i64_dig (x : Int64) : ((x - x / 10 * 10).toInt32).toInt = x.toInt.tmod 10 := by
  have h3 : (x - x / 10 * 10).toInt = x.toInt.tmod 10 := by
    rw [Int64.toInt_sub, Int64.toInt_mul, px_i64_div10]
    have e : (10 : Int64).toInt = 10 := by decide
    rw [e]
    have h1 := Int64.le_toInt x
    have h2 := Int64.toInt_lt x
    have h4 := px_tdiv10 x.toInt
    have h5 := Int.mul_tdiv_add_tmod x.toInt 10
    have h6 := px_tmod10 x.toInt
    rw [Int.bmod_eq_of_le (n := x.toInt.tdiv 10 * 10) (by omega) (by omega), Int.bmod_eq_of_le (by omega) (by omega)]
    omega
  have h6 := px_tmod10 x.toInt
  rw [Int64.toInt_toInt32, h3, Int.bmod_eq_of_le (by omega) (by omega)]
theorem px_i32_neg {x : Int32} (h : -1000 ≤ x.toInt) (h2 : x.toInt ≤ 1000) : (-x).toInt = -x.toInt := by
  rw [Int32.toInt_neg, Int.bmod_eq_of_le (by omega) (by omega)]
theorem px_i32_add {x y : Int32} (h : -1000000 ≤ x.toInt) (h2 : x.toInt ≤ 1000000) (h3 : -1000000 ≤ y.toInt) (h4 : y.toInt ≤ 1000000) : (x + y).toInt = x.toInt + y.toInt := by
  rw [Int32.toInt_add, Int.bmod_eq_of_le (by omega) (by omega)]
theorem px_i32_sub {x y : Int32} (h : -1000000 ≤ x.toInt) (h2 : x.toInt ≤ 1000000) (h3 : -1000000 ≤ y.toInt) (h4 : y.toInt ≤ 1000000) : (x - y).toInt = x.toInt - y.toInt := by
  rw [Int32.toInt_sub, Int.bmod_eq_of_le (by omega) (by omega)]
/-- the p-th digit -/
def px_dg (M p : Nat) : Nat := M / 10 ^ p % 10
abbrev px_DS := Nat × Bool × Bool × (Nat → Int32)
def px_dStep (M a b d : Nat) (s : px_DS) (p : Nat) : px_DS :=
  if px_dg M p = 0 then s
  else if p + 1 ≤ a + d ∧ d ≤ p + b then (s.1, s.2.1, false, upd s.2.2.2 (a + d - 1 - p) (nI (px_dg M p)))
  else (s.1 + 1, s.2.1 || decide (a + d ≤ p), s.2.2.1, s.2.2.2)
theorem px_D_bringOne {a b d p : Nat} (px_hd : d ≤ 18) (hab : a + b ≤ 18) (hp : p ≤ 18) {lost : Nat} {la az : Bool} {came : Nat → Int32} {x : Int32} :
    F_Digits_bringOne (nI lost) (px_bz la) (px_bz az) came x ((nI a - 1) - (nI p - nI d)) (nI a + nI b) = some (if p + 1 ≤ a + d ∧ d ≤ p + b then (nI lost, px_bz la, 0, upd came (a + d - 1 - p) x) else (nI (lost + 1), px_bz (la || decide (a + d ≤ p)), px_bz az, came)) := by
  have na := px_N_toInt (a := a) (by omega)
  have nb := px_N_toInt (a := b) (by omega)
  have nd := px_N_toInt (a := d) (by omega)
  have np := px_N_toInt (a := p) (by omega)
  have n1 : (1 : Int32).toInt = 1 := by decide
  have n18 : (18 : Int32).toInt = 18 := by decide
  have e1 : (nI a - 1).toInt = (a : Int) - 1 := by rw [px_i32_sub (by omega) (by omega) (by omega) (by omega), na, n1]
  have e2 : (nI p - nI d).toInt = (p : Int) - d := by rw [px_i32_sub (by omega) (by omega) (by omega) (by omega), np, nd]
  have e3 : ((nI a - 1) - (nI p - nI d)).toInt = (a : Int) - 1 - (p - d) := by rw [px_i32_sub (by omega) (by omega) (by omega) (by omega), e1, e2]
  unfold F_Digits_bringOne B_Digits_bringOne_31
  generalize (nI a - 1) - (nI p - nI d) = ix at *
  have z0 : (0 : Int32).toInt = 0 := by decide
  have nab := px_N_toInt (a := a + b) (by omega)
  rw [px_N_add]
  by_cases c1 : ix < 0
  · have c1' := c1
    rw [Int32.lt_iff_toInt_lt, e3, z0] at c1'
    have c2 : ¬ (p + 1 ≤ a + d ∧ d ≤ p + b) := by omega
    have c3 : ¬ (0 : Int32) ≤ ix := by rw [Int32.le_iff_toInt_le, z0, e3]; omega
    have c4 : a + d ≤ p := by omega
    rw [if_pos c1, if_neg c3, if_neg c2, px_lit1, px_N_add]
    simp [c4, px_bz, px_lit1]
  · have c1' := c1
    rw [Int32.lt_iff_toInt_lt, e3, z0] at c1'
    have c3 : (0 : Int32) ≤ ix := by rw [Int32.le_iff_toInt_le, z0, e3]; omega
    have c4 : ¬ a + d ≤ p := by omega
    rw [if_neg c1, if_pos c3]
    by_cases c5 : nI (a + b) ≤ ix
    · have c5' := c5
      rw [Int32.le_iff_toInt_le, nab, e3] at c5'
      have c2 : ¬ (p + 1 ≤ a + d ∧ d ≤ p + b) := by omega
      rw [if_pos c5, if_neg c2, px_lit1, px_N_add]
      simp [c4]
    · have c5' := c5
      rw [Int32.le_iff_toInt_le, nab, e3] at c5'
      have c6 : ¬ (18 : Int32) ≤ ix := by rw [Int32.le_iff_toInt_le, n18, e3]; omega
      have c2 : p + 1 ≤ a + d ∧ d ≤ p + b := by omega
      have c7 : ix = nI (a + d - 1 - p) := by rw [← Int32.toInt_inj, e3, px_N_toInt (by omega)]; omega
      rw [if_neg c5, if_neg c6, if_pos c2, c7, px_wgd_in (by omega) (by omega), px_N_clamp (by omega)]
theorem px_lg_neg {v : Int64} : ((0 : Int32) ≤ lg_cmp v 0) ↔ ¬ v.toInt < 0 := by
  unfold lg_cmp
  have z : (0 : Int64).toInt = 0 := by decide
  by_cases h1 : v > 0
  · have h2 := h1
    rw [GT.gt, Int64.lt_iff_toInt_lt, z] at h2
    rw [if_pos h1]
    constructor
    · intro _; omega
    · intro _; decide
  · rw [if_neg h1]
    by_cases h3 : v = 0
    · rw [if_pos h3, h3, z]; simp
    · rw [if_neg h3]
      have h4 : v.toInt ≠ 0 := fun q => h3 (Int64.toInt_inj.mp (by rw [q, z]))
      have h5 : ¬ 0 < v.toInt := by
        intro q; apply h1; rw [GT.gt, Int64.lt_iff_toInt_lt, z]; exact q
      constructor
      · intro q; exact absurd q (by decide)
      · intro q; omega
theorem px_D_loop {v : Int64} {a b d : Nat} (px_hd : d ≤ 18) (hab : a + b ≤ 18) {neg : Int32} : ∀ (k p f lost : Nat) (la az : Bool) (came : Nat → Int32) (rest : Int64), p + k = 19 → k < f → rest.toInt.natAbs = v.toInt.natAbs / 10 ^ p →
    B_Digits_bring_10 f (nI lost) (px_bz la) (px_bz az) neg came v (nI d) (nI a) (nI b) rest (nI p) = (let r := (List.range' p k).foldl (px_dStep v.toInt.natAbs a b d) (lost, la, az, came)
      some (nI r.1, px_bz r.2.1, px_bz r.2.2.1, px_bz (decide (v.toInt < 0) && !r.2.2.1), r.2.2.2)) := by
  intro k
  induction k with
  | zero =>
    intro p f lost la az came rest hk hf hr
    obtain ⟨f, rfl⟩ : ∃ g, f = g + 1 := ⟨f - 1, by omega⟩
    unfold B_Digits_bring_10
    have c : (19 : Int32) ≤ nI p := by
      have : (19 : Int32) = nI 19 := rfl
      rw [this, px_N_le (by omega) (by omega)]; omega
    rw [if_pos c]
    simp only [List.range'_zero, List.foldl_nil]
    by_cases h1 : v.toInt < 0
    · rw [if_neg (by rw [px_lg_neg]; omega)]
      cases az <;> simp [px_bz, h1]
    · rw [if_pos (px_lg_neg.mpr h1)]
      simp [px_bz, h1]
  | succ k ih =>
    intro p f lost la az came rest hk hf hr
    obtain ⟨f, rfl⟩ : ∃ g, f = g + 1 := ⟨f - 1, by omega⟩
    unfold B_Digits_bring_10 B_Digits_bring_53
    have c : ¬ (19 : Int32) ≤ nI p := by
      have : (19 : Int32) = nI 19 := rfl
      rw [this, px_N_le (by omega) (by omega)]; omega
    rw [if_neg c, List.range'_succ, List.foldl_cons]
    have hdg := px_i64_dig rest
    have hab1 := px_tmod10 rest.toInt
    have hm : (rest.toInt.tmod 10).natAbs = px_dg v.toInt.natAbs p := by
      rw [hab1, hr]; rfl
    have hlt : px_dg v.toInt.natAbs p < 10 := Nat.mod_lt _ (by decide)
    have hrest : (rest / 10).toInt.natAbs = v.toInt.natAbs / 10 ^ (p + 1) := by
      rw [px_i64_div10, px_tdiv10, hr, Nat.div_div_eq_div_mul, Nat.pow_succ]
    generalize (rest - rest / 10 * 10).toInt32 = dgt at *
    have z0 : (0 : Int32).toInt = 0 := by decide
    have ih' := fun lost la az came => ih (p + 1) f lost la az came (rest / 10) (by omega) (by omega) hrest
    have hp1 : nI p + 1 = nI (p + 1) := by rw [px_lit1, px_N_add]
    rw [hp1]
    have hs1 : ∀ s1 : Int32, s1 = nI (px_dg v.toInt.natAbs p) → px_dg v.toInt.natAbs p ≠ 0 → ((F_Digits_bringOne (nI lost) (px_bz la) (px_bz az) came s1 ((nI a - 1) - (nI p - nI d)) (nI a + nI b)).bind fun r_158 => B_Digits_bring_10 f r_158.1 r_158.2.1 r_158.2.2.1 neg r_158.2.2.2 v (nI d) (nI a) (nI b) (rest / 10) (nI (p + 1))) = (let r := (List.range' (p + 1) k).foldl (px_dStep v.toInt.natAbs a b d) (px_dStep v.toInt.natAbs a b d (lost, la, az, came) p)
      some (nI r.1, px_bz r.2.1, px_bz r.2.2.1, px_bz (decide (v.toInt < 0) && !r.2.2.1), r.2.2.2)) := by
      intro s1 e1 e2
      rw [px_D_bringOne px_hd hab (by omega)]
      simp only [Option.bind_some]
      unfold px_dStep
      rw [if_neg e2]
      by_cases c2 : p + 1 ≤ a + d ∧ d ≤ p + b
      · rw [if_pos c2, if_pos c2, e1]
        exact ih' lost la false _
      · rw [if_neg c2, if_neg c2]
        exact ih' (lost + 1) _ az _
    by_cases c1 : dgt = 0
    · rw [if_pos c1]
      have : px_dg v.toInt.natAbs p = 0 := by rw [← hm, ← hdg, c1]; rfl
      have e : px_dStep v.toInt.natAbs a b d (lost, la, az, came) p = (lost, la, az, came) := by unfold px_dStep; rw [if_pos this]
      rw [e]
      exact ih' lost la az came
    · rw [if_neg c1]
      have hne : dgt.toInt ≠ 0 := fun q => c1 (Int32.toInt_inj.mp (by rw [q, z0]))
      have hne2 : px_dg v.toInt.natAbs p ≠ 0 := by rw [← hm, ← hdg]; omega
      by_cases c2 : (0 : Int32) ≤ dgt
      · rw [if_pos c2]
        rw [Int32.le_iff_toInt_le, z0] at c2
        refine hs1 _ ?_ hne2
        rw [← Int32.toInt_inj, px_N_toInt (by omega), ← hm, ← hdg]; omega
      · rw [if_neg c2]
        rw [Int32.le_iff_toInt_le, z0] at c2
        refine hs1 _ ?_ hne2
        rw [← Int32.toInt_inj, px_N_toInt (by omega), px_i32_neg (by omega) (by omega), ← hm, ← hdg]; omega
theorem px_D_clear_loop : ∀ (k f i : Nat) (came : Nat → Int32) (x y z w : Int32), i + k = 18 → k < f → (∀ j, j < i → came j = 0) → ∃ c, B_Digits_clear_2 f x y z w came (nI i) = some (0, 0, 1, 0, c) ∧ ∀ j, j < 18 → c j = 0 := by
  intro k
  induction k with
  | zero =>
    intro f i came x y z w hk hf hc
    obtain ⟨f, rfl⟩ : ∃ g, f = g + 1 := ⟨f - 1, by omega⟩
    unfold B_Digits_clear_2
    rw [if_pos (by rw [px_lit18, px_N_le (by omega) (by omega)]; omega)]
    exact ⟨came, rfl, fun j hj => hc j (by omega)⟩
  | succ k ih =>
    intro f i came x y z w hk hf hc
    obtain ⟨f, rfl⟩ : ∃ g, f = g + 1 := ⟨f - 1, by omega⟩
    unfold B_Digits_clear_2
    rw [if_neg (by rw [px_lit18, px_N_le (by omega) (by omega)]; omega), px_wgd_in (by omega) (by omega), px_N_clamp (by omega), px_lit1, px_N_add]
    apply ih f (i + 1) _ _ _ _ _ (by omega) (by omega)
    intro j hj
    unfold upd
    split
    · rfl
    · exact hc j (by omega)
theorem px_D_bring {v : Int64} {a b d : Nat} (px_hd : d ≤ 18) (hab : a + b ≤ 18) {x y z w : Int32} {came : Nat → Int32} : ∃ c0 : Nat → Int32, (∀ j, j < 18 → c0 j = 0) ∧
    F_Digits_bring x y z w came v (nI d) (nI a) (nI b) = (let r := (List.range' 0 19).foldl (px_dStep v.toInt.natAbs a b d) (0, false, true, c0)
      some (nI r.1, px_bz r.2.1, px_bz r.2.2.1, px_bz (decide (v.toInt < 0) && !r.2.2.1), r.2.2.2)) := by
  obtain ⟨c, h1, h2⟩ := px_D_clear_loop 18 fu 0 came x y z w rfl (by decide) (by omega)
  refine ⟨c, h2, ?_⟩
  unfold F_Digits_bring F_Digits_clear
  have h1' : B_Digits_clear_2 fu x y z w came 0 = some (0, 0, 1, 0, c) := h1
  rw [h1']
  simp only [Option.bind_some]
  exact px_D_loop px_hd hab 19 0 fu 0 false true c v rfl (by decide) (by simp)
theorem px_bzf : px_bz false = 0 := rfl
theorem px_bzt : ¬ px_bz true = 0 := by decide
abbrev px_RS := Nat × (Nat → Int32) × (Nat → Int32)
def px_xput (r : px_RS) (c : Int32) (b : Bool) : px_RS := if r.1 < 200 then ⟨r.1 + 1, upd r.2.1 r.1 c, upd r.2.2 r.1 (px_bz b)⟩ else r
def px_xrepl (r : px_RS) (c : Int32) : px_RS := if 0 < r.1 then (r.1, upd r.2.1 (r.1 - 1) c, r.2.2) else r
theorem px_xput_le {r : px_RS} {c : Int32} {b : Bool} (h : r.1 ≤ 200) : (px_xput r c b).1 ≤ 200 := by
  unfold px_xput
  split
  · show r.1 + 1 ≤ 200
    omega
  · exact h
theorem px_xrepl_len {r : px_RS} {c : Int32} : (px_xrepl r c).1 = r.1 := by
  unfold px_xrepl
  split <;> rfl
theorem px_nar_bz (b : Bool) : vp_nar .boolean (px_bz b) = px_bz b := by cases b <;> rfl
theorem px_R_put {r : px_RS} (h : r.1 ≤ 200) (c : Int32) (b : Bool) : F_Result_put (nI r.1) r.2.1 r.2.2 c (px_bz b) = some (nI (px_xput r c b).1, (px_xput r c b).2.1, (px_xput r c b).2.2) := by
  unfold F_Result_put px_xput
  rw [if_neg (by rw [px_lit0, px_N_lt (by omega) (by omega)]; omega)]
  by_cases e : r.1 < 200
  · have e' : ¬ (200 : Int32) ≤ nI r.1 := by rw [px_lit200, px_N_le (by omega) (by omega)]; omega
    rw [if_neg e', if_neg e', px_wgd_in (by omega) (by omega), px_wgd_in (by omega) (by omega), px_N_clamp (by omega), px_nar_bz, px_lit1, px_N_add, if_pos e]
  · have e' : (200 : Int32) ≤ nI r.1 := by rw [px_lit200, px_N_le (by omega) (by omega)]; omega
    rw [if_pos e', if_neg e]
theorem px_R_put0 {r : px_RS} (h : r.1 ≤ 200) (c : Int32) : F_Result_put (nI r.1) r.2.1 r.2.2 c 0 = some (nI (px_xput r c false).1, (px_xput r c false).2.1, (px_xput r c false).2.2) := px_R_put h c false
theorem px_R_put1 {r : px_RS} (h : r.1 ≤ 200) (c : Int32) : F_Result_put (nI r.1) r.2.1 r.2.2 c 1 = some (nI (px_xput r c true).1, (px_xput r c true).2.1, (px_xput r c true).2.2) := px_R_put h c true
theorem px_R_hide {r : px_RS} {hid : Nat} (h : r.1 ≤ 200) (c : Int32) : F_Result_hide (nI r.1) (nI hid) r.2.1 r.2.2 c = some (nI (px_xput r c false).1, nI (hid + 1), (px_xput r c false).2.1, (px_xput r c false).2.2) := by
  unfold F_Result_hide
  rw [px_R_put0 h, px_lit1, px_N_add]
  rfl
theorem px_R_repl {r : px_RS} (h : r.1 ≤ 200) (c : Int32) : F_Result_replaceLast (nI r.1) r.2.1 c = some (px_xrepl r c).2.1 := by
  unfold F_Result_replaceLast px_xrepl
  by_cases e : 0 < r.1
  · rw [if_neg (by rw [px_lit0, px_N_le (by omega) (by omega)]; omega), if_neg (by rw [px_lit200, px_N_lt (by omega) (by omega)]; omega), px_lit1, px_N_sub (by omega), px_wgd_in (by omega) (by omega), px_N_clamp (by omega), if_pos e]
  · rw [if_pos (by rw [px_lit0, px_N_le (by omega) (by omega)]; omega), if_neg e]
abbrev px_ES := Nat × Bool × Bool × Nat × px_RS
def px_digA (came : Nat → Int32) (nd : Nat) : Int32 := if nd < 18 then came nd else 0
theorem px_D_digit {came : Nat → Int32} {nd : Nat} (h : nd < 100000) : F_Digits_digit came (nI nd) = some (px_digA came nd) := by
  unfold F_Digits_digit px_digA
  rw [if_neg (by rw [px_lit0, px_N_lt (by omega) (by omega)]; omega)]
  by_cases e : nd < 18
  · rw [if_neg (by rw [px_lit18, px_N_le (by omega) (by omega)]; omega), px_wgd_in (by omega) (by omega), px_N_clamp (by omega), if_pos e]
  · rw [if_pos (by rw [px_lit18, px_N_le (by omega) (by omega)]; omega), if_neg e]
theorem px_E_takeDigit {came : Nat → Int32} {nd : Nat} (h : nd < 100000) : F_Editor_takeDigit came (nI nd) = some (px_digA came nd, nI (nd + 1)) := by
  unfold F_Editor_takeDigit
  rw [px_D_digit h, px_lit1, px_N_add]
  rfl
def px_shown (neg : Bool) (s : Int32) : Int32 := if s = 43 then (if neg then 45 else 43) else if s = 45 then (if neg then 45 else 32) else s
theorem px_E_signShown {neg : Bool} {s : Int32} : F_Editor_signShown (px_bz neg) s = some (px_shown neg s) := by
  unfold F_Editor_signShown px_shown
  cases neg <;> by_cases a : s = 43 <;> by_cases b : s = 45 <;> simp [a, b, px_bz]
def px_xpair (r : px_RS) (neg : Bool) (a b : Int32) : px_RS := px_xput (px_xput r (if neg then a else 32) false) (if neg then b else 32) false
theorem px_E_writePair {r : px_RS} {neg : Bool} {a b : Int32} (h : r.1 ≤ 200) : F_Editor_writePair (px_bz neg) (nI r.1) r.2.1 r.2.2 a b = some (nI (px_xpair r neg a b).1, (px_xpair r neg a b).2.1, (px_xpair r neg a b).2.2) := by
  unfold F_Editor_writePair B_Editor_writePair_20 px_xpair
  cases neg with
  | false =>
    rw [if_pos px_bzf, px_R_put0 h]
    simp only [Option.bind_some]
    rw [if_pos px_bzf, px_R_put0 (px_xput_le h)]
    rfl
  | true =>
    have e : ¬ px_bz true = 0 := by decide
    rw [if_neg e, px_R_put0 h]
    simp only [Option.bind_some]
    rw [if_neg e, px_R_put0 (px_xput_le h)]
    rfl
def px_plain (neg : Bool) (dig : Nat → Int32) (nd : Nat) (r : px_RS) (s : Int32) : Nat × px_RS :=
  if s = 57 then (nd + 1, px_xput r (48 + dig nd) true)
  else if s = 66 then (nd, px_xput r 32 false)
  else if s = 67 then (nd, px_xpair r neg 67 82)
  else if s = 68 then (nd, px_xpair r neg 68 66)
  else if s = 86 then (nd, r)
  else (nd, px_xput r (px_shown neg s) false)
theorem px_xpair_le {r : px_RS} {neg : Bool} {a b : Int32} (h : r.1 ≤ 200) : (px_xpair r neg a b).1 ≤ 200 := px_xput_le (px_xput_le h)
theorem px_plain_le {neg : Bool} {dig : Nat → Int32} {nd : Nat} {r : px_RS} {s : Int32} (h : r.1 ≤ 200) : (px_plain neg dig nd r s).2.1 ≤ 200 ∧ (px_plain neg dig nd r s).1 ≤ nd + 1 := by
  unfold px_plain
  split
  · exact ⟨px_xput_le h, Nat.le_refl _⟩
  · split
    · exact ⟨px_xput_le h, Nat.le_succ _⟩
    · split
      · exact ⟨px_xpair_le h, Nat.le_succ _⟩
      · split
        · exact ⟨px_xpair_le h, Nat.le_succ _⟩
        · split
          · exact ⟨h, Nat.le_succ _⟩
          · exact ⟨px_xput_le h, Nat.le_succ _⟩
theorem px_E_plain {neg : Bool} {came : Nat → Int32} {nd : Nat} {r : px_RS} {s : Int32} (h : r.1 ≤ 200) (hn : nd < 100000) : F_Editor_writePlainSign (px_bz neg) came (nI nd) (nI r.1) r.2.1 r.2.2 s = some (nI (px_plain neg (px_digA came) nd r s).1, nI (px_plain neg (px_digA came) nd r s).2.1, (px_plain neg (px_digA came) nd r s).2.2.1, (px_plain neg (px_digA came) nd r s).2.2.2) := by
  unfold F_Editor_writePlainSign px_plain
  by_cases c1 : s = 57
  · rw [if_pos c1, if_pos c1, px_E_takeDigit hn]
    simp only [Option.bind_some]
    rw [px_R_put1 h]
    rfl
  · rw [if_neg c1, if_neg c1]
    by_cases c2 : s = 66
    · rw [if_pos c2, if_pos c2, px_R_put0 h]
      rfl
    · rw [if_neg c2, if_neg c2]
      by_cases c3 : s = 67
      · rw [if_pos c3, if_pos c3, px_E_writePair h]
        rfl
      · rw [if_neg c3, if_neg c3]
        by_cases c4 : s = 68
        · rw [if_pos c4, if_pos c4, px_E_writePair h]
          rfl
        · rw [if_neg c4, if_neg c4]
          by_cases c5 : s = 86
          · rw [if_pos c5, if_pos c5]
          · rw [if_neg c5, if_neg c5, px_E_signShown]
            simp only [Option.bind_some]
            rw [px_R_put0 h]
            rfl
def px_endS (neg : Bool) (ss : Int32) (fl sp : Bool) (r : px_RS) : px_RS := if sp = true ∧ fl = true then px_xrepl r (px_shown neg ss) else r
theorem px_endS_len {neg : Bool} {ss : Int32} {fl sp : Bool} {r : px_RS} : (px_endS neg ss fl sp r).1 = r.1 := by
  unfold px_endS
  split
  · exact px_xrepl_len
  · rfl
theorem px_endS_sh {neg : Bool} {ss : Int32} {fl sp : Bool} {r : px_RS} : (px_endS neg ss fl sp r).2.2 = r.2.2 := by
  unfold px_endS px_xrepl
  split
  · split <;> rfl
  · rfl
theorem px_E_endS {neg : Bool} {ss : Int32} {fl sp : Bool} {r : px_RS} (h : r.1 ≤ 200) : F_Editor_endSuppressing (px_bz neg) (nI r.1) ss (px_bz fl) (px_bz sp) r.2.1 = some (0, (px_endS neg ss fl sp r).2.1) := by
  unfold F_Editor_endSuppressing px_endS
  cases sp with
  | false => simp [px_bz]
  | true =>
    cases fl with
    | false => simp [px_bz]
    | true =>
      have e : ¬ px_bz true = 0 := by decide
      rw [if_neg e, if_neg e, px_E_signShown]
      simp only [Option.bind_some]
      rw [px_R_repl h]
      simp
section W
variable (neg : Bool) (dig : Nat → Int32) (fill ss : Int32) (fl : Bool)
def px_wStr36 (s : px_ES) : px_ES :=
  if s.2.2.1 = true ∧ dig s.1 = 0 then (s.1 + 1, s.2.1, s.2.2.1, s.2.2.2.1 + 1, px_xput s.2.2.2.2 fill false)
  else (s.1 + 1, s.2.1, false, s.2.2.2.1, px_xput (px_endS neg ss fl s.2.2.1 s.2.2.2.2) (48 + dig s.1) true)
def px_wStr (s : px_ES) : px_ES :=
  if s.2.1 = false then
    if fl = true then (s.1, true, true, s.2.2.2.1 + 1, px_xput s.2.2.2.2 fill false)
    else px_wStr36 neg dig fill ss fl (s.1, true, true, s.2.2.2.1, s.2.2.2.2)
  else px_wStr36 neg dig fill ss fl s
def px_wSign (x : Int32) (s : px_ES) : px_ES :=
  if x = ss then px_wStr neg dig fill ss fl s
  else if s.2.2.1 = true ∧ px_isI x = true then (s.1, s.2.1, s.2.2.1, s.2.2.2.1 + 1, px_xput s.2.2.2.2 fill false)
  else ((px_plain neg dig s.1 (px_endS neg ss fl s.2.2.1 s.2.2.2.2) x).1, s.2.1, false, s.2.2.2.1, (px_plain neg dig s.1 (px_endS neg ss fl s.2.2.1 s.2.2.2.2) x).2)
def px_hideN (fill : Int32) : Nat → px_ES → px_ES
  | 0, s => s
  | n + 1, s => px_hideN fill n (s.1, s.2.1, s.2.2.1, s.2.2.2.1 + 1, px_xput s.2.2.2.2 fill false)
def px_hSign (x : Int32) (s : px_ES) : px_ES :=
  if fill = 42 ∧ x = 46 then (s.1, s.2.1, s.2.2.1, s.2.2.2.1, px_xput s.2.2.2.2 46 false) else px_hideN fill (px_wid x) s
end W
abbrev px_enc (s : px_ES) : Int32 × Int32 × Int32 × Int32 × Int32 × (Nat → Int32) × (Nat → Int32) := (nI s.1, px_bz s.2.1, px_bz s.2.2.1, nI s.2.2.2.2.1, nI s.2.2.2.1, s.2.2.2.2.2.1, s.2.2.2.2.2.2)
section WT
variable {neg : Bool} {came dig : Nat → Int32} {fill ss : Int32} {fl : Bool}
theorem px_E_wStr36 {s : px_ES} (h : s.2.2.2.2.1 ≤ 200) (hn : s.1 < 100000) : B_Editor_writeStringSign_36 fill (px_bz neg) came ss (px_bz fl) (nI s.1) (px_bz s.2.1) (px_bz s.2.2.1) (nI s.2.2.2.2.1) (nI s.2.2.2.1) s.2.2.2.2.2.1 s.2.2.2.2.2.2 = some (px_enc (px_wStr36 neg (px_digA came) fill ss fl s)) := by
  have h64 : B_Editor_writeStringSign_64 fill (px_bz neg) came ss (px_bz fl) (nI (s.1 + 1)) (px_bz s.2.1) (px_bz s.2.2.1) (nI s.2.2.2.2.1) (nI s.2.2.2.1) s.2.2.2.2.2.1 s.2.2.2.2.2.2 (px_digA came s.1) = some (px_enc (s.1 + 1, s.2.1, false, s.2.2.2.1, px_xput (px_endS neg ss fl s.2.2.1 s.2.2.2.2) (48 + px_digA came s.1) true)) := by
    unfold B_Editor_writeStringSign_64
    rw [px_E_endS h]
    simp only [Option.bind_some]
    have hp := px_R_put1 (r := px_endS neg ss fl s.2.2.1 s.2.2.2.2) (by rw [px_endS_len]; exact h) (48 + px_digA came s.1)
    rw [px_endS_len, px_endS_sh] at hp
    rw [hp]
    rfl
  unfold B_Editor_writeStringSign_36 px_wStr36
  rw [px_E_takeDigit hn]
  simp only [Option.bind_some]
  rw [h64]
  cases hsp : s.2.2.1 with
  | false => simp [px_bz]
  | true =>
    have e : ¬ px_bz true = 0 := by decide
    rw [if_neg e]
    by_cases c : px_digA came s.1 = 0
    · rw [if_pos c, px_R_hide h]
      simp [c, hsp]
    · rw [if_neg c]
      simp [c]
theorem px_E_wStr {s : px_ES} (h : s.2.2.2.2.1 ≤ 200) (hn : s.1 < 100000) : F_Editor_writeStringSign fill (px_bz neg) came ss (px_bz fl) (nI s.1) (px_bz s.2.1) (px_bz s.2.2.1) (nI s.2.2.2.2.1) (nI s.2.2.2.1) s.2.2.2.2.2.1 s.2.2.2.2.2.2 = some (px_enc (px_wStr neg (px_digA came) fill ss fl s)) := by
  unfold F_Editor_writeStringSign px_wStr
  cases hb : s.2.1 with
  | false =>
    rw [if_pos px_bzf, if_pos rfl]
    cases hf : fl with
    | false =>
      rw [if_pos px_bzf, if_neg (by decide)]
      exact px_E_wStr36 (s := (s.1, true, true, s.2.2.2.1, s.2.2.2.2)) h hn
    | true =>
      rw [if_neg px_bzt, if_pos rfl, px_R_hide h]
      rfl
  | true =>
    rw [if_neg px_bzt, if_neg (by decide)]
    have := px_E_wStr36 (neg := neg) (came := came) (fill := fill) (ss := ss) (fl := fl) (s := s) h hn
    rw [hb] at this
    exact this
theorem px_E_wSign {s : px_ES} {x : Int32} (h : s.2.2.2.2.1 ≤ 200) (hn : s.1 < 100000) : F_Editor_writeSign fill (px_bz neg) came ss (px_bz fl) (nI s.1) (px_bz s.2.1) (px_bz s.2.2.1) (nI s.2.2.2.2.1) (nI s.2.2.2.1) s.2.2.2.2.2.1 s.2.2.2.2.2.2 x = some (px_enc (px_wSign neg (px_digA came) fill ss fl x s)) := by
  have h44 : B_Editor_writeSign_44 fill (px_bz neg) came ss (px_bz fl) (nI s.1) (px_bz s.2.1) (px_bz s.2.2.1) (nI s.2.2.2.2.1) (nI s.2.2.2.1) s.2.2.2.2.2.1 s.2.2.2.2.2.2 x = some (px_enc ((px_plain neg (px_digA came) s.1 (px_endS neg ss fl s.2.2.1 s.2.2.2.2) x).1, s.2.1, false, s.2.2.2.1, (px_plain neg (px_digA came) s.1 (px_endS neg ss fl s.2.2.1 s.2.2.2.2) x).2)) := by
    unfold B_Editor_writeSign_44
    rw [px_E_endS h]
    simp only [Option.bind_some]
    have hp := px_E_plain (neg := neg) (came := came) (nd := s.1) (r := px_endS neg ss fl s.2.2.1 s.2.2.2.2) (s := x) (by rw [px_endS_len]; exact h) hn
    rw [px_endS_len, px_endS_sh] at hp
    rw [hp]
    rfl
  unfold F_Editor_writeSign px_wSign
  by_cases c1 : x = ss
  · rw [if_pos c1, if_pos c1, px_E_wStr h hn]
    rfl
  · rw [if_neg c1, if_neg c1, h44, px_Pn_isInsertion]
    simp only [Option.bind_some]
    cases hsp : s.2.2.1 with
    | false => simp [px_bz]
    | true =>
      rw [if_neg (by decide)]
      cases hi : px_isI x with
      | false => simp
      | true =>
        simp only [if_true]
        rw [if_neg (by decide), px_R_hide h]
        simp [hsp]
theorem px_hideN_le {n : Nat} {s : px_ES} (h : s.2.2.2.2.1 ≤ 200) : (px_hideN fill n s).2.2.2.2.1 ≤ 200 ∧ (px_hideN fill n s).1 = s.1 := by
  induction n generalizing s with
  | zero => exact ⟨h, rfl⟩
  | succ n ih =>
    unfold px_hideN
    exact ih (px_xput_le h)
theorem px_hSign_le {s : px_ES} {x : Int32} (h : s.2.2.2.2.1 ≤ 200) : (px_hSign fill x s).2.2.2.2.1 ≤ 200 ∧ (px_hSign fill x s).1 = s.1 := by
  unfold px_hSign
  split
  · exact ⟨px_xput_le h, rfl⟩
  · exact px_hideN_le h
theorem px_wStr36_le {s : px_ES} (h : s.2.2.2.2.1 ≤ 200) : (px_wStr36 neg dig fill ss fl s).2.2.2.2.1 ≤ 200 ∧ (px_wStr36 neg dig fill ss fl s).1 ≤ s.1 + 1 := by
  unfold px_wStr36
  split
  · exact ⟨px_xput_le h, Nat.le_refl _⟩
  · exact ⟨px_xput_le (by rw [px_endS_len]; exact h), Nat.le_refl _⟩
theorem px_wSign_le {s : px_ES} {x : Int32} (h : s.2.2.2.2.1 ≤ 200) : (px_wSign neg dig fill ss fl x s).2.2.2.2.1 ≤ 200 ∧ (px_wSign neg dig fill ss fl x s).1 ≤ s.1 + 1 := by
  unfold px_wSign
  split
  · unfold px_wStr
    split
    · split
      · exact ⟨px_xput_le h, Nat.le_succ _⟩
      · exact px_wStr36_le (s := (s.1, true, true, s.2.2.2.1, s.2.2.2.2)) h
    · exact px_wStr36_le h
  · split
    · exact ⟨px_xput_le h, Nat.le_succ _⟩
    · exact px_plain_le (by rw [px_endS_len]; exact h)
theorem px_hideN_enc {n : Nat} {s : px_ES} : (px_hideN fill n s).2.1 = s.2.1 ∧ (px_hideN fill n s).2.2.1 = s.2.2.1 := by
  induction n generalizing s with
  | zero => exact ⟨rfl, rfl⟩
  | succ n ih => unfold px_hideN; exact ih
theorem px_E_hideN {x : Int32} : ∀ (n f k : Nat) (s : px_ES), s.2.2.2.2.1 ≤ 200 → n + k = px_wid x → n < f → B_Editor_hideSign_28 fill f (nI s.2.2.2.2.1) (nI s.2.2.2.1) s.2.2.2.2.2.1 s.2.2.2.2.2.2 x (nI k) = some (nI (px_hideN fill n s).2.2.2.2.1, nI (px_hideN fill n s).2.2.2.1, (px_hideN fill n s).2.2.2.2.2.1, (px_hideN fill n s).2.2.2.2.2.2) := by
  have hw : px_wid x ≤ 2 := by unfold px_wid; split; simp; split <;> simp
  intro n
  induction n with
  | zero =>
    intro f k s h hk hf
    obtain ⟨f, rfl⟩ : ∃ g, f = g + 1 := ⟨f - 1, by omega⟩
    unfold B_Editor_hideSign_28
    rw [px_Pn_width]
    simp only [Option.bind_some]
    rw [if_pos (by rw [px_N_le (by omega) (by omega)]; omega)]
    rfl
  | succ n ih =>
    intro f k s h hk hf
    obtain ⟨f, rfl⟩ : ∃ g, f = g + 1 := ⟨f - 1, by omega⟩
    unfold B_Editor_hideSign_28
    rw [px_Pn_width]
    simp only [Option.bind_some]
    rw [if_neg (by rw [px_N_le (by omega) (by omega)]; omega), px_R_hide h]
    simp only [Option.bind_some]
    rw [px_lit1, px_N_add]
    exact ih f (k + 1) (s.1, s.2.1, s.2.2.1, s.2.2.2.1 + 1, px_xput s.2.2.2.2 fill false) (px_xput_le h) (by omega) (by omega)
theorem px_E_hSign {s : px_ES} {x : Int32} (h : s.2.2.2.2.1 ≤ 200) : F_Editor_hideSign fill (nI s.2.2.2.2.1) (nI s.2.2.2.1) s.2.2.2.2.2.1 s.2.2.2.2.2.2 x = some (nI (px_hSign fill x s).2.2.2.2.1, nI (px_hSign fill x s).2.2.2.1, (px_hSign fill x s).2.2.2.2.2.1, (px_hSign fill x s).2.2.2.2.2.2) := by
  have hw : px_wid x ≤ 2 := by unfold px_wid; split; simp; split <;> simp
  have hh := px_E_hideN (fill := fill) (x := x) (px_wid x) fu 0 s h (by omega) (by show _ < 1000; omega)
  unfold F_Editor_hideSign px_hSign
  have hh' : B_Editor_hideSign_28 fill fu (nI s.2.2.2.2.1) (nI s.2.2.2.1) s.2.2.2.2.2.1 s.2.2.2.2.2.2 x 0 = _ := hh
  by_cases c1 : fill = 42
  · rw [if_pos c1]
    by_cases c2 : x = 46
    · rw [if_pos c2, if_pos ⟨c1, c2⟩, px_R_put0 h]
      rfl
    · rw [if_neg c2, if_neg (fun q => c2 q.2), hh']
  · rw [if_neg c1, if_neg (fun q => c1 q.1), hh']
end WT
def px_iter {α : Type} (g : α → α) : Nat → α → α
  | 0, s => s
  | n + 1, s => px_iter g n (g s)
def px_oneS (hdn : Bool) (neg : Bool) (dig : Nat → Int32) (fill ss : Int32) (fl : Bool) (x : Int32) (s : px_ES) : px_ES := if hdn = true then px_hSign fill x s else px_wSign neg dig fill ss fl x s
def px_amt (hdn : Bool) (neg : Bool) (dig : Nat → Int32) (fill ss : Int32) (fl : Bool) (t : List px_Rn) (s : px_ES) : px_ES := t.foldl (fun s x => px_iter (px_oneS hdn neg dig fill ss fl x.1) x.2 s) s
theorem px_oneS_le {hdn neg : Bool} {dig : Nat → Int32} {fill ss : Int32} {fl : Bool} {x : Int32} {s : px_ES} (h : s.2.2.2.2.1 ≤ 200) : (px_oneS hdn neg dig fill ss fl x s).2.2.2.2.1 ≤ 200 ∧ (px_oneS hdn neg dig fill ss fl x s).1 ≤ s.1 + 1 := by
  unfold px_oneS
  split
  · obtain ⟨h1, h2⟩ := px_hSign_le (fill := fill) (x := x) h
    exact ⟨h1, by omega⟩
  · exact px_wSign_le h
theorem px_iter_le {hdn neg : Bool} {dig : Nat → Int32} {fill ss : Int32} {fl : Bool} {x : Int32} : ∀ (n : Nat) (s : px_ES), s.2.2.2.2.1 ≤ 200 → (px_iter (px_oneS hdn neg dig fill ss fl x) n s).2.2.2.2.1 ≤ 200 ∧ (px_iter (px_oneS hdn neg dig fill ss fl x) n s).1 ≤ s.1 + n := by
  intro n
  induction n with
  | zero => intro s h; exact ⟨h, Nat.le_refl _⟩
  | succ n ih =>
    intro s h
    unfold px_iter
    have h1 := px_oneS_le (hdn := hdn) (neg := neg) (dig := dig) (fill := fill) (ss := ss) (fl := fl) (x := x) h
    have h2 := ih _ h1.1
    exact ⟨h2.1, by omega⟩
theorem px_E_108 {hdn neg : Bool} {az al : Int32} {came : Nat → Int32} {fill ss : Int32} {fl : Bool} {m : Nat} {sg ct : Nat → Int32} {rs t : List px_Rn} {x : px_Rn} (h : px_RH m sg ct rs) (hs : (x :: t) <:+ rs) {kind : Int32}
    (K : Int32 → Int32 → Int32 → Int32 → Int32 → Int32 → Int32 → (Nat → Int32) → (Nat → Int32) → Int32 → Int32 → (Option (Int32 × Int32 × Int32 × Int32 × Int32 × Int32 × Int32 × (Nat → Int32) × (Nat → Int32)))) :
    ∀ (n f j : Nat) (s : px_ES), s.2.2.2.2.1 ≤ 200 → s.1 + n < 100000 → n + j = x.2 → n < f →
    B_Editor_writeAmount_108 az (px_bz neg) came (nI m) al ss (px_bz fl) sg ct K f fill (nI s.1) (px_bz s.2.1) (px_bz s.2.2.1) kind (nI s.2.2.2.2.1) (nI s.2.2.2.1) s.2.2.2.2.2.1 s.2.2.2.2.2.2 (px_bz hdn) (px_cu m (x :: t)) x.1 (nI j)
      = (let u := px_iter (px_oneS hdn neg (px_digA came) fill ss fl x.1) n s
         K fill (nI u.1) (px_bz u.2.1) (px_bz u.2.2.1) kind (nI u.2.2.2.2.1) (nI u.2.2.2.1) u.2.2.2.2.2.1 u.2.2.2.2.2.2 (px_bz hdn) (px_cu m t)) := by
  have hx := h.ok x (hs.mem (by simp))
  have hm := h.le
  have hc : F_Picture_count (nI m) ct (px_cu m (x :: t)) = some (nI x.2) := by
    unfold px_cu
    rw [px_Pn_count h.rlen h.le h.are (by omega), px_suf_drop h.rlen hs]
    rfl
  intro n
  induction n with
  | zero =>
    intro f j s hl hn hj hf
    obtain ⟨f, rfl⟩ : ∃ g, f = g + 1 := ⟨f - 1, by omega⟩
    unfold B_Editor_writeAmount_108
    rw [hc]
    simp only [Option.bind_some]
    rw [if_pos (by rw [px_N_le (by omega) (by omega)]; omega), px_cu_step h.rlen hs]
    rfl
  | succ n ih =>
    intro f j s hl hn hj hf
    obtain ⟨f, rfl⟩ : ∃ g, f = g + 1 := ⟨f - 1, by omega⟩
    unfold B_Editor_writeAmount_108
    rw [hc]
    simp only [Option.bind_some]
    rw [if_neg (by rw [px_N_le (by omega) (by omega)]; omega), px_E_wSign hl (by omega), px_E_hSign hl]
    simp only [Option.bind_some]
    have hl1 := px_oneS_le (hdn := hdn) (neg := neg) (dig := px_digA came) (fill := fill) (ss := ss) (fl := fl) (x := x.1) hl
    have hi := ih f (j + 1) (px_oneS hdn neg (px_digA came) fill ss fl x.1 s) hl1.1 (by omega) (by omega) (by omega)
    rw [px_lit1, px_N_add]
    cases hdn with
    | false =>
      rw [if_pos px_bzf]
      exact hi
    | true =>
      rw [if_neg px_bzt]
      have e : px_oneS true neg (px_digA came) fill ss fl x.1 s = px_hSign fill x.1 s := rfl
      have e2 : (px_hSign fill x.1 s).2.1 = s.2.1 ∧ (px_hSign fill x.1 s).2.2.1 = s.2.2.1 := by
        unfold px_hSign
        split
        · exact ⟨rfl, rfl⟩
        · exact px_hideN_enc
      have e3 := (px_hSign_le (fill := fill) (x := x.1) hl).2
      rw [e, e2.1, e2.2, e3] at hi
      unfold px_iter
      rw [e]
      exact hi
theorem px_E_88 {hdn neg : Bool} {az al : Int32} {came : Nat → Int32} {fill ss : Int32} {fl : Bool} {m : Nat} {sg ct : Nat → Int32} {rs : List px_Rn} (h : px_RH m sg ct rs) {kind : Int32} :
    ∀ (t : List px_Rn) (f : Nat) (s : px_ES), t <:+ rs → s.2.2.2.2.1 ≤ 200 → s.1 + 99 * t.length < 90000 → t.length < f →
    B_Editor_writeAmount_88 az (px_bz neg) came (nI m) al ss (px_bz fl) sg ct f fill (nI s.1) (px_bz s.2.1) (px_bz s.2.2.1) kind (nI s.2.2.2.2.1) (nI s.2.2.2.1) s.2.2.2.2.2.1 s.2.2.2.2.2.2 (px_bz hdn) (px_cu m t)
      = (let u := px_amt hdn neg (px_digA came) fill ss fl t s
         some (fill, nI u.1, px_bz u.2.1, px_bz u.2.2.1, kind, nI u.2.2.2.2.1, nI u.2.2.2.1, u.2.2.2.2.2.1, u.2.2.2.2.2.2)) := by
  intro t
  induction t with
  | nil =>
    intro f s hs hl hn hf
    obtain ⟨f, rfl⟩ : ∃ g, f = g + 1 := ⟨f - 1, by omega⟩
    have hle := h.le
    unfold B_Editor_writeAmount_88
    rw [if_pos (by unfold px_cu; rw [px_N_le (by omega) (by simp; omega)]; simp)]
    rfl
  | cons x t ih =>
    intro f s hs hl hn hf
    obtain ⟨f, rfl⟩ : ∃ g, f = g + 1 := ⟨f - 1, by omega⟩
    have hle := h.le
    have hl1 := hs.length_le
    rw [h.rlen] at hl1
    have hl0 : 1 ≤ (x :: t).length := by simp
    have hx := h.ok x (hs.mem (by simp))
    have c1 : ¬ nI m ≤ px_cu m (x :: t) := by unfold px_cu; rw [px_N_le (by omega) (by omega)]; omega
    unfold B_Editor_writeAmount_88
    rw [if_neg c1, px_Pn_sgn h hs]
    simp only [Option.bind_some]
    have e4 : px_hd (x :: t) = x.1 := rfl
    have hlen : (x :: t).length = t.length + 1 := by simp
    rw [e4]
    rw [px_lit0, px_E_108 h hs _ x.2 fu 0 s hl (by omega) (by omega) (by show _ < 1000; omega)]
    have h2 := px_iter_le (hdn := hdn) (neg := neg) (dig := px_digA came) (fill := fill) (ss := ss) (fl := fl) (x := x.1) x.2 s hl
    exact ih f _ (px_suf_tl hs) h2.1 (by omega) (by omega)
/-- the amount's places -/
def px_hidden (az al bw : Bool) (ss : Int32) : Bool := az && (al || (bw && !decide (ss = 42)))
def px_fillOf (ss : Int32) : Int32 := if ss = 42 then 42 else 32
def px_es0 (r : px_RS) (hid : Nat) : px_ES := ⟨0, false, false, hid, r⟩
theorem px_E_writeAmount {neg az al bw fl : Bool} {came : Nat → Int32} {ss : Int32} {m : Nat} {sg ct : Nat → Int32} {rs : List px_Rn} (h : px_RH m sg ct rs) {r : px_RS} (hr : r.1 ≤ 200) {hid : Nat} {a b c d e : Int32} :
    F_Editor_writeAmount (px_bz az) (px_bz neg) came (nI m) (px_bz al) ss (px_bz fl) sg ct a b c d e (nI r.1) (nI hid) r.2.1 r.2.2 (px_bz bw)
      = (let u := px_amt (px_hidden az al bw ss) neg (px_digA came) (px_fillOf ss) ss fl rs (px_es0 r hid)
         some (px_fillOf ss, nI u.1, px_bz u.2.1, px_bz u.2.2.1, 1, nI u.2.2.2.2.1, nI u.2.2.2.1, u.2.2.2.2.2.1, u.2.2.2.2.2.2)) := by
  have hs : rs <:+ rs := List.suffix_refl _
  have hlen := h.rlen
  have hle := h.le
  have e0 : (0 : Int32) = px_cu m rs := by unfold px_cu; rw [h.rlen]; simp [px_lit0]
  have h88 : ∀ hdn fill, B_Editor_writeAmount_88 (px_bz az) (px_bz neg) came (nI m) (px_bz al) ss (px_bz fl) sg ct fu fill 0 0 0 1 (nI r.1) (nI hid) r.2.1 r.2.2 (px_bz hdn) 0
      = (let u := px_amt hdn neg (px_digA came) fill ss fl rs (px_es0 r hid)
         some (fill, nI u.1, px_bz u.2.1, px_bz u.2.2.1, 1, nI u.2.2.2.2.1, nI u.2.2.2.1, u.2.2.2.2.2.1, u.2.2.2.2.2.2)) := by
    intro hdn fill
    have := px_E_88 (hdn := hdn) (neg := neg) (az := px_bz az) (al := px_bz al) (came := came) (fill := fill) (ss := ss) (fl := fl) h (kind := 1) rs fu (px_es0 r hid) hs hr (by show 0 + _ < _; omega) (by show _ < 1000; omega)
    rw [← e0] at this
    exact this
  have t1 : ¬ (1 : Int32) = 0 := by decide
  have t2 : ¬ px_bz true = 0 := by decide
  have t3 : px_bz false = 0 := rfl
  have f1 := h88 true
  have f0 := h88 false
  have q1 : px_bz true = 1 := rfl
  rw [q1] at f1
  rw [t3] at f0
  unfold F_Editor_writeAmount B_Editor_writeAmount_37 B_Editor_writeAmount_50 px_hidden px_fillOf
  by_cases c1 : ss = 42
  · simp only [if_pos c1, if_neg t1, f1, f0, px_bz_ne]
    cases az <;> cases al <;> cases bw <;> simp [c1]
  · simp only [if_neg c1, if_neg t1, f1, f0, px_bz_ne, if_true]
    cases az <;> cases al <;> cases bw <;> simp [c1]
