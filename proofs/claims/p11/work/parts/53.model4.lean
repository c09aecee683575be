/-! THE REFERENCE, PURE: the number's digits come to those of the picture. -/
def mx_over (M a d k : Nat) : Nat := ((List.range k).filter (fun p => !decide (px_dg M p = 0) && decide (a + d ≤ p))).length
theorem mx_over_succ {M a d k : Nat} : mx_over M a d (k + 1) = mx_over M a d k + (if px_dg M k = 0 then 0 else if a + d ≤ k then 1 else 0) := by
  unfold mx_over
  rw [List.range_succ, List.filter_append, List.length_append]
  by_cases c : px_dg M k = 0 <;> by_cases e : a + d ≤ k <;> simp [c, e]
theorem mx_lost_succ {M a b d k : Nat} : px_lostN M a b d (k + 1) = px_lostN M a b d k + (if px_dg M k = 0 then 0 else if a + d ≤ k ∨ k + b < d then 1 else 0) := by
  unfold px_lostN px_vP
  rw [List.range_succ, List.filter_append, List.length_append]
  have e : (if a + d ≤ k ∨ k + b < d then 1 else 0 : Nat) = (if k + 1 ≤ a + d ∧ d ≤ k + b then 0 else 1) := by
    by_cases v : k + 1 ≤ a + d ∧ d ≤ k + b
    · rw [if_pos v, if_neg (by omega)]
    · rw [if_neg v, if_pos (by omega)]
  rw [e]
  by_cases c : px_dg M k = 0
  · simp [c]
  · by_cases v : k + 1 ≤ a + d ∧ d ≤ k + b
    · simp [c, v]
    · rw [if_neg c, if_neg v]
      have v2 : decide (k + 1 ≤ a + d ∧ d ≤ k + b) = false := decide_eq_false v
      have c2 : decide (px_dg M k = 0) = false := decide_eq_false c
      simp only [List.filter_cons, List.filter_nil, c2, v2]
      rfl
theorem mx_over_le {M a d k : Nat} : mx_over M a d k ≤ k := by
  induction k with
  | zero => simp [mx_over]
  | succ k ih => rw [mx_over_succ]; split <;> (try split) <;> omega
theorem mx_lost_le {M a b d k : Nat} : px_lostN M a b d k ≤ k := by
  induction k with
  | zero => simp [px_lostN]
  | succ k ih => rw [mx_lost_succ]; split <;> (try split) <;> omega
theorem mx_157 {M a b d : Nat} (hd : d ≤ 18) (hab : a + b ≤ 18) {v : Int64} {mag : Nat → Int32} (hm : ∀ j, j < 40 → mag j = nI (px_dg M j)) : ∀ (r k f : Nat) (came : Nat → Int32), k + r = 40 → r < f →
    B_EditMovesModel_digits_157 (nI d) v (nI a) (nI b) f (nI (px_lostN M a b d k)) came mag (nI (mx_over M a d k)) (nI k) = some (nI (mx_over M a d 40), nI (px_lostN M a b d 40), came, mag) := by
  have q40 : (40 : Int32) = nI 40 := rfl
  intro r
  induction r with
  | zero =>
    intro k f came hk hf
    obtain ⟨f, rfl⟩ : ∃ g, f = g + 1 := ⟨f - 1, by omega⟩
    have : k = 40 := by omega
    subst this
    unfold B_EditMovesModel_digits_157
    rw [if_pos (by rw [q40, px_N_le (by omega) (by omega)]; omega)]
  | succ r ih =>
    intro k f came hk hf
    obtain ⟨f, rfl⟩ : ∃ g, f = g + 1 := ⟨f - 1, by omega⟩
    have hdg : px_dg M k < 10 := Nat.mod_lt _ (by decide)
    have i1 := ih (k + 1) f came (by omega) (by omega)
    have ll := @mx_lost_le M a b d k
    have lo := @mx_over_le M a d k
    unfold B_EditMovesModel_digits_157 B_EditMovesModel_digits_197
    rw [if_neg (by rw [q40, px_N_le (by omega) (by omega)]; omega), px_wgd_in (by omega) (by omega), px_N_clamp (by omega), hm k (by omega), px_N_add]
    rw [mx_lost_succ, mx_over_succ] at i1
    have k1 : nI k + 1 = nI (k + 1) := px_N_add _ _
    rw [k1]
    by_cases c : px_dg M k = 0
    · rw [if_pos (by rw [c]; rfl)]
      simp only [if_pos c, Nat.add_zero] at i1
      exact i1
    · rw [if_neg (by rw [px_lit0, px_N_eq (by omega) (by omega)]; exact c)]
      simp only [if_neg c] at i1
      by_cases e : a + d ≤ k
      · have e1 : ¬ nI k < nI (d + a) := by rw [px_N_lt (by omega) (by omega)]; omega
        have e2 : nI (d + a) ≤ nI k := by rw [px_N_le (by omega) (by omega)]; omega
        have e3 : a + d ≤ k ∨ k + b < d := Or.inl e
        rw [if_neg e1, if_pos e2]
        simp only [if_pos e, if_pos e3] at i1
        rw [px_lit1, px_N_add, px_N_add]
        exact i1
      · have e1 : nI k < nI (d + a) := by rw [px_N_lt (by omega) (by omega)]; omega
        have e2 : ¬ nI (d + a) ≤ nI k := by rw [px_N_le (by omega) (by omega)]; omega
        rw [if_pos e1, if_neg e2]
        have e4 : (nI d - nI b).toInt = (d : Int) - b := by
          have n1 := px_N_toInt (a := d) (by omega)
          have n2 := px_N_toInt (a := b) (by omega)
          rw [px_i32_sub (by omega) (by omega) (by omega) (by omega), n1, n2]
        have n3 := px_N_toInt (a := k) (by omega)
        by_cases g : k + b < d
        · have g1 : ¬ nI d - nI b ≤ nI k := by rw [Int32.le_iff_toInt_le, e4, n3]; omega
          have e3 : a + d ≤ k ∨ k + b < d := Or.inr g
          rw [if_neg g1]
          simp only [if_neg e, if_pos e3] at i1
          rw [px_lit1, px_lit0, px_N_add, px_N_add]
          exact i1
        · have g1 : nI d - nI b ≤ nI k := by rw [Int32.le_iff_toInt_le, e4, n3]; omega
          have e3 : ¬ (a + d ≤ k ∨ k + b < d) := fun q => q.elim e g
          rw [if_pos g1]
          simp only [if_neg e, if_neg e3] at i1
          rw [px_lit0, px_N_add, px_N_add]
          exact i1
theorem mx_94 {M a b d : Nat} (hd : d ≤ 18) (hab : a + b ≤ 18) {v : Int64} {mag : Nat → Int32} (hm : ∀ j, j < 40 → mag j = nI (px_dg M j)) : ∀ (r k f : Nat) (came : Nat → Int32) (cu : Int32), k + r = b → r < f → (∀ i, i < a + k → came i = nI (px_digS M a b d i)) →
    ∃ came', B_EditMovesModel_digits_94 (nI d) v (nI a) (nI b) f cu came mag (nI k) = some (nI (mx_over M a d 40), nI (px_lostN M a b d 40), came', mag) ∧ ∀ i, i < a + b → came' i = nI (px_digS M a b d i) := by
  intro r
  induction r with
  | zero =>
    intro k f came cu hk hf hc
    obtain ⟨f, rfl⟩ : ∃ g, f = g + 1 := ⟨f - 1, by omega⟩
    unfold B_EditMovesModel_digits_94
    rw [if_pos (by rw [px_N_le (by omega) (by omega)]; omega)]
    refine ⟨came, ?_, fun i hi => hc i (by omega)⟩
    exact mx_157 hd hab hm 40 0 fv came rfl (by decide)
  | succ r ih =>
    intro k f came cu hk hf hc
    obtain ⟨f, rfl⟩ : ∃ g, f = g + 1 := ⟨f - 1, by omega⟩
    have n1 := px_N_toInt (a := d) (by omega)
    have n2 := px_N_toInt (a := k) (by omega)
    have o1 : (1 : Int32).toInt = 1 := by decide
    have z0 : (0 : Int32).toInt = 0 := by decide
    have e0 : (nI d - 1).toInt = (d : Int) - 1 := by rw [px_i32_sub (by omega) (by omega) (by omega) (by omega), n1, o1]
    have e1 : ((nI d - 1) - nI k).toInt = (d : Int) - 1 - k := by rw [px_i32_sub (by omega) (by omega) (by omega) (by omega), e0, n2]
    unfold B_EditMovesModel_digits_94
    rw [if_neg (by rw [px_N_le (by omega) (by omega)]; omega), px_N_add, px_wgd_in (by omega) (by omega), px_wgd_in (by omega) (by omega), px_N_clamp (by omega)]
    have k1 : nI k + 1 = nI (k + 1) := px_N_add _ _
    rw [k1]
    have hstep : ∀ x : Int32, x = nI (px_digS M a b d (a + k)) → ∀ i, i < a + (k + 1) → upd came (a + k) x i = nI (px_digS M a b d i) := by
      intro x hx i hi
      unfold upd
      by_cases c : i = a + k
      · rw [if_pos c, hx, c]
      · rw [if_neg c]; exact hc i (by omega)
    by_cases c : k + 1 ≤ d
    · have c1 : (0 : Int32) ≤ (nI d - 1) - nI k := by rw [Int32.le_iff_toInt_le, z0, e1]; omega
      have c2 : (nI d - 1) - nI k = nI (d - 1 - k) := by rw [← Int32.toInt_inj, e1, px_N_toInt (by omega)]; omega
      rw [if_pos c1, c2, px_wgd_in (by omega) (by omega), px_N_clamp (by omega), hm _ (by omega)]
      apply ih (k + 1) f _ cu (by omega) (by omega)
      apply hstep
      unfold px_digS
      rw [if_pos (by omega)]
      congr 2; omega
    · have c1 : ¬ (0 : Int32) ≤ (nI d - 1) - nI k := by rw [Int32.le_iff_toInt_le, z0, e1]; omega
      rw [if_neg c1]
      apply ih (k + 1) f _ cu (by omega) (by omega)
      apply hstep
      unfold px_digS
      rw [if_neg (by omega)]
      rfl
theorem mx_54 {M a b d : Nat} (hd : d ≤ 18) (hab : a + b ≤ 18) {v : Int64} {mag : Nat → Int32} (hm : ∀ j, j < 40 → mag j = nI (px_dg M j)) : ∀ (r k f : Nat) (came : Nat → Int32) (cu : Int32), k + r = a → r < f → (∀ i, i < k → came i = nI (px_digS M a b d i)) →
    ∃ came', B_EditMovesModel_digits_54 (nI d) v (nI a) (nI b) f cu came mag (nI k) = some (nI (mx_over M a d 40), nI (px_lostN M a b d 40), came', mag) ∧ ∀ i, i < a + b → came' i = nI (px_digS M a b d i) := by
  intro r
  induction r with
  | zero =>
    intro k f came cu hk hf hc
    obtain ⟨f, rfl⟩ : ∃ g, f = g + 1 := ⟨f - 1, by omega⟩
    unfold B_EditMovesModel_digits_54
    rw [if_pos (by rw [px_N_le (by omega) (by omega)]; omega)]
    exact mx_94 hd hab hm b 0 fv came cu (by omega) (by show _ < 4000; omega) (fun i hi => hc i (by omega))
  | succ r ih =>
    intro k f came cu hk hf hc
    obtain ⟨f, rfl⟩ : ∃ g, f = g + 1 := ⟨f - 1, by omega⟩
    unfold B_EditMovesModel_digits_54
    rw [if_neg (by rw [px_N_le (by omega) (by omega)]; omega), px_N_add]
    have e1 : nI (d + a) - 1 - nI k = nI (d + a - 1 - k) := by rw [px_lit1, px_N_sub (by omega), px_N_sub (by omega)]
    have k1 : nI k + 1 = nI (k + 1) := px_N_add _ _
    rw [e1, k1, px_wgd_in (by omega) (by omega), px_wgd_in (by omega) (by omega), px_N_clamp (by omega), px_N_clamp (by omega), hm _ (by omega)]
    apply ih (k + 1) f _ cu (by omega) (by omega)
    intro i hi
    unfold upd
    by_cases c : i = k
    · rw [if_pos c]
      unfold px_digS
      rw [if_pos (by omega)]
      congr 2; omega
    · rw [if_neg c]; exact hc i (by omega)
theorem mx_7 {v : Int64} {a b d : Nat} (hd : d ≤ 18) (hab : a + b ≤ 18) : ∀ (r k f : Nat) (came mag : Nat → Int32) (x : Int64) (cu : Int32), k + r = 40 → r < f → x.toInt.natAbs = v.toInt.natAbs / 10 ^ k → (∀ j, j < k → mag j = nI (px_dg v.toInt.natAbs j)) →
    ∃ came' mag', B_EditMovesModel_digits_7 (nI d) v (nI a) (nI b) f cu came mag x (nI k) = some (nI (mx_over v.toInt.natAbs a d 40), nI (px_lostN v.toInt.natAbs a b d 40), came', mag') ∧ ∀ i, i < a + b → came' i = nI (px_digS v.toInt.natAbs a b d i) := by
  have q40 : (40 : Int32) = nI 40 := rfl
  intro r
  induction r with
  | zero =>
    intro k f came mag x cu hk hf hx hm
    obtain ⟨f, rfl⟩ : ∃ g, f = g + 1 := ⟨f - 1, by omega⟩
    unfold B_EditMovesModel_digits_7
    rw [if_pos (by rw [q40, px_N_le (by omega) (by omega)]; omega)]
    obtain ⟨came', h1, h2⟩ := mx_54 (v := v) (M := v.toInt.natAbs) hd hab (mag := mag) (fun j hj => hm j (by omega)) a 0 fv came cu (by omega) (by show _ < 4000; omega) (fun i hi => by omega)
    exact ⟨came', mag, h1, h2⟩
  | succ r ih =>
    intro k f came mag x cu hk hf hx hm
    obtain ⟨f, rfl⟩ : ∃ g, f = g + 1 := ⟨f - 1, by omega⟩
    have hdg := px_i64_dig x
    have hm1 : (x.toInt.tmod 10).natAbs = px_dg v.toInt.natAbs k := by rw [px_tmod10, hx]; rfl
    have hlt : px_dg v.toInt.natAbs k < 10 := Nat.mod_lt _ (by decide)
    have hrest : (x / 10).toInt.natAbs = v.toInt.natAbs / 10 ^ (k + 1) := by
      rw [px_i64_div10, px_tdiv10, hx, Nat.div_div_eq_div_mul, Nat.pow_succ]
    have z0 : (0 : Int32).toInt = 0 := by decide
    unfold B_EditMovesModel_digits_7 B_EditMovesModel_digits_39
    rw [if_neg (by rw [q40, px_N_le (by omega) (by omega)]; omega)]
    have k1 : nI k + 1 = nI (k + 1) := px_N_add _ _
    rw [k1, px_wgd_in (by omega) (by omega), px_wgd_in (by omega) (by omega), px_N_clamp (by omega)]
    generalize (x - x / 10 * 10).toInt32 = dgt at *
    have hgo : ∀ s : Int32, s = nI (px_dg v.toInt.natAbs k) → ∃ came' mag', B_EditMovesModel_digits_7 (nI d) v (nI a) (nI b) f cu came (upd mag k s) (x / 10) (nI (k + 1)) = some (nI (mx_over v.toInt.natAbs a d 40), nI (px_lostN v.toInt.natAbs a b d 40), came', mag') ∧ ∀ i, i < a + b → came' i = nI (px_digS v.toInt.natAbs a b d i) := by
      intro s hs
      apply ih (k + 1) f came _ (x / 10) cu (by omega) (by omega) hrest
      intro j hj
      unfold upd
      by_cases c : j = k
      · rw [if_pos c, hs, c]
      · rw [if_neg c]; exact hm j (by omega)
    by_cases c : (0 : Int32) ≤ dgt
    · rw [if_pos c]
      rw [Int32.le_iff_toInt_le, z0] at c
      apply hgo
      rw [← Int32.toInt_inj, px_N_toInt (by omega), ← hm1, ← hdg]; omega
    · rw [if_neg c]
      rw [Int32.le_iff_toInt_le, z0] at c
      apply hgo
      rw [← Int32.toInt_inj, px_N_toInt (by omega), px_i32_neg (by omega) (by omega), ← hm1, ← hdg]; omega
theorem mx_digits {v : Int64} {a b d : Nat} (hd : d ≤ 18) (hab : a + b ≤ 18) {cu : Int32} {came mag : Nat → Int32} :
    ∃ came' mag', F_EditMovesModel_digits (nI d) v (nI a) (nI b) cu came mag = some (nI (mx_over v.toInt.natAbs a d 40), nI (px_lostN v.toInt.natAbs a b d 40), came', mag') ∧ ∀ i, i < a + b → came' i = nI (px_digS v.toInt.natAbs a b d i) :=
  mx_7 hd hab 40 0 fv came mag v cu rfl (by decide) (by simp) (fun j hj => by omega)
theorem mx_lost40 {M a b d : Nat} (hM : M < 10 ^ 19) : px_lostN M a b d 40 = px_lostN M a b d 19 := by
  have h : ∀ k, 19 ≤ k → px_lostN M a b d k = px_lostN M a b d 19 := by
    intro k hk
    induction k with
    | zero => omega
    | succ k ih =>
      by_cases c : 19 ≤ k
      · rw [mx_lost_succ, if_pos (px_dg_big hM c), Nat.add_zero]; exact ih c
      · have : k = 18 := by omega
        subst this; rfl
  exact h 40 (by omega)
theorem mx_over40 {M a d : Nat} (hM : M < 10 ^ 19) : (0 < mx_over M a d 40) ↔ px_lostA M a d 19 = true := by
  have h : ∀ k, 19 ≤ k → mx_over M a d k = mx_over M a d 19 := by
    intro k hk
    induction k with
    | zero => omega
    | succ k ih =>
      by_cases c : 19 ≤ k
      · rw [mx_over_succ, if_pos (px_dg_big hM c), Nat.add_zero]; exact ih c
      · have : k = 18 := by omega
        subst this; rfl
  rw [h 40 (by omega)]
  unfold mx_over px_lostA
  rw [List.length_pos_iff_exists_mem, List.any_eq_true]
  constructor
  · rintro ⟨p, hp⟩
    exact ⟨p, (List.mem_filter.mp hp).1, (List.mem_filter.mp hp).2⟩
  · rintro ⟨p, h1, h2⟩
    exact ⟨p, List.mem_filter.mpr ⟨h1, h2⟩⟩
/-- all that came is 0 -/
def mx_z (M a b d k : Nat) : Bool := (List.range k).all (fun i => decide (px_digS M a b d i = 0))
theorem mx_isZero {M a b d : Nat} (hab : a + b ≤ 18) {came : Nat → Int32} (hc : ∀ i, i < a + b → came i = nI (px_digS M a b d i)) : F_EditMovesModel_isZero (nI a) (nI b) came = some (px_bz (mx_z M a b d (a + b))) := by
  have hl : ∀ (r k f : Nat), k + r = a + b → r < f → B_EditMovesModel_isZero_4 (nI a) (nI b) came f (px_bz (mx_z M a b d k)) (nI k) = some (px_bz (mx_z M a b d (a + b))) := by
    intro r
    induction r with
    | zero =>
      intro k f hk hf
      obtain ⟨f, rfl⟩ : ∃ g, f = g + 1 := ⟨f - 1, by omega⟩
      have : k = a + b := by omega
      subst this
      unfold B_EditMovesModel_isZero_4
      rw [px_N_add, if_pos (by rw [px_N_le (by omega) (by omega)]; omega)]
      cases mx_z M a b d (a + b) <;> rfl
    | succ r ih =>
      intro k f hk hf
      obtain ⟨f, rfl⟩ : ∃ g, f = g + 1 := ⟨f - 1, by omega⟩
      have i1 := ih (k + 1) f (by omega) (by omega)
      have hs : mx_z M a b d (k + 1) = (mx_z M a b d k && decide (px_digS M a b d k = 0)) := by
        unfold mx_z; rw [List.range_succ, List.all_append]; simp
      have hlt : px_digS M a b d k < 10 := by
        unfold px_digS
        split
        · exact Nat.mod_lt _ (by decide)
        · decide
      rw [hs] at i1
      unfold B_EditMovesModel_isZero_4
      have k1 : nI k + 1 = nI (k + 1) := px_N_add _ _
      rw [px_N_add, if_neg (by rw [px_N_le (by omega) (by omega)]; omega), k1, px_wgd_in (by omega) (by omega), px_N_clamp (by omega), hc k (by omega)]
      cases hz : mx_z M a b d k with
      | false =>
        rw [hz, Bool.false_and] at i1
        rw [if_pos px_bzf]
        exact i1
      | true =>
        rw [hz, Bool.true_and] at i1
        rw [if_neg px_bzt]
        by_cases c : px_digS M a b d k = 0
        · rw [if_pos (by rw [c]; rfl)]
          rw [decide_eq_true c] at i1
          exact i1
        · rw [if_neg (by rw [px_lit0, px_N_eq (by omega) (by omega)]; exact c)]
          rw [decide_eq_false c] at i1
          exact i1
  unfold F_EditMovesModel_isZero
  exact hl (a + b) 0 fv (by omega) (by show _ < 4000; omega)
