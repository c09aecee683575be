/-! THE REFERENCE, PURE: what a number's row is, all told. -/
theorem mx_b1_le {b : Bool} : mx_b1 b ≤ 1 := by cases b <;> decide
theorem mx_u1_len {t : List Int32} : (mx_u1 t).length ≤ t.length ∧ (mx_sg1 t = true → (mx_u1 t).length < t.length) := by
  unfold mx_u1
  constructor
  · split
    · exact mx_p1_suf.length_le
    · exact Nat.le_refl _
  · intro h
    rw [if_pos h]
    cases t with
    | nil => exact absurd h (by decide)
    | cons x t =>
      have := (mx_upc_suf (t := t)).length_le
      show (mx_upc t).length < (x :: t).length
      simp; omega
theorem mx_u2_len {t : List Int32} : (mx_u2 t).length ≤ t.length ∧ (mx_fx1 t = true → (mx_u2 t).length < t.length) := by
  unfold mx_u2
  constructor
  · split
    · exact mx_p1_suf.length_le
    · exact Nat.le_refl _
  · intro h
    rw [if_pos h]
    cases t with
    | nil => exact absurd h (by decide)
    | cons x t =>
      have := (mx_upc_suf (t := t)).length_le
      show (mx_upc t).length < (x :: t).length
      simp; omega
theorem mx_u_suf {t : List Int32} : mx_u2 (mx_u1 t) <:+ t := by
  unfold mx_u2
  have h1 : mx_u1 t <:+ t := by
    unfold mx_u1
    split
    · exact mx_p1_suf
    · exact List.suffix_refl _
  split
  · exact mx_p1_suf.trans h1
  · exact h1
theorem mx_u_norm {t : List Int32} (ht : mx_upc t = t) : mx_upc (mx_u2 (mx_u1 t)) = mx_u2 (mx_u1 t) := by
  have h1 : mx_upc (mx_u1 t) = mx_u1 t := by
    unfold mx_u1
    split
    · exact mx_p1_norm
    · exact ht
  unfold mx_u2
  split
  · exact mx_p1_norm
  · exact h1
theorem mx_nd_u {str : Int32} {fl : Bool} {LB : Nat} (hi : px_isI str = false) {t : List Int32} (hl : str = 0 ∨ LB ≤ (mx_u2 (mx_u1 t)).length) : mx_nd str fl LB (mx_u2 (mx_u1 t)) = mx_nd str fl LB t := by
  have l2 := @mx_u2_len (mx_u1 t)
  have l1 := @mx_u1_len t
  have e1 : mx_nd str fl LB (mx_u1 t) = mx_nd str fl LB t := by
    by_cases c : mx_sg1 t = true
    · have e : mx_u1 t = mx_p1 t := by unfold mx_u1; rw [if_pos c]
      rw [e]
      apply mx_nd_p1 hi
      · unfold mx_sg1 mx_sign at c
        simp only [Bool.and_eq_true, Bool.or_eq_true, beq_iff_eq] at c
        rcases c.1 with q | q <;> (rw [q]; decide)
      · rcases hl with hl | hl
        · exact Or.inl hl
        · right
          have := l1.2 c
          omega
    · have e : mx_u1 t = t := by unfold mx_u1; rw [if_neg c]
      rw [e]
  have e2 : mx_nd str fl LB (mx_u2 (mx_u1 t)) = mx_nd str fl LB (mx_u1 t) := by
    by_cases c : mx_fx1 (mx_u1 t) = true
    · have e : mx_u2 (mx_u1 t) = mx_p1 (mx_u1 t) := by unfold mx_u2; rw [if_pos c]
      have l3 := l2.2 c
      rw [e] at hl l3 ⊢
      apply mx_nd_p1 hi
      · unfold mx_fx1 at c
        simp only [Bool.and_eq_true, beq_iff_eq] at c
        rw [c.1]; decide
      · rcases hl with hl | hl
        · exact Or.inl hl
        · right; omega
    · have e : mx_u2 (mx_u1 t) = mx_u1 t := by unfold mx_u2; rw [if_neg c]
      rw [e]
  rw [e2, e1]
/-- a number's row: its digits ahead and behind; its string, if it has one -/
theorem mx_facts {m : Nat} {beg : Int32} {ys : List Int32} (h : (mx_num m beg (mx_upc ys)).1 ≠ 0) :
    ∃ a b g : Nat, (mx_num m beg (mx_upc ys)).2.1 = nI a ∧ (mx_num m beg (mx_upc ys)).2.2.1 = nI b ∧ (mx_num m beg (mx_upc ys)).2.2.2.2.2.1 = nI g ∧ 0 < a + b ∧ a + b < 19 ∧
      (((mx_num m beg (mx_upc ys)).2.2.2.1 = 0 ∧ mx_nd 0 false 0 ys = a + b) ∨
       ∃ u : List Int32, u <:+ ys ∧ mx_upc u = u ∧ (mx_num m beg (mx_upc ys)).2.2.2.1 = mx_hd u ∧ (mx_num m beg (mx_upc ys)).2.2.2.2.1 = mx_c m u ∧ (mx_all (mx_hd u) u).1 = g ∧ px_isI (mx_hd u) = false ∧ mx_hd u ≠ 0 ∧ (mx_hd u = 90 ∨ mx_hd u = 42 ∨ mx_hd u = 43 ∨ mx_hd u = 45 ∨ mx_hd u = 202) ∧ g ≤ 18 + mx_b1 (mx_flo (mx_hd u)) ∧ mx_nd (mx_hd u) (mx_flo (mx_hd u)) u.length ys = a + b) := by
  have hs : mx_u2 (mx_u1 (mx_upc ys)) <:+ ys := mx_u_suf.trans mx_upc_suf
  have hn : mx_upc (mx_u2 (mx_u1 (mx_upc ys))) = mx_u2 (mx_u1 (mx_upc ys)) := mx_u_norm mx_upc_upc
  unfold mx_num mx_str at h ⊢
  have hnd : ∀ (str : Int32) (fl : Bool) (LB : Nat), px_isI str = false → (str = 0 ∨ LB ≤ (mx_u2 (mx_u1 (mx_upc ys))).length) → mx_nd str fl LB ys = mx_nd str fl LB (mx_u2 (mx_u1 (mx_upc ys))) := by
    intro str fl LB hi hl
    rw [mx_nd_u hi hl, mx_nd_upc hi]
  generalize mx_sg1 (mx_upc ys) = sg at *
  generalize mx_fx1 (mx_u1 (mx_upc ys)) = fx at *
  generalize mx_u2 (mx_u1 (mx_upc ys)) = u at *
  by_cases c : mx_tk sg fx u = true
  · rw [if_pos c] at h ⊢
    obtain ⟨k1, k2, k3⟩ := mx_tk_ok c
    obtain ⟨f1, f2⟩ := mx_fl_flo c
    have hz : mx_hd u = 0 ∨ mx_hd u = 90 ∨ mx_hd u = 42 ∨ mx_hd u = 43 ∨ mx_hd u = 45 ∨ mx_hd u = 202 := Or.inr f2
    obtain ⟨a, b, r1, r2, r3, r4, r5, r6, r7, r8, r9⟩ := mx_rest_ok (sg := sg) k1 hz f1 h
    refine ⟨a, b, (mx_all (mx_hd u) u).1, r1, r2, r5, r6, r7, Or.inr ⟨u, hs, hn, r3, r4, rfl, k1, k3, f2, ?_, ?_⟩⟩
    · rw [f1] at r9
      have := @mx_b1_le (mx_flo (mx_hd u))
      omega
    · rw [hnd _ _ _ k1 (Or.inr (Nat.le_refl _))]
      have hss : mx_cn (mx_hd u) (mx_hd u) = 1 := by unfold mx_cn; rw [if_pos (Or.inr ⟨rfl, k3⟩)]
      have s3 := mx_cs_all (str := mx_hd u) (s := mx_hd u) k1 (t := u)
      rw [hss, Nat.mul_one] at s3
      rw [f1] at r8
      cases hu : u with
      | nil => rw [hu] at k2; exact absurd rfl k2
      | cons x v =>
        have hx : mx_hd u = x := by rw [hu]; rfl
        rw [hx] at k1 k3 f2 s3 r8 hss
        have hxd : mx_hd (x :: v) = x := rfl
        rw [hxd]
        have e1 : mx_nd x (mx_flo x) (x :: v).length (x :: v) = mx_b1 (mx_isd x (mx_flo x) (x :: v).length x (x :: v).length) + mx_nd x (mx_flo x) (x :: v).length v := rfl
        have e2 : mx_nd x (mx_flo x) (x :: v).length v = mx_cs x v := mx_nd_cs v (Or.inr (by simp))
        have e3 : mx_cs x u = mx_cn x x + mx_cs x v := by rw [hu]; rfl
        have e4 : mx_isd x (mx_flo x) (x :: v).length x (x :: v).length = !(mx_flo x) := by
          unfold mx_isd
          have n57 : ¬ x = 57 := by rcases f2 with rfl | rfl | rfl | rfl | rfl <;> decide
          have d1 : decide (x = x ∧ (x :: v).length ≤ (x :: v).length ∧ x ≠ 0) = true := decide_eq_true ⟨rfl, Nat.le_refl _, k3⟩
          rw [decide_eq_false n57, d1, decide_eq_true (rfl : (x :: v).length = (x :: v).length)]
          cases mx_flo x <;> rfl
        have e5 : mx_b1 (!(mx_flo x)) + mx_b1 (mx_flo x) = 1 := by cases mx_flo x <;> rfl
        have hg1 : 1 ≤ (mx_all x u).1 := by
          rw [hu]
          show 1 ≤ (mx_all x (x :: v)).1
          rw [mx_all, if_pos rfl]
          show 1 ≤ (mx_all x v).1 + 1
          omega
        rw [e1, e2, e4]
        have := @mx_b1_le (mx_flo x)
        omega
  · rw [if_neg c] at h ⊢
    have h0 : px_isI 0 = false := by decide
    obtain ⟨a, b, r1, r2, r3, r4, r5, r6, r7, r8, r9⟩ := mx_rest_ok (sg := sg) (str := 0) h0 (Or.inl rfl) (by decide) h
    refine ⟨a, b, 0, r1, r2, r5, r6, r7, Or.inl ⟨r3, ?_⟩⟩
    rw [hnd 0 false 0 h0 (Or.inl rfl), mx_nd_cs u (Or.inl rfl)]
    have : mx_b1 false = 0 := rfl
    omega
