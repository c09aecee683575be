/-! THE REFERENCE, PURE: how many digits' places a number's row has; how wide its places are. -/
def mx_cn (str y : Int32) : Nat := if y = 57 ∨ (y = str ∧ str ≠ 0) then 1 else 0
def mx_cs (str : Int32) : List Int32 → Nat
  | [] => 0
  | y :: t => mx_cn str y + mx_cs str t
theorem mx_ins57 {y : Int32} (h : px_isI y = true) : y ≠ 57 := by
  intro q; rw [q] at h; revert h; decide
theorem mx_cn_ins {str y : Int32} (hi : px_isI str = false) (h : px_isI y = true) : mx_cn str y = 0 := by
  unfold mx_cn
  rw [if_neg]
  intro q
  rcases q with q | q
  · exact mx_ins57 h q
  · rw [q.1, hi] at h; cases h
theorem mx_cs_upc {str : Int32} (hi : px_isI str = false) {t : List Int32} : mx_cs str (mx_upc t) = mx_cs str t := by
  induction t with
  | nil => rfl
  | cons x t ih =>
    by_cases c : px_isI x = true
    · have e : mx_upc (x :: t) = mx_upc t := by rw [mx_upc, if_pos c]
      rw [e, ih, mx_cs, mx_cn_ins hi c, Nat.zero_add]
    · have e : mx_upc (x :: t) = x :: t := by rw [mx_upc, if_neg c]
      rw [e]
theorem mx_cs_all {str s : Int32} (hi : px_isI str = false) {t : List Int32} : mx_cs str t = (mx_all s t).1 * mx_cn str s + mx_cs str (mx_all s t).2 := by
  induction t with
  | nil => simp [mx_all, mx_cs]
  | cons x t ih =>
    rw [mx_cs, mx_all]
    by_cases a : x = s
    · rw [if_pos a, a, ih]
      show mx_cn str s + ((mx_all s t).1 * mx_cn str s + mx_cs str (mx_all s t).2) = ((mx_all s t).1 + 1) * mx_cn str s + mx_cs str (mx_all s t).2
      rw [Nat.add_mul]
      omega
    · rw [if_neg a]
      by_cases b : px_isI x = true
      · rw [if_pos b, mx_cn_ins hi b, ih, Nat.zero_add]
      · rw [if_neg b]
        show mx_cn str x + mx_cs str t = 0 * mx_cn str s + mx_cs str (x :: t)
        rw [Nat.zero_mul, Nat.zero_add, mx_cs]
theorem mx_cs_p1 {str : Int32} (hi : px_isI str = false) {t : List Int32} (ht : t ≠ []) : mx_cs str t = mx_cn str (mx_hd t) + mx_cs str (mx_p1 t) := by
  cases t with
  | nil => exact absurd rfl ht
  | cons x t =>
    show mx_cn str x + mx_cs str t = mx_cn str x + mx_cs str (mx_upc t)
    rw [mx_cs_upc hi]
theorem mx_hd_ne {t : List Int32} (h : mx_hd t ≠ -1) : t ≠ [] := fun q => h (by rw [q]; rfl)
theorem mx_k3_cs {str : Int32} (hi : px_isI str = false) {sgs : Bool} {k2 : List Int32} (hk : mx_k3 sgs k2 = []) (hs : sgs = false → str ≠ 43 ∧ str ≠ 45) (hc : str ≠ 200 ∧ str ≠ 201) : mx_cs str k2 = 0 := by
  unfold mx_k3 at hk
  split at hk
  · rename_i c
    by_cases e : k2 = []
    · rw [e]; rfl
    · rw [mx_cs_p1 hi e, hk]
      have hh := c.1
      have hs2 := hs c.2
      unfold mx_sign at hh
      unfold mx_cn
      generalize mx_hd k2 = x at *
      simp only [Bool.or_eq_true, beq_iff_eq] at hh
      rw [if_neg]
      · rfl
      · intro q
        rcases hh with ((rfl | rfl) | rfl) | rfl
        · rcases q with q | q
          · revert q; decide
          · exact hs2.1 q.1.symm
        · rcases q with q | q
          · revert q; decide
          · exact hs2.2 q.1.symm
        · rcases q with q | q
          · revert q; decide
          · exact hc.1 q.1.symm
        · rcases q with q | q
          · revert q; decide
          · exact hc.2 q.1.symm
  · rw [hk]; rfl
theorem mx_fin_ok {fl : Bool} {g : Nat} {str beg : Int32} {wh pa mo : Nat} {k3 : List Int32} (h : (mx_fin fl g str beg wh pa mo k3).1 ≠ 0) : k3 = [] ∧ 0 < g - mx_b1 fl + wh + (mo + pa) ∧ g - mx_b1 fl + wh + (mo + pa) < 19 := by
  unfold mx_fin at h
  simp only at h
  have e : (if fl = true then 1 else 0) = mx_b1 fl := rfl
  by_cases c : k3 = [] ∧ 0 < g - (if fl then 1 else 0) + wh + (mo + pa) ∧ g - (if fl then 1 else 0) + wh + (mo + pa) < 19
  · exact c
  · exfalso
    apply h
    rw [decide_eq_false c]; rfl
/-- what a row behind the string must be -/
theorem mx_rest_ok {sg fl : Bool} {g : Nat} {str beg : Int32} {t : List Int32} (hi : px_isI str = false) (hz : str = 0 ∨ str = 90 ∨ str = 42 ∨ str = 43 ∨ str = 45 ∨ str = 202) (hf : fl = mx_flo str) (h : (mx_rest sg fl g str beg t).1 ≠ 0) :
    ∃ a b : Nat, (mx_rest sg fl g str beg t).2.1 = nI a ∧ (mx_rest sg fl g str beg t).2.2.1 = nI b ∧ (mx_rest sg fl g str beg t).2.2.2.1 = str ∧ (mx_rest sg fl g str beg t).2.2.2.2.1 = beg ∧ (mx_rest sg fl g str beg t).2.2.2.2.2.1 = nI g ∧ 0 < a + b ∧ a + b < 19 ∧ a + b = g - mx_b1 fl + mx_cs str t ∧ g - mx_b1 fl ≤ a := by
  have h57 : mx_cn str 57 = 1 := by unfold mx_cn; rw [if_pos (Or.inl rfl)]
  have hsg : mx_sgs sg fl str = false → str ≠ 43 ∧ str ≠ 45 := by
    intro q
    constructor
    · intro e
      rw [hf, e] at q
      unfold mx_sgs at q
      revert q
      cases sg <;> decide
    · intro e
      rw [hf, e] at q
      unfold mx_sgs at q
      revert q
      cases sg <;> decide
  have hc : str ≠ 200 ∧ str ≠ 201 := by rcases hz with rfl | rfl | rfl | rfl | rfl | rfl <;> decide
  have hpt : ∀ x : Int32, (x = 46 ∨ x = 86) → mx_cn str x = 0 := by
    intro x hx
    unfold mx_cn
    rw [if_neg]
    intro q
    rcases hx with rfl | rfl
    · rcases q with q | q
      · revert q; decide
      · rcases hz with rfl | rfl | rfl | rfl | rfl | rfl <;> (revert q; decide)
    · rcases q with q | q
      · revert q; decide
      · rcases hz with rfl | rfl | rfl | rfl | rfl | rfl <;> (revert q; decide)
  have hfin : ∀ (wh pa mo : Nat) (k2 : List Int32), (mx_fin fl g str beg wh pa mo (mx_k3 (mx_sgs sg fl str) k2)).1 ≠ 0 → mx_cs str t = wh + mo + pa + mx_cs str k2 →
      ∃ a b : Nat, (mx_fin fl g str beg wh pa mo (mx_k3 (mx_sgs sg fl str) k2)).2.1 = nI a ∧ (mx_fin fl g str beg wh pa mo (mx_k3 (mx_sgs sg fl str) k2)).2.2.1 = nI b ∧ (mx_fin fl g str beg wh pa mo (mx_k3 (mx_sgs sg fl str) k2)).2.2.2.1 = str ∧ (mx_fin fl g str beg wh pa mo (mx_k3 (mx_sgs sg fl str) k2)).2.2.2.2.1 = beg ∧ (mx_fin fl g str beg wh pa mo (mx_k3 (mx_sgs sg fl str) k2)).2.2.2.2.2.1 = nI g ∧ 0 < a + b ∧ a + b < 19 ∧ a + b = g - mx_b1 fl + mx_cs str t ∧ g - mx_b1 fl ≤ a := by
    intro wh pa mo k2 hn hcs
    obtain ⟨f1, f2, f3⟩ := mx_fin_ok hn
    have z := mx_k3_cs hi f1 hsg hc
    exact ⟨g - mx_b1 fl + wh, mo + pa, rfl, rfl, rfl, rfl, rfl, f2, f3, by omega, by omega⟩
  have s1 : mx_cs str t = (mx_all 57 t).1 + mx_cs str (mx_all 57 t).2 := by
    have := mx_cs_all (str := str) (s := 57) hi (t := t)
    rw [h57, Nat.mul_one] at this
    exact this
  unfold mx_rest at h ⊢
  by_cases c1 : mx_hd (mx_all 57 t).2 = 46 ∨ mx_hd (mx_all 57 t).2 = 86
  · rw [if_pos c1] at h ⊢
    have hne : (mx_all 57 t).2 ≠ [] := mx_hd_ne (by rcases c1 with c | c <;> (rw [c]; decide))
    have s2 : mx_cs str (mx_all 57 t).2 = mx_cs str (mx_p1 (mx_all 57 t).2) := by
      rw [mx_cs_p1 hi hne, hpt _ c1, Nat.zero_add]
    by_cases c2 : str ≠ 0 ∧ (mx_all 57 t).1 = 0
    · rw [if_pos c2] at h ⊢
      have hss : mx_cn str str = 1 := by unfold mx_cn; rw [if_pos (Or.inr ⟨rfl, c2.1⟩)]
      apply hfin _ _ _ _ h
      have s3 := mx_cs_all (str := str) (s := str) hi (t := mx_p1 (mx_all 57 t).2)
      have s4 := mx_cs_all (str := str) (s := 57) hi (t := (mx_all str (mx_p1 (mx_all 57 t).2)).2)
      rw [hss, Nat.mul_one] at s3
      rw [h57, Nat.mul_one] at s4
      omega
    · rw [if_neg c2] at h ⊢
      apply hfin _ _ _ _ h
      have s4 := mx_cs_all (str := str) (s := 57) hi (t := mx_p1 (mx_all 57 t).2)
      rw [h57, Nat.mul_one] at s4
      omega
  · rw [if_neg c1] at h ⊢
    apply hfin _ _ _ _ h
    omega
theorem mx_fl_flo {sg fx : Bool} {t : List Int32} (h : mx_tk sg fx t = true) : mx_fl sg fx t = mx_flo (mx_hd t) ∧ (mx_hd t = 90 ∨ mx_hd t = 42 ∨ mx_hd t = 43 ∨ mx_hd t = 45 ∨ mx_hd t = 202) := by
  unfold mx_tk at h
  cases hf : mx_fl sg fx t with
  | false =>
    rw [hf] at h
    simp only [Bool.or_false, Bool.or_eq_true, beq_iff_eq] at h
    generalize mx_hd t = s at *
    rcases h with rfl | rfl <;> decide
  | true =>
    unfold mx_fl mx_sign at hf
    generalize mx_hd t = s at *
    simp only [Bool.or_eq_true, Bool.and_eq_true, beq_iff_eq] at hf
    rcases hf with hf | hf
    · rcases hf.1.1 with rfl | rfl <;> decide
    · rw [hf.1.1]; decide
/-- digits' places ahead of the string are none -/
theorem mx_nd_upc {str : Int32} {fl : Bool} {LB : Nat} (hi : px_isI str = false) {t : List Int32} : mx_nd str fl LB (mx_upc t) = mx_nd str fl LB t := by
  induction t with
  | nil => rfl
  | cons x t ih =>
    by_cases c : px_isI x = true
    · have e : mx_upc (x :: t) = mx_upc t := by rw [mx_upc, if_pos c]
      have hx : mx_isd str fl LB x (x :: t).length = false := by
        unfold mx_isd
        have n1 := mx_ins57 c
        have n2 : ¬ x = str := fun q => by rw [q, hi] at c; cases c
        simp [n1, n2]
      rw [e, ih]
      show _ = mx_b1 (mx_isd str fl LB x (x :: t).length) + mx_nd str fl LB t
      rw [hx]
      exact (Nat.zero_add _).symm
    · have e : mx_upc (x :: t) = x :: t := by rw [mx_upc, if_neg c]
      rw [e]
theorem mx_nd_p1 {str : Int32} {fl : Bool} {LB : Nat} (hi : px_isI str = false) {t : List Int32} (ht : mx_hd t ≠ 57) (hl : str = 0 ∨ LB < t.length) : mx_nd str fl LB (mx_p1 t) = mx_nd str fl LB t := by
  cases t with
  | nil => rfl
  | cons x t =>
    have hx : mx_isd str fl LB x (x :: t).length = false := by
      unfold mx_isd
      have n1 : ¬ x = 57 := ht
      rw [decide_eq_false n1, Bool.false_or]
      have n2 : decide (x = str ∧ (x :: t).length ≤ LB ∧ str ≠ 0) = false := decide_eq_false (fun q => by
        rcases hl with hl | hl
        · exact q.2.2 hl
        · omega)
      rw [n2]; rfl
    show mx_nd str fl LB (mx_upc t) = mx_b1 (mx_isd str fl LB x (x :: t).length) + mx_nd str fl LB t
    rw [mx_nd_upc hi, hx]
    exact (Nat.zero_add _).symm
theorem mx_nd_cs {str : Int32} {fl : Bool} {LB : Nat} : ∀ t : List Int32, (str = 0 ∨ t.length < LB) → mx_nd str fl LB t = mx_cs str t := by
  intro t
  induction t with
  | nil => intro _; rfl
  | cons x t ih =>
    intro hl
    have ht : str = 0 ∨ t.length < LB := by
      rcases hl with hl | hl
      · exact Or.inl hl
      · right; simp at hl; omega
    show mx_b1 (mx_isd str fl LB x (x :: t).length) + mx_nd str fl LB t = mx_cn str x + mx_cs str t
    rw [ih ht]
    congr 1
    unfold mx_isd mx_cn mx_b1
    by_cases a : x = 57
    · simp [a]
    · rcases hl with hl | hl
      · simp [a, hl]
      · have n1 : ¬ (x :: t).length = LB := by omega
        have n2 : (x :: t).length ≤ LB := by omega
        by_cases b : x = str ∧ str ≠ 0
        · have d : decide (x = str ∧ (x :: t).length ≤ LB ∧ str ≠ 0) = true := decide_eq_true ⟨b.1, n2, b.2⟩
          rw [d, decide_eq_false n1, decide_eq_false a, if_pos (Or.inr b)]
          simp
        · have d : decide (x = str ∧ (x :: t).length ≤ LB ∧ str ≠ 0) = false := decide_eq_false (fun q => b ⟨q.1, q.2.2⟩)
          have nn : ¬ (x = 57 ∨ x = str ∧ str ≠ 0) := fun q => q.elim a b
          rw [d, decide_eq_false a, if_neg nn]
          simp

/-- how wide the places are -/
theorem mx_pl_len {mon str : Int32} {neg fl : Bool} {FB FS LB : Nat} {came : Nat → Int32} (hz : str = 0 ∨ str = 90 ∨ str = 42 ∨ str = 43 ∨ str = 45 ∨ str = 202) : ∀ (t : List Int32) (dgt : Nat), (∀ y u, (y :: u) <:+ t → (y :: u).length ≤ FB → FS < (y :: u).length → mx_wide y = 1) → (mx_pl mon str neg fl FB FS LB came t dgt).length = mx_wid t := by
  intro t
  induction t with
  | nil => intro dgt _; rfl
  | cons y t ih =>
    intro dgt hw
    have hi := ih (dgt + mx_b1 (mx_isd str fl LB y (y :: t).length)) (fun x u hs => hw x u (hs.trans (List.suffix_cons y t)))
    show (mx_po mon str neg fl FB FS (mx_isd str fl LB y (y :: t).length) (if mx_isd str fl LB y (y :: t).length then came dgt else 0) y (y :: t).length ++ mx_pl mon str neg fl FB FS LB came t (dgt + mx_b1 (mx_isd str fl LB y (y :: t).length))).length = mx_wide y + mx_wid t
    rw [List.length_append, hi]
    congr 1
    unfold mx_po
    by_cases c : (y :: t).length ≤ FB ∧ FS < (y :: t).length
    · rw [if_pos c]
      exact (hw y t (List.suffix_refl _) c.1 c.2).symm
    · rw [if_neg c]
      by_cases d : mx_isd str fl LB y (y :: t).length = true
      · rw [if_pos d]
        unfold mx_isd at d
        simp only [Bool.or_eq_true, Bool.and_eq_true, decide_eq_true_eq] at d
        show 1 = mx_wide y
        rcases d with d | d
        · rw [d]; decide
        · rw [d.1.1]
          have h0 := d.1.2.2
          rcases hz with rfl | rfl | rfl | rfl | rfl | rfl
          · exact absurd rfl h0
          all_goals decide
      · rw [if_neg d, mx_plain_len]
theorem mx_suf_cmp {a b c : List Int32} (h1 : a <:+ c) (h2 : b <:+ c) (h : a.length ≤ b.length) : a <:+ b := List.suffix_of_suffix_length_le h1 h2 h
/-- what lies between the string's begin and where it is shown -/
theorem mx_sh_between {str : Int32} (hi : px_isI str = false) {fl : Bool} {came : Nat → Int32} : ∀ (r n : Nat) (t : List Int32), mx_upc t = t → (mx_all str t).1 = r → ∀ y u, (y :: u) <:+ t → (mx_sh fl came r n t).length < (y :: u).length → y = str ∨ px_isI y = true := by
  intro r
  induction r with
  | zero =>
    intro n t ht ha y u hs hl
    have := hs.length_le
    have e : mx_sh fl came 0 n t = t := rfl
    rw [e] at hl
    omega
  | succ r ih =>
    intro n t ht ha y u hs hl
    obtain ⟨v, rfl, hv⟩ := mx_all_cons hi ha ht
    have es : mx_sh fl came (r + 1) n (str :: v) = if (fl = false ∨ 1 ≤ n) ∧ came (n - mx_b1 fl) ≠ 0 then (str :: v) else mx_sh fl came r (n + 1) (mx_p1 (str :: v)) := rfl
    rw [es] at hl
    by_cases c : (fl = false ∨ 1 ≤ n) ∧ came (n - mx_b1 fl) ≠ 0
    · rw [if_pos c] at hl
      have := hs.length_le
      omega
    · rw [if_neg c] at hl
      have e1 : mx_p1 (str :: v) = mx_upc v := rfl
      rw [e1] at hl
      by_cases d : (y :: u).length ≤ (mx_upc v).length
      · have hs2 : (y :: u) <:+ mx_upc v := mx_suf_cmp hs (mx_upc_suf.trans (List.suffix_cons str v)) d
        exact ih (n + 1) (mx_upc v) mx_upc_upc hv y u hs2 hl
      · -- among the string's sign and the insertions behind it
        have hb : ∀ (w : List Int32) (y : Int32) (u : List Int32), (y :: u) <:+ w → (mx_upc w).length < (y :: u).length → px_isI y = true := by
          intro w
          induction w with
          | nil => intro y u hs _; have := hs.length_le; simp at this
          | cons x w ihw =>
            intro y u hs hl
            by_cases q : px_isI x = true
            · have e : mx_upc (x :: w) = mx_upc w := by rw [mx_upc, if_pos q]
              rw [e] at hl
              rcases List.suffix_cons_iff.mp hs with h1 | h1
              · cases h1; exact q
              · exact ihw y u h1 hl
            · have e : mx_upc (x :: w) = x :: w := by rw [mx_upc, if_neg q]
              rw [e] at hl
              have := hs.length_le
              omega
        rcases List.suffix_cons_iff.mp hs with h1 | h1
        · cases h1; exact Or.inl rfl
        · exact Or.inr (hb v y u h1 (by omega))
