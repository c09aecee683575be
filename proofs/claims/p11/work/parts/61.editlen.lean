/-! THE CLASS, PURE: no result is longer than 200 places. -/
theorem px_amt_le {hdn neg : Bool} {dig : Nat → Int32} {fill ss : Int32} {fl : Bool} : ∀ (t : List px_Rn) (s : px_ES), s.2.2.2.2.1 ≤ 200 → (px_amt hdn neg dig fill ss fl t s).2.2.2.2.1 ≤ 200
  | [], _, h => h
  | x :: t, s, h => px_amt_le t (px_iter (px_oneS hdn neg dig fill ss fl x.1) x.2 s) (px_iter_le x.2 s h).1
theorem px_lin_le {xs : List Int32} : ∀ (t : List px_Rn) (q : Nat × px_RS), q.2.1 ≤ 200 → (px_lin xs t q).2.1 ≤ 200
  | [], _, h => h
  | x :: t, q, h => px_lin_le t (px_iter (px_lStep xs x.1) x.2 q) (px_iterL_le x.2 q h).1
theorem px_editS_le {cur : Int32} {v : Int64} {d : Nat} {bw sz : Bool} {pic txt : List Int32} {r0 : px_RS} (h : r0.1 ≤ 200) : (px_editS cur v d bw sz pic txt r0).2.2.2.2.1 ≤ 200 := by
  unfold px_editS
  rcases px_kindOf cur pic with _ | ⟨rs, _ | q⟩
  · exact h
  · by_cases c : px_plc rs ≤ 200
    · simp only [if_pos c]
      exact px_lin_le rs (0, r0) h
    · simp only [if_neg c]
      exact h
  · by_cases c : px_plc rs ≤ 200
    · simp only [if_pos c]
      split
      · exact h
      · exact px_amt_le rs _ h
    · simp only [if_neg c]
      exact h
