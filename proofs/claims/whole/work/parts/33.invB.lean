/-! The inverters side by side. -/
theorem zMin_ref {x y : Int32} : zMin x y = if y ≤ x then y else x := by
  unfold zMin
  by_cases c : y < x
  · rw [if_pos c, if_pos (Int32.le_of_lt c)]
  · rw [if_neg c]
    by_cases d : y ≤ x
    · rw [if_pos d]
      exact Int32.le_antisymm (Int32.not_lt.mp c) d
    · rw [if_neg d]
theorem td8 (d : Int) : d - 7 ≤ 8 * d.tdiv 8 ∧ 8 * d.tdiv 8 ≤ d + 7 := by
  by_cases c : 0 ≤ d
  · rw [Int.tdiv_eq_ediv_of_nonneg c]; omega
  · have e : d.tdiv 8 = -((-d).tdiv 8) := by rw [Int.neg_tdiv, Int.neg_neg]
    rw [e, Int.tdiv_eq_ediv_of_nonneg (show 0 ≤ -d by omega)]; omega
theorem drI_b {x t p : Int32} (h1 : -1000000 ≤ x.toInt) (h2 : x.toInt ≤ 1000000) (t1 : 45000 ≤ t.toInt) (t2 : t.toInt ≤ 55000) (p1 : 0 ≤ p.toInt) (p2 : p.toInt ≤ 1000) : -1000000 ≤ (drI x t p).toInt ∧ (drI x t p).toInt ≤ 1000000 := by
  have h8 : (8 : Int32).toInt = 8 := rfl
  have e1 : (t - x).toInt = t.toInt - x.toInt := isb (by omega) (by omega)
  have e2 : ((t - x) / 8).toInt = (t.toInt - x.toInt).tdiv 8 := by
    rw [Int32.toInt_div_of_ne_right _ _ (by decide), e1, h8]
  have g := td8 (t.toInt - x.toInt)
  have e3 : (x + (t - x) / 8).toInt = x.toInt + (t.toInt - x.toInt).tdiv 8 := by
    rw [iad (by rw [e2]; omega) (by rw [e2]; omega), e2]
  unfold drI
  split
  · rw [isb (by rw [e3]; omega) (by rw [e3]; omega), e3]; omega
  · rw [iad (by rw [e3]; omega) (by rw [e3]; omega), e3]; omega
