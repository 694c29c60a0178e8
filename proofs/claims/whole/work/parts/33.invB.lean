/-! The inverters side by side. -/
theorem zMin_ref {x y : Int32} : zMin x y = if y ≤ x then y else x := by
  unfold zMin
  by_cases c : y < x
  · rw [if_pos c, if_pos (Int32.le_of_lt c)]
  · rw [if_neg c]
    by_cases d : y ≤ x
    · rw [if_pos d]
      exact Int32.le_antisymm (Int32.not_lt.mp c) d
    · rw [if_neg d]
theorem td8 (d : Int) : d - 7 ≤ 8 * d.tdiv 8 ∧ 8 * d.tdiv 8 ≤ d + 7 := by
  by_cases c : 0 ≤ d
  · rw [Int.tdiv_eq_ediv_of_nonneg c]; omega
  · have e : d.tdiv 8 = -((-d).tdiv 8) := by rw [Int.neg_tdiv, Int.neg_neg]
    rw [e, Int.tdiv_eq_ediv_of_nonneg (show 0 ≤ -d by omega)]; omega
theorem drI_b {x t p : Int32} (h1 : -1000000 ≤ x.toInt) (h2 : x.toInt ≤ 1000000) (t1 : 45000 ≤ t.toInt) (t2 : t.toInt ≤ 55000) (p1 : 0 ≤ p.toInt) (p2 : p.toInt ≤ 1000) : -1000000 ≤ (drI x t p).toInt ∧ (drI x t p).toInt ≤ 1000000 := by
  have h8 : (8 : Int32).toInt = 8 := rfl
  have e1 : (t - x).toInt = t.toInt - x.toInt := isb (by omega) (by omega)
  have e2 : ((t - x) / 8).toInt = (t.toInt - x.toInt).tdiv 8 := by
    rw [Int32.toInt_div_of_ne_right _ _ (by decide), e1, h8]
  have g := td8 (t.toInt - x.toInt)
  have e3 : (x + (t - x) / 8).toInt = x.toInt + (t.toInt - x.toInt).tdiv 8 := by
    rw [iad (by rw [e2]; omega) (by rw [e2]; omega), e2]
  unfold drI
  split
  · rw [isb (by rw [e3]; omega) (by rw [e3]; omega), e3]; omega
  · rw [iad (by rw [e3]; omega) (by rw [e3]; omega), e3]; omega
/-- what the two hold alike of the inverter -/
def RI (b q : Nat) (μ κ : zI) : Prop :=
  (μ (b + 13) 0 = κ (q + 7) 36 ∧ (κ (q + 7) 36 = 0 ∨ κ (q + 7) 36 = 1)) ∧ μ (b + 13) 1 = κ (q + 7) 37 ∧ μ (b + 13) 2 = κ (q + 7) 38 ∧ μ (b + 13) 3 = κ (q + 7) 39 ∧ μ (b + 13) 4 = κ (q + 7) 40 ∧ μ (b + 13) 5 = κ (q + 7) 41 ∧ μ (b + 13) 6 = κ (q + 7) 42 ∧
  (45000 ≤ (κ (q + 7) 38).toInt ∧ (κ (q + 7) 38).toInt ≤ 55000) ∧ (-1000000 ≤ (κ (q + 7) 39).toInt ∧ (κ (q + 7) 39).toInt ≤ 1000000)
theorem sim_run {b q : Nat} {μ κ : zI} {ν τ : zJ} (h : RI b q μ κ) (ht : ∀ k, k < 19 → μ (b + 2) k = κ (q + 7) k) (p1 : 0 ≤ (κ (q + 7) 9).toInt) (p2 : (κ (q + 7) 9).toInt ≤ 1000) {x : Int32} (hx : x = κ q 30 - κ q 32) : ∃ μ' κ' τ', E_Inverter_run b x μ ν = some (μ', ν) ∧ E_M_inverts q κ τ = some (κ', τ') ∧ (∀ r, r ≠ b + 13 → μ' r = μ r) ∧ (∀ r, r ≠ q + 7 → κ' r = κ r) ∧ (∀ k, k ≠ 36 → k ≠ 39 → k ≠ 40 → k ≠ 41 → k ≠ 42 → κ' (q + 7) k = κ (q + 7) k) ∧ RI b q μ' κ' ∧ ((μ' (b + 13) 7 = 0 ∧ τ' = τ) ∨ (μ' (b + 13) 7 = 1 ∧ τ' = zul τ (q + 9) 6 (τ (q + 9) 6 + 1))) := by
  obtain ⟨⟨h0, ho⟩, h1, h2, h3, h4, h5, h6, ⟨t1, t2⟩, r1, r2⟩ := h
  rcases ho with ho | ho
  · obtain ⟨μ', a1, a2, a3, a4, a5, a6, a7, a8⟩ := C_run_off (b := b) (μ := μ) (ν := ν) (x := x) (S := if κ (q + 7) 37 = 1 then κ (q + 7) 42 + 1 else 0) (h0.trans ho) (by rw [h1, h6])
    obtain ⟨κ', b1, b2, b3, b4, b5, b6, b7⟩ := M_inv_off (q := q) (κ := κ) (τ := τ) (S := if κ (q + 7) 37 = 1 then κ (q + 7) 42 + 1 else 0) (by rw [ho]; decide) rfl
    refine ⟨μ', κ', τ, a1, b1, a2, b2, b3, ?_, Or.inl ⟨a6, rfl⟩⟩
    have c1 := (a3 1 (by decide) (by decide) (by decide) (by decide) (by decide) (by decide)).trans (h1.trans (b3 37 (by decide) (by decide) (by decide) (by decide) (by decide)).symm)
    have c2 := (a3 2 (by decide) (by decide) (by decide) (by decide) (by decide) (by decide)).trans (h2.trans (b3 38 (by decide) (by decide) (by decide) (by decide) (by decide)).symm)
    have c3 : κ' (q + 7) 38 = κ (q + 7) 38 := b3 38 (by decide) (by decide) (by decide) (by decide) (by decide)
    rw [ht 10 (by decide)] at a7 a8
    by_cases c : (if κ (q + 7) 37 = 1 then κ (q + 7) 42 + 1 else 0) < κ (q + 7) 10
    · obtain ⟨d0, d3, d5⟩ := a7 c
      obtain ⟨e0, e3, e5⟩ := b6 c
      exact ⟨⟨d0.trans (e0.trans ho).symm, Or.inl (e0.trans ho)⟩, c1, c2, d3.trans (h3.trans e3.symm), a4.trans b4.symm, d5.trans (h5.trans e5.symm), a5.trans b5.symm, ⟨by rw [c3]; exact t1, by rw [c3]; exact t2⟩, by rw [e3]; exact r1, by rw [e3]; exact r2⟩
    · obtain ⟨d0, d3, d5⟩ := a8 c
      obtain ⟨e0, e3, e5⟩ := b7 c
      exact ⟨⟨d0.trans e0.symm, Or.inr e0⟩, c1, c2, d3.trans e3.symm, a4.trans b4.symm, d5.trans e5.symm, a5.trans b5.symm, ⟨by rw [c3]; exact t1, by rw [c3]; exact t2⟩, by rw [e3]; decide, by rw [e3]; decide⟩
  · generalize hR : (if κ (q + 7) 37 = 1 then (50000 : Int32) else drI (κ (q + 7) 39) (κ (q + 7) 38) (κ (q + 7) 9)) = R
    have hRb : -1000000 ≤ R.toInt ∧ R.toInt ≤ 1000000 := by
      rw [← hR]
      split
      · decide
      · exact drI_b r1 r2 t1 t2 p1 p2
    generalize hS : (if zAbs (R - 50000) ≤ κ (q + 7) 7 then 0 else κ (q + 7) 41 + 1) = S
    have hS2 : S = if (if κ (q + 7) 7 < R - 50000 then (1 : Int32) else if 50000 - R ≤ κ (q + 7) 7 then 0 else 1) = 0 then 0 else κ (q + 7) 41 + 1 := by
      rw [← far_eq hRb.1 hRb.2, ← hS]
      by_cases c : zAbs (R - 50000) ≤ κ (q + 7) 7
      · rw [if_pos c, if_pos c, if_pos rfl]
      · rw [if_neg c, if_neg c, if_neg one_ne_0]
    obtain ⟨μ', a1, a2, a3, a4, a5, a6⟩ := C_run_on (b := b) (μ := μ) (ν := ν) (x := x) (R := R) (S := S) (by rw [h0, ho]; decide) (by rw [h1, h3, h2, ht 9 (by decide)]; exact hR.symm) (by rw [ht 7 (by decide), h5]; exact hS.symm)
    obtain ⟨κ', τ', b1, b2, b3, b4, b5, b6⟩ := M_inv_on (q := q) (κ := κ) (τ := τ) ho hR.symm hS2
    have c1 := (a3 1 (by decide) (by decide) (by decide) (by decide) (by decide) (by decide)).trans (h1.trans (b3 37 (by decide) (by decide) (by decide) (by decide) (by decide)).symm)
    have c2 := (a3 2 (by decide) (by decide) (by decide) (by decide) (by decide) (by decide)).trans (h2.trans (b3 38 (by decide) (by decide) (by decide) (by decide) (by decide)).symm)
    have c3 : κ' (q + 7) 38 = κ (q + 7) 38 := b3 38 (by decide) (by decide) (by decide) (by decide) (by decide)
    rw [ht 8 (by decide)] at a5 a6
    by_cases c : S < κ (q + 7) 8
    · obtain ⟨d0, d4, d5, d6, d7⟩ := a5 c
      obtain ⟨e, e0, e4, e5, e6⟩ := b5 c
      refine ⟨μ', κ', τ', a1, b1, a2, b2, b3, ⟨⟨d0.trans (h0.trans (ho.trans e0.symm)), Or.inr e0⟩, c1, c2, a4.trans b4.symm, ?_, d5.trans e5.symm, d6.trans (h6.trans e6.symm), ⟨by rw [c3]; exact t1, by rw [c3]; exact t2⟩, by rw [b4]; exact hRb.1, by rw [b4]; exact hRb.2⟩, Or.inl ⟨d7, e⟩⟩
      rw [d4, e4, zMin_ref, h4, ht 11 (by decide), hx]
    · obtain ⟨d0, d4, d5, d6, d7⟩ := a6 c
      obtain ⟨e, e0, e4, e5, e6⟩ := b6 c
      exact ⟨μ', κ', τ', a1, b1, a2, b2, b3, ⟨⟨d0.trans e0.symm, Or.inl e0⟩, c1, c2, a4.trans b4.symm, d4.trans e4.symm, d5.trans e5.symm, d6.trans e6.symm, ⟨by rw [c3]; exact t1, by rw [c3]; exact t2⟩, by rw [b4]; exact hRb.1, by rw [b4]; exact hRb.2⟩, Or.inr ⟨d7, e⟩⟩
