/-! Class and reference side by side: the panel, and what is asked of it. -/
/-- a question may change this much of the reference -/
def mQ (q : Nat) (κ κ' : zI) : Prop := (∀ r, r ≠ q → r ≠ q + 7 → κ' r = κ r) ∧ (∀ k, k ≠ 0 → k ≠ 33 → k ≠ 34 → κ' q k = κ q k) ∧ ∀ k, k ≠ 143 → k ≠ 144 → k ≠ 145 → κ' (q + 7) k = κ (q + 7) k
theorem mQ.rf {q : Nat} {κ : zI} : mQ q κ κ := ⟨fun _ _ _ => rfl, fun _ _ _ _ => rfl, fun _ _ _ _ => rfl⟩
theorem mQ.tr {q : Nat} {κ κ1 κ2 : zI} (h : mQ q κ κ1) (h1 : mQ q κ1 κ2) : mQ q κ κ2 := ⟨fun r a b => (h1.1 r a b).trans (h.1 r a b), fun k a b c => (h1.2.1 k a b c).trans (h.2.1 k a b c), fun k a b c => (h1.2.2 k a b c).trans (h.2.2 k a b c)⟩
theorem mQ.of {q : Nat} {κ κ1 : zI} (h : mSame q κ κ1) : mQ q κ κ1 := ⟨fun r _ b => h.1 r b, fun k _ _ _ => by rw [h.1 q (by omega)], h.2⟩
theorem mQ.th {q : Nat} {κ : zI} {v : Int32} : mQ q κ (zu κ q 0 v) := ⟨fun r a _ => zu_off _ _ _ _ a, fun k a _ _ => by rw [zu_eq, if_neg (fun e => a e.2)], fun k _ _ _ => by rw [zu_eq, if_neg (by omega)]⟩
theorem mQ.lit {q : Nat} {κ κ' : zI} (h : mQ q κ κ') : mLit q κ' = mLit q κ := by
  funext i
  unfold mLit
  by_cases hi : i < 6
  · rw [if_pos hi, if_pos hi, h.1 (q + 4) (by omega) (by omega), h.2.2 (19 + i) (by omega) (by omega) (by omega)]
  · rw [if_neg hi, if_neg hi]
/-- the panel of the station at b, and the reference's -/
def RP (b q n : Nat) (μ κ : zI) : Prop :=
  n ≤ 6 ∧ μ (b + 3) 0 = nI n ∧ κ q 9 = nI n ∧
  (∀ i, i < n → μ (b + 4) i = κ (q + 4) i ∧ μ (b + 5) i = κ (q + 5) i ∧ μ (b + 6) i = κ (q + 7) (19 + i) ∧ μ (b + 7) i = mLit q κ i) ∧
  (∀ i, i < n → 1 ≤ (κ (q + 4) i).toInt ∧ (κ (q + 4) i).toInt ≤ 999 ∧ 1 ≤ (κ (q + 5) i).toInt ∧ (κ (q + 5) i).toInt ≤ 999 ∧ 0 ≤ (κ (q + 7) (19 + i)).toInt ∧ (κ (q + 7) (19 + i)).toInt ≤ 100) ∧
  (∀ x, x < 1000 → μ (b + 8) x = pP (mLit q κ) (κ (q + 5)) n (nI x)) ∧
  μ (b + 3) 2 = (pB (mLit q κ) (κ (q + 5)) n 1000).1 ∧ μ (b + 3) 1 = (pB (mLit q κ) (κ (q + 5)) n 1000).2 ∧ mKn q n κ
theorem lit_b {a l : Int32} (h1 : 1 ≤ a.toInt) (h2 : a.toInt ≤ 999) (h3 : 0 ≤ l.toInt) (h4 : l.toInt ≤ 100) : (a * l / 100).toInt = a.toInt * l.toInt / 100 ∧ 0 ≤ (a * l / 100).toInt ∧ (a * l / 100).toInt ≤ a.toInt := by
  have b1 : 0 ≤ a.toInt * l.toInt := Int.mul_nonneg (by omega) h3
  have b2 : a.toInt * l.toInt ≤ a.toInt * 100 := Int.mul_le_mul_of_nonneg_left h4 (by omega)
  have e1 : (a * l).toInt = a.toInt * l.toInt := imu (by omega) (by omega)
  have e2 : (a * l / 100).toInt = a.toInt * l.toInt / 100 := by
    rw [idv (by rw [e1]; exact b1) (by decide), e1]
    rfl
  refine ⟨e2, ?_, ?_⟩
  · rw [e2]; omega
  · rw [e2]; omega
theorem RP.ok {b q n : Nat} {μ κ : zI} (h : RP b q n μ κ) : pOK (mLit q κ) (κ (q + 5)) n := by
  obtain ⟨h1, -, -, -, h5, -⟩ := h
  refine ⟨h1, fun i hi => ?_⟩
  obtain ⟨a1, a2, a3, a4, a5, a6⟩ := h5 i hi
  have := lit_b a1 a2 a5 a6
  have e : mLit q κ i = κ (q + 4) i * κ (q + 7) (19 + i) / 100 := by rw [mLit, if_pos (by omega)]
  rw [e]
  exact ⟨this.2.1, by omega, a3, a4⟩
theorem pV_congr {lit vo lit' vo' : Nat → Int32} {x : Int32} : ∀ k, (∀ i, i < k → lit i = lit' i ∧ vo i = vo' i) → pV lit vo x k = pV lit' vo' x k := by
  intro k
  induction k with
  | zero => intro _; rfl
  | succ k ih =>
    intro h
    rw [pV, pV, ih (fun i hi => h i (by omega)), (h k (by omega)).1, (h k (by omega)).2]
theorem pP_congr {lit vo lit' vo' : Nat → Int32} {n : Nat} (h : ∀ i, i < n → lit i = lit' i ∧ vo i = vo' i) (x : Int32) : pP lit vo n x = pP lit' vo' n x := by rw [pP, pP, pV_congr n h]
theorem pB_congr {lit vo lit' vo' : Nat → Int32} {n : Nat} (h : ∀ i, i < n → lit i = lit' i ∧ vo i = vo' i) : ∀ k, pB lit vo n k = pB lit' vo' n k := by
  intro k
  induction k with
  | zero => rfl
  | succ k ih => rw [pB, pB, ih, pP_congr h]
theorem pOK_congr {lit vo lit' vo' : Nat → Int32} {n : Nat} (h : ∀ i, i < n → lit i = lit' i ∧ vo i = vo' i) (hk : pOK lit' vo' n) : pOK lit vo n := ⟨hk.1, fun i hi => by rw [(h i hi).1, (h i hi).2]; exact hk.2 i hi⟩
theorem RP.eqs {b q n : Nat} {μ κ : zI} (h : RP b q n μ κ) : ∀ i, i < n → μ (b + 7) i = mLit q κ i ∧ μ (b + 5) i = κ (q + 5) i := fun i hi => ⟨(h.2.2.2.1 i hi).2.2.2, (h.2.2.2.1 i hi).2.1⟩
theorem RP.okC {b q n : Nat} {μ κ : zI} (h : RP b q n μ κ) : pOK (μ (b + 7)) (μ (b + 5)) n := pOK_congr h.eqs h.ok
theorem RP.q {b q n : Nat} {μ κ κ' : zI} (h : RP b q n μ κ) (hq : mQ q κ κ') (hk : mKn q n κ') : RP b q n μ κ' := by
  obtain ⟨h1, h2, h3, h4, h5, h6, h7, h8, -⟩ := h
  have e4 : κ' (q + 4) = κ (q + 4) := hq.1 _ (by omega) (by omega)
  have e5 : κ' (q + 5) = κ (q + 5) := hq.1 _ (by omega) (by omega)
  have e7 : ∀ i, i < n → κ' (q + 7) (19 + i) = κ (q + 7) (19 + i) := fun i hi => hq.2.2 _ (by omega) (by omega) (by omega)
  refine ⟨h1, h2, by rw [hq.2.1 9 (by omega) (by omega) (by omega)]; exact h3, fun i hi => ?_, fun i hi => ?_, fun x hx => ?_, ?_, ?_, hk⟩
  · rw [e4, e5, e7 i hi, hq.lit]; exact h4 i hi
  · rw [e4, e5, e7 i hi]; exact h5 i hi
  · rw [hq.lit, e5]; exact h6 x hx
  · rw [hq.lit, e5]; exact h7
  · rw [hq.lit, e5]; exact h8
theorem mKn.q {q n : Nat} {κ κ' : zI} (h : mKn q n κ) (hq : mQ q κ κ') (h3 : ∀ k, k = 143 ∨ k = 144 ∨ k = 145 → κ' (q + 7) k = κ (q + 7) k) : mKn q n κ' := by
  intro hk
  rw [h3 145 (by omega)] at hk
  rw [h3 144 (by omega), h3 143 (by omega), hq.lit, hq.1 (q + 5) (by omega) (by omega)]
  exact h hk
theorem mKn.th {q n : Nat} {κ : zI} {v : Int32} (h : mKn q n κ) : mKn q n (zu κ q 0 v) := h.q mQ.th (fun k _ => by rw [zu_eq, if_neg (by omega)])
theorem RP.th {b q n : Nat} {μ κ : zI} {v : Int32} (h : RP b q n μ κ) : RP b q n μ (zu κ q 0 v) := h.q mQ.th h.2.2.2.2.2.2.2.2.th
/-! ## small helpers -/
theorem S_in {x lo hi : Int32} {μ : zI} {ν : zJ} (h1 : ¬ x < lo) (h2 : ¬ hi < x) : E_S_isWithin x lo hi μ ν = some (1, μ, ν) := by
  rw [E_S_isWithin, e_S_isWithin_0, if_neg h1, if_neg h2, e_S_isWithin_15, if_pos (show zb 1 = true from rfl)]
theorem S_out {x lo hi : Int32} {μ : zI} {ν : zJ} (h : x < lo ∨ hi < x) : E_S_isWithin x lo hi μ ν = some (0, μ, ν) := by
  rw [E_S_isWithin, e_S_isWithin_0, e_S_isWithin_14, e_S_isWithin_15, if_pos (show zb 0 = true from rfl)]
  by_cases c : x < lo
  · rw [if_pos c]
  · rw [if_neg c, if_pos (h.resolve_left c)]
theorem P_in {k : Nat} {μ : zI} {ν : zJ} (h : k < 1000) : E_Panel_isPoint (nI k) μ ν = some (1, μ, ν) := by
  rw [E_Panel_isPoint, e_Panel_isPoint_0, if_neg (nI_pos (by omega)), if_neg (lge (c := 1000) (k := k) 1000 rfl h (by decide)), e_Panel_isPoint_16, if_pos (show zb 1 = true from rfl)]
theorem P_out {x : Int32} {μ : zI} {ν : zJ} (h : x < 0 ∨ (1000 : Int32) ≤ x) : E_Panel_isPoint x μ ν = some (0, μ, ν) := by
  rw [E_Panel_isPoint, e_Panel_isPoint_0, e_Panel_isPoint_15, e_Panel_isPoint_16, if_pos (show zb 0 = true from rfl)]
  by_cases c : x < 0
  · rw [if_pos c]
  · rw [if_neg c, if_pos (h.resolve_left c)]
theorem MP_in {k : Nat} {μ : zI} {ν : zJ} (h : k < 1000) : E_M_isPoint (nI k) μ ν = some (1, μ, ν) := by
  rw [E_M_isPoint, e_M_isPoint_0, if_neg (nI_pos (by omega)), if_neg (lge (c := 1000) (k := k) 1000 rfl h (by decide)), e_M_isPoint_16, if_pos (show zb 1 = true from rfl)]
theorem MP_out {x : Int32} {μ : zI} {ν : zJ} (h : x < 0 ∨ (1000 : Int32) ≤ x) : E_M_isPoint x μ ν = some (0, μ, ν) := by
  rw [E_M_isPoint, e_M_isPoint_0, e_M_isPoint_15, e_M_isPoint_16, if_pos (show zb 0 = true from rfl)]
  by_cases c : x < 0
  · rw [if_pos c]
  · rw [if_neg c, if_pos (h.resolve_left c)]
/-- a point or none -/
theorem pt_or (x : Int32) : (x < 0 ∨ (1000 : Int32) ≤ x) ∨ ∃ k, k < 1000 ∧ x = nI k := by
  rcases pk_ix x (n := 1000) (by decide) with h | h | h
  · exact Or.inl (Or.inl h)
  · exact Or.inl (Or.inr h)
  · exact Or.inr h
theorem n10 : ((1 : Int32) = 0) = False := eq_false (by decide)
theorem t00 : ((0 : Int32) = 0) = True := eq_true rfl
/-! ## what is asked -/
theorem sim_volts {q n : Nat} {μ κ : zI} {ν τ : zJ} (h : RP 4 q n μ κ) (x : Int32) : ∃ r κ', E_S_volts x μ ν = some (r, μ, ν) ∧ E_M_volts q x κ τ = some (r, κ', τ) ∧ mQ q κ κ' ∧ mKn q n κ' := by
  have h0 : RP 4 q n μ (zu κ q 0 0) := h.th
  rw [E_S_volts, e_S_volts_0, E_M_volts, e_M_volts_0]
  simp only [zlet]
  rcases pt_or x with c | ⟨k, hk, rfl⟩
  · rw [P_out c, MP_out c]
    simp only [Option.bind_some, t00, if_true, e_S_volts_22, e_M_volts_21]
    exact ⟨_, _, rfl, rfl, mQ.th, h0.2.2.2.2.2.2.2.2⟩
  · have hx : 0 ≤ (nI k).toInt := by rw [nIt (by omega)]; omega
    rw [P_in hk, MP_in hk]
    simp only [Option.bind_some, n10, if_false]
    rw [C_voltsAt_eq h.2.1 hx h.okC, M_voltsAt_eq h0.2.2.1 hx h0.ok]
    simp only [Option.bind_some, e_S_volts_22, e_M_volts_21]
    refine ⟨_, _, rfl, ?_, mQ.th, h0.2.2.2.2.2.2.2.2⟩
    rw [pV_congr n h0.eqs]
theorem RP.pw {b q n : Nat} {μ κ : zI} {ν τ : zJ} (h : RP b q n μ κ) {k : Nat} (hk : k < 1000) : E_Panel_powerAt b (nI k) μ ν = some (pP (mLit q κ) (κ (q + 5)) n (nI k), μ, ν) ∧ E_M_powerAt q (nI k) κ τ = some (pP (mLit q κ) (κ (q + 5)) n (nI k), κ, τ) := by
  refine ⟨?_, M_powerAt_eq h.2.2.1 (by rw [nIt (by omega)]; omega) h.ok⟩
  rw [C_powerAt_eq hk, h.2.2.2.2.2.1 k hk]
theorem sim_power {q n : Nat} {μ κ : zI} {ν τ : zJ} (h : RP 4 q n μ κ) (x : Int32) : ∃ r κ', E_S_power x μ ν = some (r, μ, ν) ∧ E_M_power q x κ τ = some (r, κ', τ) ∧ mQ q κ κ' ∧ mKn q n κ' := by
  have h0 : RP 4 q n μ (zu κ q 0 0) := h.th
  rw [E_S_power, e_S_power_0, E_M_power, e_M_power_0]
  simp only [zlet]
  rcases pt_or x with c | ⟨k, hk, rfl⟩
  · rw [P_out c, MP_out c]
    simp only [Option.bind_some, t00, if_true, e_S_power_22, e_M_power_21]
    exact ⟨_, _, rfl, rfl, mQ.th, h0.2.2.2.2.2.2.2.2⟩
  · rw [P_in hk, MP_in hk]
    simp only [Option.bind_some, n10, if_false]
    rw [(h0.pw (τ := τ) hk).1, (h0.pw (ν := ν) hk).2]
    simp only [Option.bind_some, e_S_power_22, e_M_power_21]
    exact ⟨_, _, rfl, rfl, mQ.th, h0.2.2.2.2.2.2.2.2⟩
theorem sim_slope {q n : Nat} {μ κ : zI} {ν τ : zJ} (h : RP 4 q n μ κ) (x : Int32) : ∃ r κ', E_S_slope x μ ν = some (r, μ, ν) ∧ E_M_slope q x κ τ = some (r, κ', τ) ∧ mQ q κ κ' ∧ mKn q n κ' := by
  have h0 : RP 4 q n μ (zu κ q 0 0) := h.th
  rw [E_S_slope, e_S_slope_0, E_M_slope, e_M_slope_0]
  simp only [zlet]
  rcases pt_or x with c | ⟨k, hk, rfl⟩
  · rw [P_out c]
    simp only [Option.bind_some, t00, if_true, e_S_slope_16]
    by_cases c0 : x < 0
    · rw [if_pos c0, e_M_slope_32, e_M_slope_35]
      exact ⟨_, _, rfl, rfl, mQ.th, h0.2.2.2.2.2.2.2.2⟩
    · have c1 : (999 : Int32) ≤ x := by
        have := ile.mp (c.resolve_left c0)
        rw [show (1000 : Int32).toInt = 1000 from rfl] at this
        rw [ile, show (999 : Int32).toInt = 999 from rfl]
        omega
      rw [if_neg c0, if_pos c1, e_M_slope_32, e_M_slope_35]
      exact ⟨_, _, rfl, rfl, mQ.th, h0.2.2.2.2.2.2.2.2⟩
  · rw [P_in hk, nI_1, if_neg (nI_pos (show k < 2 ^ 31 by omega))]
    simp only [Option.bind_some, n10, if_false]
    by_cases c : k < 999
    · rw [P_in (show k + 1 < 1000 by omega), if_neg (lge (c := 999) (k := k) 999 rfl c (by decide)), (h0.pw (ν := ν) (show k + 1 < 1000 by omega)).2]
      simp only [Option.bind_some, n10, if_false]
      rw [(h0.pw (τ := τ) (show k + 1 < 1000 by omega)).1, (h0.pw (ν := ν) hk).2]
      simp only [Option.bind_some]
      rw [(h0.pw (τ := τ) hk).1]
      simp only [Option.bind_some, e_M_slope_35]
      exact ⟨_, _, rfl, rfl, mQ.th, h0.2.2.2.2.2.2.2.2⟩
    · have : k = 999 := by omega
      subst this
      rw [P_out (x := nI (999 + 1)) (Or.inr (by decide)), if_pos (show (999 : Int32) ≤ nI 999 by decide), e_M_slope_32, e_M_slope_35]
      simp only [Option.bind_some, t00, if_true, e_S_slope_16]
      exact ⟨_, _, rfl, rfl, mQ.th, h0.2.2.2.2.2.2.2.2⟩
theorem sim_best {q n : Nat} {μ κ : zI} {ν τ : zJ} (h : RP 4 q n μ κ) (x : Int32) : ∃ r κ', E_S_best x μ ν = some (r, μ, ν) ∧ E_M_best q x κ τ = some (r, κ', τ) ∧ mQ q κ κ' ∧ mKn q n κ' := by
  have h0 : RP 4 q n μ (zu κ q 0 0) := h.th
  obtain ⟨κ2, g1, g2, g3, g4, g5⟩ := M_finds_eq (τ := τ) h0.2.2.1 h0.ok h0.2.2.2.2.2.2.2.2
  have hq : mQ q κ κ2 := mQ.th.tr (mQ.of g2)
  have hk : mKn q n κ2 := by
    intro _
    rw [g2.lit, g2.1 (q + 5) (by omega)]
    exact ⟨g3, g4⟩
  rw [E_S_best, e_S_best_0, E_M_best, e_M_best_0]
  simp only [zlet]
  rw [g1, Option.bind_some]
  by_cases c0 : x = 0
  · rw [if_pos c0, if_pos c0, e_M_best_41]
    refine ⟨_, κ2, rfl, ?_, hq, hk⟩
    show some (κ2 (q + 7) 143, κ2, τ) = _
    rw [g4, h0.2.2.2.2.2.2.2.1]
  · rw [if_neg c0, if_neg c0]
    by_cases c1 : x = 1
    · rw [if_pos c1, if_pos c1, e_M_best_41]
      refine ⟨_, κ2, rfl, ?_, hq, hk⟩
      show some (κ2 (q + 7) 144, κ2, τ) = _
      rw [g3, h0.2.2.2.2.2.2.1]
    · rw [if_neg c1, if_neg c1, e_M_best_41]
      exact ⟨_, κ2, rfl, rfl, hq, hk⟩
