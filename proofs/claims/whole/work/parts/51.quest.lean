/-! The questions, over the whole relation. -/
theorem RLg.lg {q : Nat} {μ κ : zI} (h : RLg q μ κ) : ∃ m t, LG q m t μ κ := by
  obtain ⟨m, t, h⟩ := h
  exact ⟨m, t, h⟩
theorem sim_past {q : Nat} (k w : Int32) : Sim q (E_S_past k w) (E_M_past q k w) := by
  intro n c x μ ν κ τ h
  obtain ⟨κ0, hκ0⟩ : ∃ κ0, κ0 = zu κ q 0 0 := ⟨_, rfl⟩
  have h0 : RR q n c x μ ν κ0 τ := hκ0 ▸ h.th
  obtain ⟨m, t, hL⟩ := h0.2.1.lg
  have h100 := hL.1
  by_cases c0 : k < 0
  · exact ⟨-1, n, c, x, μ, ν, κ0, τ, by rw [E_S_past, e_S_past_0, if_pos c0, e_S_past_14], by rw [E_M_past, e_M_past_0, zlet_eq, if_pos c0, e_M_past_19, hκ0], h0⟩
  · obtain ⟨i, hi, e⟩ := nI_of c0
    subst e
    rcases rg_or w 9 (by decide) with o | ⟨j, hj, e⟩
    · refine ⟨-1, n, c, x, μ, ν, κ0, τ, by rw [E_S_past, e_S_past_0, if_neg c0, ob_eq (S_out (show w < 0 ∨ 9 < w from o)), if_pos rfl, e_S_past_14], ?_, h0⟩
      rw [E_M_past, e_M_past_0, zlet_eq, if_neg c0, e_M_past_19, ← hκ0]
      rcases o with o | o
      · rw [if_pos o]
      · rw [if_neg (Int32.not_le.mpr (show (9 : Int32) < w from o)), ite_self]
    · subst e
      have hin : E_S_isWithin (nI j) 0 9 μ ν = some (1, μ, ν) := S_in (nI_pos (by omega)) (show ¬ (9 : Int32) < nI j from nI_nlt (a := 9) (by omega) (by omega))
      have m34 : μ 34 0 = nI m := hL.2.2.1
      have sC : E_S_past (nI i) (nI j) μ ν = if nI m ≤ nI i then some (-2, μ, ν) else Option.bind (E_Log_get (nI i) (nI j) μ ν) fun ty6 => e_S_past_41 (nI i) (nI j) ty6.1 ty6.2.1 ty6.2.2 := by
        rw [E_S_past, e_S_past_0, if_neg c0, ob_eq hin, if_neg one_ne_0, e_S_past_41]
        simp only [m34]
      have sM : E_M_past q (nI i) (nI j) κ τ = if nI m ≤ nI i then some (-2, κ0, τ) else (if zin ((10 * nI i) + nI j) 1000 = true then some (κ0 (q + 11) (Int32.toNatClampNeg ((10 * nI i) + nI j)), κ0, τ) else none) := by
        rw [E_M_past, e_M_past_0, zlet_eq, if_neg c0, if_neg (nI_pos (by omega)), if_pos (show nI j ≤ 9 from nI_le (b := 9) (by omega) (by decide)), ← hκ0, hL.2.2.2.2.1, e_M_past_45, e_M_past_45]
      by_cases d : m ≤ i
      · rw [if_pos (nI_le d hi)] at sC sM
        exact ⟨-2, n, c, x, μ, ν, _, τ, sC, sM, h0⟩
      · rw [if_neg (nI_ge (by omega) (by omega))] at sC sM
        obtain ⟨i1, i2, i3⟩ := LG.idx (i := i) (w := j) (by omega) (by omega)
        rw [ob_eq (hL.get (by omega) (by omega)), e_S_past_41] at sC
        rw [i1, if_pos i2, i3] at sM
        exact ⟨_, n, c, x, μ, ν, _, τ, sC, sM, h0⟩
theorem sim_near {q : Nat} (p : Int32) : Sim q (E_S_near p) (E_M_near q p) := by
  intro n c x μ ν κ τ h
  obtain ⟨κ0, hκ0⟩ : ∃ κ0, κ0 = zu κ q 0 0 := ⟨_, rfl⟩
  have h0 : RR q n c x μ ν κ0 τ := hκ0 ▸ h.th
  obtain ⟨m, t, hL⟩ := h0.2.1.lg
  have h100 := hL.1
  by_cases o : p < 0 ∨ 100 < p
  · exact ⟨-1, n, c, x, μ, ν, κ0, τ, by rw [E_S_near, e_S_near_0, ob_eq (S_out o), if_pos rfl], by rw [E_M_near, e_M_near_0, zlet_eq, ob_eq (M_part_out o), if_pos rfl, hκ0], h0⟩
  · have c1 : ¬ p < 0 := fun g => o (Or.inl g)
    have c2 : ¬ 100 < p := fun g => o (Or.inr g)
    obtain ⟨r, a1, a2⟩ := near_f (ν := ν) (τ := τ) hL (ile.mp (Int32.not_lt.mp c1)) (ile.mp (Int32.not_lt.mp c2)) m 0 zFuel zFuel 0 (by omega) (by unfold zFuel; omega) (by unfold zFuel; omega)
    refine ⟨r, n, c, x, μ, ν, κ0, τ, ?_, ?_, h0⟩
    · rw [E_S_near, e_S_near_0, ob_eq (S_in c1 c2), if_neg one_ne_0]
      exact a1
    · rw [E_M_near, e_M_near_0, zlet_eq, ← hκ0, ob_eq (M_part_in c1 c2), if_neg one_ne_0]
      exact a2
theorem sim_away {q : Nat} (p : Int32) : Sim q (E_S_longestAway p) (E_M_longestAway q p) := by
  intro n c x μ ν κ τ h
  obtain ⟨κ0, hκ0⟩ : ∃ κ0, κ0 = zu κ q 0 0 := ⟨_, rfl⟩
  have h0 : RR q n c x μ ν κ0 τ := hκ0 ▸ h.th
  obtain ⟨m, t, hL⟩ := h0.2.1.lg
  have h100 := hL.1
  by_cases o : p < 0 ∨ 100 < p
  · exact ⟨-1, n, c, x, μ, ν, κ0, τ, by rw [E_S_longestAway, e_S_longestAway_0, ob_eq (S_out o), if_pos rfl], by rw [E_M_longestAway, e_M_longestAway_0, zlet_eq, ob_eq (M_part_out o), if_pos rfl, hκ0], h0⟩
  · have c1 : ¬ p < 0 := fun g => o (Or.inl g)
    have c2 : ¬ 100 < p := fun g => o (Or.inr g)
    obtain ⟨r, a1, a2⟩ := away_f (ν := ν) (τ := τ) hL (ile.mp (Int32.not_lt.mp c1)) (ile.mp (Int32.not_lt.mp c2)) m 0 zFuel zFuel 0 0 (by omega) (by unfold zFuel; omega) (by unfold zFuel; omega)
    refine ⟨r, n, c, x, μ, ν, κ0, τ, ?_, ?_, h0⟩
    · rw [E_S_longestAway, e_S_longestAway_0, ob_eq (S_in c1 c2), if_neg one_ne_0]
      exact a1
    · rw [E_M_longestAway, e_M_longestAway_0, zlet_eq, ← hκ0, ob_eq (M_part_in c1 c2), if_neg one_ne_0]
      exact a2
theorem sim_ripple {q : Nat} (w : Int32) : Sim q (E_S_ripple w) (E_M_ripple q w) := by
  intro n c x μ ν κ τ h
  obtain ⟨κ0, hκ0⟩ : ∃ κ0, κ0 = zu κ q 0 0 := ⟨_, rfl⟩
  have h0 : RR q n c x μ ν κ0 τ := hκ0 ▸ h.th
  obtain ⟨m, t, hL⟩ := h0.2.1.lg
  have h100 := hL.1
  have m34 : μ 34 0 = nI m := hL.2.2.1
  have bad : (w < 1 ∨ 100 < w) → E_M_ripple q w κ τ = some (-1, κ0, τ) → ∃ (r : Int32) (n' c' x' : Nat) (μ' : zI) (ν' : zJ) (κ' : zI) (τ' : zJ), E_S_ripple w μ ν = some (r, μ', ν') ∧ E_M_ripple q w κ τ = some (r, κ', τ') ∧ RR q n' c' x' μ' ν' κ' τ' := fun o e2 => ⟨-1, n, c, x, μ, ν, κ0, τ, by rw [E_S_ripple, e_S_ripple_0, ob_eq (S_out o), if_pos rfl], e2, h0⟩
  by_cases c1 : w < 1
  · exact bad (Or.inl c1) (by rw [E_M_ripple, e_M_ripple_0, zlet_eq, if_pos c1, e_M_ripple_16, hκ0])
  · by_cases c2 : 100 < w
    · exact bad (Or.inr c2) (by rw [E_M_ripple, e_M_ripple_0, zlet_eq, if_neg c1, if_neg (Int32.not_le.mpr c2), e_M_ripple_16, hκ0])
    · have sC : E_S_ripple w μ ν = if nI m = 0 then some (-2, μ, ν) else Option.bind (E_Log_get 0 0 μ ν) fun ty4 => zlet (α := Int32) ty4.1 fun y5 => f_S_ripple_40 zFuel w y5 y5 1 ty4.2.1 ty4.2.2 := by
        rw [E_S_ripple, e_S_ripple_0, ob_eq (S_in c1 c2), if_neg one_ne_0]
        simp only [m34]
      have sM : E_M_ripple q w κ τ = if nI m = 0 then some (-2, κ0, τ) else f_M_ripple_45 q zFuel w (κ0 (q + 11) 0) (κ0 (q + 11) 0) 1 κ0 τ := by
        rw [E_M_ripple, e_M_ripple_0, zlet_eq, ← hκ0, if_neg c1, if_pos (Int32.not_lt.mp c2), hL.2.2.2.2.1, zlet_eq, zlet_eq]
      by_cases m0 : m = 0
      · have z : nI m = 0 := by rw [m0]; rfl
        rw [if_pos z] at sC sM
        exact ⟨-2, n, c, x, μ, ν, κ0, τ, sC, sM, h0⟩
      · have z : ¬ nI m = 0 := nI_ne0 (by omega) (by omega)
        rw [if_neg z] at sC sM
        have g0 : E_Log_get 0 0 μ ν = some (κ0 (q + 11) 0, μ, ν) := hL.get (i := 0) (w := 0) (by omega) (by decide)
        rw [ob_eq g0, zlet_eq] at sC
        obtain ⟨r, a1, a2⟩ := ripple_f (ν := ν) (τ := τ) (w := w) hL (m - 1) 1 zFuel zFuel (κ0 (q + 11) 0) (κ0 (q + 11) 0) (by omega) (by unfold zFuel; omega) (by unfold zFuel; omega)
        exact ⟨r, n, c, x, μ, ν, κ0, τ, sC.trans a1, sM.trans a2, h0⟩
theorem sim_average {q : Nat} (w : Int32) : Sim q (E_S_average w) (E_M_average q w) := by
  intro n c x μ ν κ τ h
  obtain ⟨κ0, hκ0⟩ : ∃ κ0, κ0 = zu κ q 0 0 := ⟨_, rfl⟩
  have h0 : RR q n c x μ ν κ0 τ := hκ0 ▸ h.th
  obtain ⟨m, t, hL⟩ := h0.2.1.lg
  have h100 := hL.1
  have m34 : μ 34 0 = nI m := hL.2.2.1
  have bad : (w < 1 ∨ 100 < w) → E_M_average q w κ τ = some (-1, κ0, τ) → ∃ (r : Int32) (n' c' x' : Nat) (μ' : zI) (ν' : zJ) (κ' : zI) (τ' : zJ), E_S_average w μ ν = some (r, μ', ν') ∧ E_M_average q w κ τ = some (r, κ', τ') ∧ RR q n' c' x' μ' ν' κ' τ' := fun o e2 => ⟨-1, n, c, x, μ, ν, κ0, τ, by rw [E_S_average, e_S_average_0, ob_eq (S_out o), if_pos rfl], e2, h0⟩
  by_cases c1 : w < 1
  · exact bad (Or.inl c1) (by rw [E_M_average, e_M_average_0, zlet_eq, if_pos c1, e_M_average_16, hκ0])
  · by_cases c2 : 100 < w
    · exact bad (Or.inr c2) (by rw [E_M_average, e_M_average_0, zlet_eq, if_neg c1, if_neg (Int32.not_le.mpr c2), e_M_average_16, hκ0])
    · obtain ⟨N, hN, eN⟩ := nI_of2 (M := 100) (n := 100) rfl (x := w) (fun g => c1 (Int32.lt_trans g (by decide))) (Int32.not_lt.mp c2)
      have N1 : 1 ≤ N := by
        have := ile.mp (Int32.not_lt.mp c1)
        rw [eN, nIt (by omega), show (1 : Int32).toInt = 1 from rfl] at this
        omega
      subst eN
      have emin : zMin (nI N) (nI m) = nI (min N m) := by
        unfold zMin
        by_cases d : m < N
        · rw [if_pos (nI_lt d (by omega)), Nat.min_eq_right (by omega)]
        · rw [if_neg (nI_nlt (by omega) (by omega)), Nat.min_eq_left (by omega)]
      have sC : E_S_average (nI N) μ ν = if nI (min N m) = 0 then some (-2, μ, ν) else f_S_average_36 zFuel (nI N) (nI (min N m)) 0 0 μ ν := by
        rw [E_S_average, e_S_average_0, ob_eq (S_in c1 c2), if_neg one_ne_0, zlet_eq]
        simp only [m34, emin]
      have sM : E_M_average q (nI N) κ τ = if nI m = 0 then some (-2, κ0, τ) else f_M_average_50 q zFuel (nI N) (nI (min N m)) 0 0 κ0 τ := by
        rw [E_M_average, e_M_average_0, zlet_eq, ← hκ0, if_neg c1, if_pos (Int32.not_lt.mp c2), hL.2.2.2.2.1, e_M_average_44, e_M_average_44]
        by_cases d : m ≤ N
        · rw [if_pos (nI_le d (by omega)), Nat.min_eq_right d]
        · rw [if_neg (nI_ge (by omega) (by omega)), Nat.min_eq_left (by omega)]
      by_cases m0 : m = 0
      · have z : nI m = 0 := by rw [m0]; rfl
        have z2 : nI (min N m) = 0 := by rw [m0, Nat.min_eq_right (by omega)]; rfl
        rw [if_pos z2] at sC
        rw [if_pos z] at sM
        exact ⟨-2, n, c, x, μ, ν, κ0, τ, sC, sM, h0⟩
      · rw [if_neg (nI_ne0 (by omega) (by omega))] at sC
        rw [if_neg (nI_ne0 (by omega) (by omega))] at sM
        obtain ⟨r, a1, a2⟩ := avg_f (ν := ν) (τ := τ) (w := nI N) hL (N := min N m) (by omega) (by omega) (min N m) 0 zFuel zFuel 0 0 (by omega) (by unfold zFuel; omega) (by unfold zFuel; omega) rfl (by decide) (by decide)
        exact ⟨r, n, c, x, μ, ν, κ0, τ, sC.trans a1, sM.trans a2, h0⟩
theorem sim_worst {q : Nat} (w : Int32) : Sim q (E_S_worst w) (E_M_worst q w) := by
  intro n c x μ ν κ τ h
  obtain ⟨κ0, hκ0⟩ : ∃ κ0, κ0 = zu κ q 0 0 := ⟨_, rfl⟩
  have h0 : RR q n c x μ ν κ0 τ := hκ0 ▸ h.th
  obtain ⟨m, t, hL⟩ := h0.2.1.lg
  have h100 := hL.1
  have m34 : μ 34 0 = nI m := hL.2.2.1
  have bad : (w < 0 ∨ 1 < w) → E_M_worst q w κ τ = some (-1, κ0, τ) → ∃ (r : Int32) (n' c' x' : Nat) (μ' : zI) (ν' : zJ) (κ' : zI) (τ' : zJ), E_S_worst w μ ν = some (r, μ', ν') ∧ E_M_worst q w κ τ = some (r, κ', τ') ∧ RR q n' c' x' μ' ν' κ' τ' := fun o e2 => ⟨-1, n, c, x, μ, ν, κ0, τ, by rw [E_S_worst, e_S_worst_0, ob_eq (S_out o), if_pos rfl], e2, h0⟩
  by_cases c1 : w < 0
  · exact bad (Or.inl c1) (by rw [E_M_worst, e_M_worst_0, zlet_eq, if_pos c1, e_M_worst_14, hκ0])
  · by_cases c2 : 1 < w
    · exact bad (Or.inr c2) (by rw [E_M_worst, e_M_worst_0, zlet_eq, if_neg c1, if_neg (Int32.not_le.mpr c2), e_M_worst_14, hκ0])
    · have sC : E_S_worst w μ ν = if nI m = 0 then some (-2, μ, ν) else f_S_worst_31 (99999 + 1) w 0 (-1) (nI 0) μ ν := by
        rw [E_S_worst, e_S_worst_0, ob_eq (S_in c1 c2), if_neg one_ne_0]
        simp only [m34]
        rfl
      have sM : E_M_worst q w κ τ = f_M_worst_24 q (99999 + 1) w (-2) (-1) (nI 0) κ0 τ := by
        rw [E_M_worst, e_M_worst_0, zlet_eq, ← hκ0, if_neg c1, if_pos (Int32.not_lt.mp c2)]
        rfl
      by_cases m0 : m = 0
      · have z : nI m = 0 := by rw [m0]; rfl
        rw [if_pos z] at sC
        refine ⟨-2, n, c, x, μ, ν, κ0, τ, sC, ?_, h0⟩
        rw [sM, f_M_worst_24, hL.2.2.2.2.1, m0, if_pos (by decide), if_pos rfl, e_M_worst_91, e_M_worst_96, ite_self]
      · rw [if_neg (nI_ne0 (by omega) (by omega))] at sC
        obtain ⟨e1, e2⟩ := worst_1 (ν := ν) (τ := τ) (w := w) (a := 0) (d := -1) (a' := -2) (d' := -1) (f := 99999) (g := 99999) hL (i := 0) (by omega)
        have pos : ¬ κ0 (q + 11) (10 * 0 + 2) - κ0 (q + 11) (10 * 0 + 1) ≤ -1 := by
          obtain ⟨⟨a0, a9⟩, b0, b9, ab⟩ := hL.2.2.2.2.2.2 0 (by omega)
          intro g
          have g' := ile.mp g
          rw [isb (by omega) (by omega), show (-1 : Int32).toInt = -1 from rfl] at g'
          omega
        rw [if_neg pos, if_neg pos] at e1 e2
        obtain ⟨r, a1, a2⟩ := worst_f (ν := ν) (τ := τ) (w := w) hL (m - 1) 1 99999 99999 0 (κ0 (q + 11) (10 * 0 + 2) - κ0 (q + 11) (10 * 0 + 1)) (by omega) (by omega) (by omega) (by omega)
        exact ⟨r, n, c, x, μ, ν, κ0, τ, sC.trans (e1.trans a1), sM.trans (e2.trans a2), h0⟩
/-- a question of the panel -/
theorem Sim.q {q : Nat} {fS fM : zI → zJ → Option (Int32 × zI × zJ)} (h : ∀ (n : Nat) (μ κ : zI) (ν τ : zJ), RP 4 q n μ κ → ∃ r κ', fS μ ν = some (r, μ, ν) ∧ fM κ τ = some (r, κ', τ) ∧ mQ q κ κ' ∧ mKn q n κ') : Sim q fS fM := by
  intro n c x μ ν κ τ hR
  obtain ⟨r, κ', a1, a2, a3, a4⟩ := h n μ κ ν τ hR.1.1
  exact ⟨r, n, c, x, μ, ν, κ', τ, a1, a2, hR.q a3 a4 (fun _ _ => rfl)⟩
theorem Sim.q2 {q : Nat} {fS fM : zI → zJ → Option (Int32 × zI × zJ)} (hf : ∀ μ ν out, fS μ ν = some out → zFr (fun r => 19 ≤ r ∧ r < 19 + 15) (fun _ => False) μ ν out.2.1 out.2.2) (h : ∀ (n : Nat) (μ κ : zI) (ν τ : zJ), RP 4 q n μ κ → ∃ r μ' κ', fS μ ν = some (r, μ', ν) ∧ fM κ τ = some (r, κ', τ) ∧ mQ q κ κ' ∧ mKn q n κ') : Sim q fS fM := by
  intro n c x μ ν κ τ hR
  obtain ⟨r, μ', κ', a1, a2, a3, a4⟩ := h n μ κ ν τ hR.1.1
  exact ⟨r, n, c, x, μ', ν, κ', τ, a1, a2, hR.q a3 a4 (fun r hr => (hf μ ν _ a1).1 r (by omega))⟩
theorem Sim_volts {q : Nat} (x : Int32) : Sim q (E_S_volts x) (E_M_volts q x) := Sim.q fun _ _ _ _ _ h => sim_volts h x
theorem Sim_power {q : Nat} (x : Int32) : Sim q (E_S_power x) (E_M_power q x) := Sim.q fun _ _ _ _ _ h => sim_power h x
theorem Sim_slope {q : Nat} (x : Int32) : Sim q (E_S_slope x) (E_M_slope q x) := Sim.q fun _ _ _ _ _ h => sim_slope h x
theorem Sim_best {q : Nat} (x : Int32) : Sim q (E_S_best x) (E_M_best q x) := Sim.q fun _ _ _ _ _ h => sim_best h x
theorem Sim_bestShare {q : Nat} : Sim q E_S_bestShare (E_M_bestShare q) := Sim.q fun _ _ _ _ _ h => sim_bestShare h
theorem Sim_climbed {q : Nat} (x : Int32) : Sim q (E_S_climbed x) (E_M_climbed q x) := Sim.q fun _ _ _ _ _ h => sim_climbed h x
theorem Sim_tops {q : Nat} : Sim q E_S_tops (E_M_tops q) := Sim.q fun _ _ _ _ _ h => sim_tops h
theorem Sim_top {q : Nat} (k w : Int32) : Sim q (E_S_top k w) (E_M_top q k w) := Sim.q fun _ _ _ _ _ h => sim_top h k w
theorem Sim_band {q : Nat} (w u : Int32) : Sim q (E_S_band w u) (E_M_band q w u) := Sim.q fun _ _ _ _ _ h => sim_band h w u
theorem Sim_shadeOf {q : Nat} (x : Int32) : Sim q (E_S_shadeOf x) (E_M_shadeOf q x) := Sim.q2 (fun _ _ _ e => fr_S_shadeOf e) fun _ _ _ _ _ h => sim_shadeOf h x
theorem Sim_darkest {q : Nat} : Sim q E_S_darkest (E_M_darkest q) := Sim.q2 (fun _ _ _ e => fr_S_darkest e) fun _ _ _ _ _ h => sim_darkest h
theorem Sim_lightFor {q : Nat} (x w : Int32) : Sim q (E_S_lightFor x w) (E_M_lightFor q x w) := Sim.q2 (fun _ _ _ e => fr_S_lightFor e) fun _ _ _ _ _ h => sim_lightFor h x w
