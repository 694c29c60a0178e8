/-! What the log is asked. -/
def LG (q m t : Nat) (μ κ : zI) : Prop := m ≤ 100 ∧ t < 100 ∧ μ 34 0 = nI m ∧ μ 34 1 = nI t ∧ κ q 28 = nI m ∧ (∀ i w, i < m → w < 10 → μ 35 ((t + 100 - i) % 100 * 10 + w) = κ (q + 11) (10 * i + w)) ∧ ∀ i, i < m → (0 ≤ (κ (q + 11) (10 * i + 1)).toInt ∧ (κ (q + 11) (10 * i + 1)).toInt ≤ 598801) ∧ 0 ≤ (κ (q + 11) (10 * i + 2)).toInt ∧ (κ (q + 11) (10 * i + 2)).toInt ≤ 598801 ∧ (κ (q + 11) (10 * i + 1)).toInt ≤ (κ (q + 11) (10 * i + 2)).toInt
theorem LG.get {q m t i w : Nat} {μ κ : zI} {ν : zJ} (h : LG q m t μ κ) (hi : i < m) (hw : w < 10) : E_Log_get (nI i) (nI w) μ ν = some (κ (q + 11) (10 * i + w), μ, ν) := by
  obtain ⟨h1, h2, h3, h4, h5, h6, -⟩ := h
  have e1 : nI t + 100 - nI i - (nI t + 100 - nI i) / 100 * 100 = nI ((t + 100 - i) % 100) := by
    rw [show nI t + 100 = nI (t + 100) from nI_add t 100, pk_sub (by omega)]
    exact pk_rem (d := 100) (by omega) (by decide) (by decide)
  have lt : (t + 100 - i) % 100 < 100 := Nat.mod_lt _ (by decide)
  have e2 : nI ((t + 100 - i) % 100) * 10 + nI w = nI ((t + 100 - i) % 100 * 10 + w) := by
    rw [show nI ((t + 100 - i) % 100) * 10 = nI ((t + 100 - i) % 100 * 10) from pk_mul _ 10, nI_add]
  rw [E_Log_get, e_Log_get_0, if_neg (nI_pos (by omega)), h3, if_neg (nI_ge hi (by omega)), if_neg (nI_pos (by omega)), if_pos (show nI w < 10 from nI_lt (b := 10) hw (by decide)), h4, e1, e2, if_pos (zin_nI (by omega) (by decide)), nI_clamp (by omega), h6 i w hi hw]
theorem LG.idx {i w : Nat} (h : i < 100) (hw : w < 10) : (10 : Int32) * nI i + nI w = nI (10 * i + w) ∧ zin (nI (10 * i + w)) 1000 = true ∧ (nI (10 * i + w)).toNatClampNeg = 10 * i + w := by
  refine ⟨?_, zin_nI (by omega) (by decide), nI_clamp (by omega)⟩
  rw [show (10 : Int32) * nI i = nI (10 * i) from pk_mul 10 i, nI_add]
theorem LG.near {q m t i : Nat} {μ κ : zI} {ν τ : zJ} {p : Int32} (h : LG q m t μ κ) (hi : i < m) (p0 : 0 ≤ p.toInt) (p9 : p.toInt ≤ 100) : ∃ v : Int32, E_Log_wasNear (nI i) p μ ν = some (v, μ, ν) ∧ E_M_wasNear q (nI i) p κ τ = some (v, κ, τ) := by
  have h100 := h.1
  obtain ⟨⟨g0, g9⟩, b0, b9, -⟩ := h.2.2.2.2.2.2 i hi
  have m0 : 0 ≤ p.toInt * (κ (q + 11) (10 * i + 2)).toInt := Int.mul_nonneg p0 b0
  have m9 : p.toInt * (κ (q + 11) (10 * i + 2)).toInt ≤ 100 * 598801 := Int.mul_le_mul p9 b9 b0 (by omega)
  have hc := lcmp2 (x := κ (q + 11) (10 * i + 1)) (u := p) (v := κ (q + 11) (10 * i + 2)) (by omega) (by omega) (by omega) (by omega)
  obtain ⟨i1, i2, i3⟩ := LG.idx (i := i) (w := 1) (by omega) (by decide)
  obtain ⟨j1, j2, j3⟩ := LG.idx (i := i) (w := 2) (by omega) (by decide)
  refine ⟨if κ (q + 11) (10 * i + 1) * 100 < p * κ (q + 11) (10 * i + 2) then 0 else 1, ?_, ?_⟩
  · rw [E_Log_wasNear, e_Log_wasNear_0, show E_Log_get (nI i) 1 μ ν = _ from h.get (w := 1) hi (by decide), Option.bind_some, show E_Log_get (nI i) 2 μ ν = _ from h.get (w := 2) hi (by decide), Option.bind_some, ob_eq S_near]
    dsimp only
    by_cases c : κ (q + 11) (10 * i + 1) * 100 < p * κ (q + 11) (10 * i + 2)
    · rw [if_pos c, if_pos (show zb 0 = true from rfl)]
    · rw [if_neg c, if_pos (show zb 1 = true from rfl)]
  · rw [E_M_wasNear, e_M_wasNear_0, show (10 : Int32) * nI i + 1 = nI (10 * i + 1) from i1, show (10 : Int32) * nI i + 2 = nI (10 * i + 2) from j1, if_pos i2, if_pos j2, i3, j3, e_M_wasNear_40, e_M_wasNear_40, if_pos (show zb 0 = true from rfl), if_pos (show zb 1 = true from rfl)]
    by_cases c : κ (q + 11) (10 * i + 1) * 100 < p * κ (q + 11) (10 * i + 2)
    · rw [if_pos c, if_pos (Int32.not_le.mp (fun g => Int32.not_le.mpr c (hc.mp g)))]
    · rw [if_neg c, if_neg (Int32.not_lt.mpr (hc.mpr (Int32.not_lt.mp c)))]
theorem M_part_in {p : Int32} {κ : zI} {τ : zJ} (h1 : ¬ p < 0) (h2 : ¬ 100 < p) : E_M_isPart p κ τ = some (1, κ, τ) := by
  rw [E_M_isPart, e_M_isPart_0, if_neg h1, if_neg h2, e_M_isPart_15, if_pos (show zb 1 = true from rfl)]
theorem M_part_out {p : Int32} {κ : zI} {τ : zJ} (h : p < 0 ∨ 100 < p) : E_M_isPart p κ τ = some (0, κ, τ) := by
  rw [E_M_isPart, e_M_isPart_0, e_M_isPart_14, e_M_isPart_15, if_pos (show zb 0 = true from rfl)]
  rcases h with h | h
  · rw [if_pos h]
  · rw [if_pos h, ite_self]
theorem near_f {q m t : Nat} {μ κ : zI} {ν τ : zJ} {p : Int32} (h : LG q m t μ κ) (p0 : 0 ≤ p.toInt) (p9 : p.toInt ≤ 100) : ∀ (j i f g : Nat) (a : Int32), i + j = m → j < f → j < g → ∃ r, f_S_near_16 f p a (nI i) μ ν = some (r, μ, ν) ∧ f_M_near_18 q g p a (nI i) κ τ = some (r, κ, τ) := by
  have h100 := h.1
  intro j
  induction j with
  | zero =>
    intro i f g a hi hf hg
    obtain ⟨f, rfl⟩ : ∃ i, f = i + 1 := ⟨f - 1, by omega⟩
    obtain ⟨g, rfl⟩ : ∃ i, g = i + 1 := ⟨g - 1, by omega⟩
    have le : nI m ≤ nI i := nI_le (by omega) (by omega)
    exact ⟨a, by rw [f_S_near_16, h.2.2.1, if_pos le], by rw [f_M_near_18, h.2.2.2.2.1, if_pos le]⟩
  | succ j ih =>
    intro i f g a hi hf hg
    obtain ⟨f, rfl⟩ : ∃ i, f = i + 1 := ⟨f - 1, by omega⟩
    obtain ⟨g, rfl⟩ : ∃ i, g = i + 1 := ⟨g - 1, by omega⟩
    have nle : ¬ nI m ≤ nI i := nI_ge (by omega) (by omega)
    obtain ⟨v, e1, e2⟩ := h.near (ν := ν) (τ := τ) (i := i) (by omega) p0 p9
    obtain ⟨r, a1, a2⟩ := ih (i + 1) f g (if v = 0 then a else a + 1) (by omega) (by omega) (by omega)
    refine ⟨r, ?_, ?_⟩
    · rw [← a1, f_S_near_16, h.2.2.1, if_neg nle, ob_eq e1, e_S_near_42, e_S_near_42, nI_1]
      by_cases c : v = 0
      · rw [if_pos c, if_pos c]
      · rw [if_neg c, if_neg c]
    · rw [← a2, f_M_near_18, h.2.2.2.2.1, if_neg nle, ob_eq e2, e_M_near_41, e_M_near_41, nI_1, zlet_eq, zlet_eq]
      by_cases c : v = 0
      · rw [if_pos c, if_pos c, Int32.add_zero]
      · rw [if_neg c, if_neg c]
theorem away_f {q m t : Nat} {μ κ : zI} {ν τ : zJ} {p : Int32} (h : LG q m t μ κ) (p0 : 0 ≤ p.toInt) (p9 : p.toInt ≤ 100) : ∀ (j i f g : Nat) (a b : Int32), i + j = m → j < f → j < g → ∃ r, f_S_longestAway_19 f p a b (nI i) μ ν = some (r, μ, ν) ∧ f_M_longestAway_21 q g p a b (nI i) κ τ = some (r, κ, τ) := by
  have h100 := h.1
  have zm : ∀ a s : Int32, zMax a s = if s ≤ a then a else s := fun a s => by
    unfold zMax
    by_cases c : a < s
    · rw [if_pos c, if_neg (Int32.not_le.mpr c)]
    · rw [if_neg c, if_pos (Int32.not_lt.mp c)]
  intro j
  induction j with
  | zero =>
    intro i f g a b hi hf hg
    obtain ⟨f, rfl⟩ : ∃ i, f = i + 1 := ⟨f - 1, by omega⟩
    obtain ⟨g, rfl⟩ : ∃ i, g = i + 1 := ⟨g - 1, by omega⟩
    have le : nI m ≤ nI i := nI_le (by omega) (by omega)
    exact ⟨a, by rw [f_S_longestAway_19, h.2.2.1, if_pos le], by rw [f_M_longestAway_21, h.2.2.2.2.1, if_pos le]⟩
  | succ j ih =>
    intro i f g a b hi hf hg
    obtain ⟨f, rfl⟩ : ∃ i, f = i + 1 := ⟨f - 1, by omega⟩
    obtain ⟨g, rfl⟩ : ∃ i, g = i + 1 := ⟨g - 1, by omega⟩
    have nle : ¬ nI m ≤ nI i := nI_ge (by omega) (by omega)
    obtain ⟨v, e1, e2⟩ := h.near (ν := ν) (τ := τ) (i := i) (by omega) p0 p9
    have e47 : ∀ s, e_M_longestAway_47 q (f_M_longestAway_21 q g) p a b (nI i) s κ τ = f_M_longestAway_21 q g p (zMax a s) s (nI (i + 1)) κ τ := fun s => by
      rw [e_M_longestAway_47, e_M_longestAway_58, e_M_longestAway_58, nI_1, zm]
      split <;> rfl
    obtain ⟨r, a1, a2⟩ := ih (i + 1) f g (zMax a (if v = 0 then b + 1 else 0)) (if v = 0 then b + 1 else 0) (by omega) (by omega) (by omega)
    refine ⟨r, ?_, ?_⟩
    · rw [← a1, f_S_longestAway_19, h.2.2.1, if_neg nle, ob_eq e1, e_S_longestAway_51, e_S_longestAway_51, nI_1, zlet_eq, zlet_eq]
      by_cases c : v = 0
      · rw [if_pos c, if_pos c]
      · rw [if_neg c, if_neg c]
    · rw [← a2, f_M_longestAway_21, h.2.2.2.2.1, if_neg nle, ob_eq e2]
      dsimp only
      rw [e47, e47]
      by_cases c : v = 0
      · rw [if_pos c, if_pos c]
      · rw [if_neg c, if_neg c]
theorem ripple_f {q m t : Nat} {μ κ : zI} {ν τ : zJ} {w : Int32} (h : LG q m t μ κ) : ∀ (j i f g : Nat) (a b : Int32), i + j = m → j < f → j < g → ∃ r, f_S_ripple_40 f w a b (nI i) μ ν = some (r, μ, ν) ∧ f_M_ripple_45 q g w a b (nI i) κ τ = some (r, κ, τ) := by
  have h100 := h.1
  have zx : ∀ a s : Int32, zMax a s = if s ≤ a then a else s := fun a s => by
    unfold zMax
    by_cases c : a < s
    · rw [if_pos c, if_neg (Int32.not_le.mpr c)]
    · rw [if_neg c, if_pos (Int32.not_lt.mp c)]
  have zn : ∀ a s : Int32, zMin a s = if a ≤ s then a else s := fun a s => by
    unfold zMin
    by_cases c : s < a
    · rw [if_pos c, if_neg (Int32.not_le.mpr c)]
    · rw [if_neg c, if_pos (Int32.not_lt.mp c)]
  intro j
  induction j with
  | zero =>
    intro i f g a b hi hf hg
    obtain ⟨f, rfl⟩ : ∃ i, f = i + 1 := ⟨f - 1, by omega⟩
    obtain ⟨g, rfl⟩ : ∃ i, g = i + 1 := ⟨g - 1, by omega⟩
    have le : nI m ≤ nI i := nI_le (by omega) (by omega)
    exact ⟨b - a, by rw [f_S_ripple_40, h.2.2.1, if_pos le, e_S_ripple_90, ite_self], by rw [f_M_ripple_45, h.2.2.2.2.1, if_pos le, e_M_ripple_124, ite_self]⟩
  | succ j ih =>
    intro i f g a b hi hf hg
    obtain ⟨f, rfl⟩ : ∃ i, f = i + 1 := ⟨f - 1, by omega⟩
    obtain ⟨g, rfl⟩ : ∃ i, g = i + 1 := ⟨g - 1, by omega⟩
    have nle : ¬ nI m ≤ nI i := nI_ge (by omega) (by omega)
    by_cases cw : w ≤ nI i
    · exact ⟨b - a, by rw [f_S_ripple_40, if_pos cw, e_S_ripple_90], by rw [f_M_ripple_45, if_pos cw, e_M_ripple_124]⟩
    · have g0 := h.get (ν := ν) (i := i) (w := 0) (by omega) (by decide)
      generalize hv : κ (q + 11) (10 * i + 0) = v at g0
      have e10 : (10 : Int32) * nI i = nI (10 * i) := pk_mul 10 i
      have z10 : zin (nI (10 * i)) 1000 = true := zin_nI (by omega) (by decide)
      have c10 : (nI (10 * i)).toNatClampNeg = 10 * i := nI_clamp (by omega)
      have v' : κ (q + 11) (10 * i) = v := hv
      obtain ⟨r, a1, a2⟩ := ih (i + 1) f g (zMin a v) (zMax b v) (by omega) (by omega) (by omega)
      have e88 : ∀ s, e_M_ripple_88 q (f_M_ripple_45 q g) w a b (nI i) s κ τ = f_M_ripple_45 q g w s (zMax b v) (nI (i + 1)) κ τ := fun s => by
        rw [e_M_ripple_88, e10, if_pos z10, if_pos z10, c10, v', e_M_ripple_117, e_M_ripple_117, nI_1, zx]
        split <;> rfl
      refine ⟨r, ?_, ?_⟩
      · rw [← a1, f_S_ripple_40, if_neg cw, h.2.2.1, if_neg nle, show E_Log_get (nI i) 0 μ ν = some (v, μ, ν) from g0, Option.bind_some, zlet_eq, zlet_eq, zlet_eq, nI_1]
      · rw [← a2, f_M_ripple_45, if_neg cw, h.2.2.2.2.1, if_neg nle, e10, if_pos z10, if_pos z10, c10, v', e88, e88, zn]
        split <;> rfl
theorem avg_f {q m t N : Nat} {μ κ : zI} {ν τ : zJ} {w : Int32} (h : LG q m t μ κ) (hN : N ≤ m) (N1 : 1 ≤ N) : ∀ (j i f g : Nat) (a : Int32) (b : Int64), i + j = N → j < f → j < g → b.toInt = a.toInt → 0 ≤ a.toInt → a.toInt ≤ 598801 * i → ∃ r, f_S_average_36 f w (nI N) a (nI i) μ ν = some (r, μ, ν) ∧ f_M_average_50 q g w (nI N) b (nI i) κ τ = some (r, κ, τ) := by
  have h100 := h.1
  intro j
  induction j with
  | zero =>
    intro i f g a b hi hf hg hb a0 a9
    obtain ⟨f, rfl⟩ : ∃ i, f = i + 1 := ⟨f - 1, by omega⟩
    obtain ⟨g, rfl⟩ : ∃ i, g = i + 1 := ⟨g - 1, by omega⟩
    have le : nI N ≤ nI i := nI_le (by omega) (by omega)
    have tN : (nI N).toInt = N := nIt (by omega)
    have nz : ¬ Int32.toInt64 (nI N) = 0 := fun e => by
      have := congrArg Int64.toInt e
      rw [i2t, tN, show (0 : Int64).toInt = 0 from rfl] at this
      omega
    refine ⟨a / nI N, by rw [f_S_average_36, if_pos le, if_neg (nI_ne0 (by omega) (by omega))], ?_⟩
    rw [f_M_average_50, if_pos le, if_neg nz]
    congr 2
    apply Int32.toInt_inj.mp
    rw [Int64.toInt_toInt32, ldv (by omega) (by rw [i2t, tN]; omega), idv a0 (by rw [tN]; omega), i2t, tN, hb]
    have q0 : 0 ≤ a.toInt / (N : Int) := Int.ediv_nonneg a0 (by omega)
    have q9 : a.toInt / (N : Int) ≤ a.toInt := Int.ediv_le_self _ a0
    exact Int.bmod_eq_of_le (by omega) (by omega)
  | succ j ih =>
    intro i f g a b hi hf hg hb a0 a9
    obtain ⟨f, rfl⟩ : ∃ i, f = i + 1 := ⟨f - 1, by omega⟩
    obtain ⟨g, rfl⟩ : ∃ i, g = i + 1 := ⟨g - 1, by omega⟩
    have nle : ¬ nI N ≤ nI i := nI_ge (by omega) (by omega)
    obtain ⟨i1, i2, i3⟩ := LG.idx (i := i) (w := 1) (by omega) (by decide)
    have g1 := h.get (ν := ν) (i := i) (w := 1) (by omega) (by decide)
    obtain ⟨⟨v0, v9⟩, -⟩ := h.2.2.2.2.2.2 i (by omega)
    generalize hv : κ (q + 11) (10 * i + 1) = v at g1 v0 v9
    have ea : (a + v).toInt = a.toInt + v.toInt := iad (by omega) (by omega)
    have eb : (b + Int32.toInt64 v).toInt = b.toInt + v.toInt := by rw [lad (by rw [i2t]; omega) (by rw [i2t]; omega), i2t]
    obtain ⟨r, a1, a2⟩ := ih (i + 1) f g (a + v) (b + Int32.toInt64 v) (by omega) (by omega) (by omega) (by rw [ea, eb, hb]) (by omega) (by omega)
    refine ⟨r, ?_, ?_⟩
    · rw [← a1, f_S_average_36, if_neg nle, show E_Log_get (nI i) 1 μ ν = some (v, μ, ν) from g1, Option.bind_some, zlet_eq, nI_1]
    · rw [← a2, f_M_average_50, if_neg nle, show (10 : Int32) * nI i + 1 = nI (10 * i + 1) from i1, if_pos i2, i3, hv, zlet_eq, nI_1]
theorem worst_1 {q m t i : Nat} {μ κ : zI} {ν τ : zJ} {w a d a' d' : Int32} {f g : Nat} (h : LG q m t μ κ) (hi : i < m) : f_S_worst_31 (f + 1) w a d (nI i) μ ν = f_S_worst_31 f w (if κ (q + 11) (10 * i + 2) - κ (q + 11) (10 * i + 1) ≤ d then a else nI i) (if κ (q + 11) (10 * i + 2) - κ (q + 11) (10 * i + 1) ≤ d then d else κ (q + 11) (10 * i + 2) - κ (q + 11) (10 * i + 1)) (nI (i + 1)) μ ν ∧ f_M_worst_24 q (g + 1) w a' d' (nI i) κ τ = f_M_worst_24 q g w (if κ (q + 11) (10 * i + 2) - κ (q + 11) (10 * i + 1) ≤ d' then a' else nI i) (if κ (q + 11) (10 * i + 2) - κ (q + 11) (10 * i + 1) ≤ d' then d' else κ (q + 11) (10 * i + 2) - κ (q + 11) (10 * i + 1)) (nI (i + 1)) κ τ := by
  have h100 := h.1
  have nle : ¬ nI m ≤ nI i := nI_ge (by omega) (by omega)
  have g1 : E_Log_get (nI i) 1 μ ν = _ := h.get (ν := ν) (i := i) (w := 1) (by omega) (by decide)
  have g2 : E_Log_get (nI i) 2 μ ν = _ := h.get (ν := ν) (i := i) (w := 2) (by omega) (by decide)
  obtain ⟨i1, i2, i3⟩ := LG.idx (i := i) (w := 1) (by omega) (by decide)
  obtain ⟨j1, j2, j3⟩ := LG.idx (i := i) (w := 2) (by omega) (by decide)
  refine ⟨?_, ?_⟩
  · rw [f_S_worst_31, h.2.2.1, if_neg nle, g2, Option.bind_some, g1, Option.bind_some, zlet_eq, e_S_worst_78, e_S_worst_78, nI_1]
    split <;> rfl
  · rw [f_M_worst_24, h.2.2.2.2.1, if_neg nle, show (10 : Int32) * nI i + 1 = nI (10 * i + 1) from i1, show (10 : Int32) * nI i + 2 = nI (10 * i + 2) from j1, if_pos j2, if_pos i2, zlet_eq, i3, j3, e_M_worst_75, e_M_worst_75, nI_1]
    by_cases c : κ (q + 11) (10 * i + 2) - κ (q + 11) (10 * i + 1) ≤ d'
    · rw [if_neg (Int32.not_lt.mpr c), if_pos c, if_pos c]
    · rw [if_pos (Int32.not_le.mp c), if_neg c, if_neg c]
theorem worst_f {q m t : Nat} {μ κ : zI} {ν τ : zJ} {w : Int32} (h : LG q m t μ κ) : ∀ (j i f g z : Nat) (d : Int32), i + j = m → j < f → j < g → z < 100 → ∃ r, f_S_worst_31 f w (nI z) d (nI i) μ ν = some (r, μ, ν) ∧ f_M_worst_24 q g w (nI z) d (nI i) κ τ = some (r, κ, τ) := by
  have h100 := h.1
  intro j
  induction j with
  | zero =>
    intro i f g z d hi hf hg hz
    obtain ⟨f, rfl⟩ : ∃ i, f = i + 1 := ⟨f - 1, by omega⟩
    obtain ⟨g, rfl⟩ : ∃ i, g = i + 1 := ⟨g - 1, by omega⟩
    have le : nI m ≤ nI i := nI_le (by omega) (by omega)
    have nz : ¬ nI z = -2 := fun e => by
      have := congrArg Int32.toInt e
      rw [nIt (by omega), show (-2 : Int32).toInt = -2 from rfl] at this
      omega
    refine ⟨if w = 0 then nI z else d, ?_, ?_⟩
    · rw [f_S_worst_31, h.2.2.1, if_pos le, e_S_worst_93, e_S_worst_93]
      split <;> rfl
    · rw [f_M_worst_24, h.2.2.2.2.1, if_pos le, if_neg nz, e_M_worst_91, e_M_worst_96, e_M_worst_96]
      split <;> rfl
  | succ j ih =>
    intro i f g z d hi hf hg hz
    obtain ⟨f, rfl⟩ : ∃ i, f = i + 1 := ⟨f - 1, by omega⟩
    obtain ⟨g, rfl⟩ : ∃ i, g = i + 1 := ⟨g - 1, by omega⟩
    obtain ⟨e1, e2⟩ := worst_1 (ν := ν) (τ := τ) (w := w) (a := nI z) (d := d) (a' := nI z) (d' := d) (f := f) (g := g) h (i := i) (by omega)
    rw [e1, e2]
    by_cases c : κ (q + 11) (10 * i + 2) - κ (q + 11) (10 * i + 1) ≤ d
    · rw [if_pos c, if_pos c]
      exact ih (i + 1) f g z d (by omega) (by omega) (by omega) hz
    · rw [if_neg c, if_neg c]
      exact ih (i + 1) f g i _ (by omega) (by omega) (by omega) (by omega)
