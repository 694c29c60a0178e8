/-! ticks; what a question leaves. -/
def Sim (q : Nat) (fS fM : zI → zJ → Option (Int32 × zI × zJ)) : Prop := ∀ (n c x : Nat) (μ : zI) (ν : zJ) (κ : zI) (τ : zJ), RR q n c x μ ν κ τ → ∃ (r : Int32) (n' c' x' : Nat) (μ' : zI) (ν' : zJ) (κ' : zI) (τ' : zJ), fS μ ν = some (r, μ', ν') ∧ fM κ τ = some (r, κ', τ') ∧ RR q n' c' x' μ' ν' κ' τ'
theorem fJ_b (v : Int32) : 0 ≤ (fJ v).toInt ∧ (fJ v).toInt ≤ 1 := by
  unfold fJ
  split <;> decide
theorem RR.q {q n c x : Nat} {μ μ' κ κ' : zI} {ν τ : zJ} (h : RR q n c x μ ν κ τ) (hq : mQ q κ κ') (hk : mKn q n κ') (hm : ∀ r, r < 19 ∨ 34 ≤ r → μ' r = μ r) : RR q n c x μ' ν κ' τ := by
  obtain ⟨h1, h2, h3, h4, h5, h6, h7⟩ := h
  have e7 : ∀ k, k < 143 → κ' (q + 7) k = κ (q + 7) k := fun k hk => hq.2.2 k (by omega) (by omega) (by omega)
  refine ⟨?_, ?_, ?_, ?_, ?_, ?_, ?_⟩
  · refine h1.fr ?_ (fun r hr => hm r (by omega)) (fun k hk => e7 k (by omega))
    exact (h1.1.q hq hk).fr (fun r _ _ => hm r (by omega)) rfl rfl rfl (fun _ _ => rfl) (fun _ _ => rfl)
  · unfold RLg
    rw [hm 34 (by omega), hm 35 (by omega), hq.2.1 28 (by decide) (by decide) (by decide), hq.1 (q + 11) (by omega) (by omega)]
    exact h2
  · unfold RU
    rw [e7 25 (by decide)]
    exact h3
  · rw [hq.2.1 29 (by decide) (by decide) (by decide)]; exact h4
  · rw [e7 25 (by decide)]; exact h5
  · unfold RTp
    rw [hm 1 (by omega), hm 2 (by omega), hq.2.1 2 (by decide) (by decide) (by decide), hq.1 (q + 1) (by omega) (by omega)]
    exact h6
  · unfold RRd
    rw [hm 3 (by omega), hq.2.1 21 (by decide) (by decide) (by decide), hq.2.1 22 (by decide) (by decide) (by decide)]
    exact h7
theorem RR.th {q n c x : Nat} {μ κ : zI} {ν τ : zJ} {v : Int32} (h : RR q n c x μ ν κ τ) : RR q n c x μ ν (zu κ q 0 v) τ := h.q mQ.th h.1.1.2.2.2.2.2.2.2.2.th (fun _ _ => rfl)
theorem RR.tick {q n c x : Nat} {μ κ : zI} {ν τ : zJ} (h : RR q n c x μ ν κ τ) (ht : (κ (q + 7) 25).toInt ≤ 9998) : ∃ x' μ1 ν' μ' κ' τ', E_Station_advance 4 μ ν = some (μ1, ν') ∧ E_Log_add μ1 ν' = some (μ', ν') ∧ E_M_ticksOnce q κ τ = some (κ', τ') ∧ RR q n c x' μ' ν' κ' τ' ∧ (κ' (q + 7) 25).toInt = (κ (q + 7) 25).toInt + 1 ∧ τ' (q + 9) 0 = τ (q + 9) 0 + Int32.toInt64 (μ' (4 + 11) 6) := by
  obtain ⟨h1, h2, h3, h4, h5, h6, h7⟩ := h
  obtain ⟨x', μ1, ν', μ', κ', τ', a1, a2, a3, a4, a5, a6, a7, a8, a9, a10, a11, a12⟩ := sim_tickR (ν := ν) (τ := τ) h1 h2 h4 (by omega)
  refine ⟨x', μ1, ν', μ', κ', τ', a1, a2, a3, ⟨a4, a5, ⟨fun k hk => ?_, ?_⟩, a6, by omega, ?_, ?_⟩, a7, ?_⟩
  · rw [a8 k hk, a9 k hk, h3.1 k hk]
  · have b := fJ_b (μ' (4 + 13) 7)
    have e : dC 4 μ' 6 = fJ (μ' (4 + 13) 7) := rfl
    have s6 := h3.2
    rw [a9 6 (by decide), e, lad (by omega) (by omega), a7]
    omega
  · unfold RTp
    rw [a10 1 (by omega), a10 2 (by omega), a12 2 (by decide) (by decide) (by decide) (by decide), a11 (q + 1) (by omega) (by omega) (by omega)]
    exact h6
  · unfold RRd
    rw [a10 3 (by omega), a12 21 (by decide) (by decide) (by decide) (by decide), a12 22 (by decide) (by decide) (by decide) (by decide)]
    exact h7
  · rw [a9 0 (by decide)]
    rfl
theorem ticks_f {q n c N : Nat} {w : Int64} (hN : N ≤ 500) : ∀ (j k f g x : Nat) (gv : Int32) (μ : zI) (ν : zJ) (κ : zI) (τ : zJ), k + j = N → j < f → j < g → RR q n c x μ ν κ τ → (κ (q + 7) 25).toInt + j ≤ 9999 → gv = Int64.toInt32 (τ (q + 9) 0 - w) → ∃ r x' μ' ν' κ' τ', f_S_ticks_39 f (nI N) gv (nI k) μ ν = some (r, μ', ν') ∧ f_M_ticks_51 q g (nI N) w (nI k) κ τ = some (r, κ', τ') ∧ RR q n c x' μ' ν' κ' τ' := by
  intro j
  induction j with
  | zero =>
    intro k f g x gv μ ν κ τ hk hf hg h ht hw
    obtain ⟨f, rfl⟩ : ∃ i, f = i + 1 := ⟨f - 1, by omega⟩
    obtain ⟨g, rfl⟩ : ∃ i, g = i + 1 := ⟨g - 1, by omega⟩
    have hle : nI N ≤ nI k := nI_le (by omega) (by omega)
    exact ⟨gv, x, μ, ν, κ, τ, by rw [f_S_ticks_39, if_pos hle], by rw [f_M_ticks_51, if_pos hle, hw], h⟩
  | succ j ih =>
    intro k f g x gv μ ν κ τ hk hf hg h ht hw
    obtain ⟨f, rfl⟩ : ∃ i, f = i + 1 := ⟨f - 1, by omega⟩
    obtain ⟨g, rfl⟩ : ∃ i, g = i + 1 := ⟨g - 1, by omega⟩
    have hle : ¬ nI N ≤ nI k := nI_ge (by omega) (by omega)
    obtain ⟨x1, μ1, ν1, μ2, κ2, τ2, a1, a2, a3, a4, a5, a6⟩ := h.tick (by omega)
    obtain ⟨r, x', μ', ν', κ', τ', b1, b2, b3⟩ := ih (k + 1) f g x1 (gv + μ2 (4 + 11) 6) μ2 ν1 κ2 τ2 (by omega) (by omega) (by omega) a4 (by omega) (by
      rw [a6, hw, Int64.toInt32_sub, Int64.toInt32_sub, Int64.toInt32_add, Int32.toInt32_toInt64]
      rw [Int32.sub_eq_add_neg, Int32.sub_eq_add_neg, Int32.add_assoc, Int32.add_assoc, Int32.add_comm (-Int64.toInt32 w)])
    refine ⟨r, x', μ', ν', κ', τ', ?_, ?_, b3⟩
    · rw [f_S_ticks_39, if_neg hle, ob_eq a1, ob_eq a2, zlet_eq, nI_1]
      exact b1
    · rw [f_M_ticks_51, if_neg hle, ob_eq a3, nI_1]
      exact b2
theorem RR.tk {q n c x : Nat} {μ κ : zI} {ν τ : zJ} (h : RR q n c x μ ν κ τ) : ∃ t, t ≤ 9999 ∧ κ (q + 7) 25 = nI t ∧ μ 4 0 = nI t := by
  obtain ⟨h1, -, -, -, h5, -⟩ := h
  have h0 := h1.2.2.2.2.2.2.2.2.1
  obtain ⟨t, ht, e⟩ := nI_of2 (M := 9999) (n := 9999) rfl (x := κ (q + 7) 25) (fun g => by have := ilt.mp g; rw [show (0 : Int32).toInt = 0 from rfl] at this; omega) (ile.mpr (by rw [show (9999 : Int32).toInt = 9999 from rfl]; omega))
  exact ⟨t, ht, e, h1.2.2.2.2.2.2.1.trans e⟩
theorem sim_ticks {q : Nat} (v : Int32) : Sim q (E_S_ticks v) (E_M_ticks q v) := by
  intro n c x μ ν κ τ h
  have hn : κ q 9 = nI n := h.1.1.2.2.1
  have h6 : n ≤ 6 := h.1.1.1
  have hnc : μ (4 + 3) 0 = nI n := h.1.1.2.1
  obtain ⟨t, t9, k25, m0⟩ := h.tk
  have z7 : zu κ q 0 0 (q + 7) = κ (q + 7) := zgr (by omega)
  have z9 : zu κ q 0 0 q 9 = nI n := (zgk (by decide)).trans hn
  have bad : E_S_ticks v μ ν = some (-1, μ, ν) → E_M_ticks q v κ τ = some (-1, zu κ q 0 0, τ) → ∃ (r : Int32) (n' c' x' : Nat) (μ' : zI) (ν' : zJ) (κ' : zI) (τ' : zJ), E_S_ticks v μ ν = some (r, μ', ν') ∧ E_M_ticks q v κ τ = some (r, κ', τ') ∧ RR q n' c' x' μ' ν' κ' τ' := fun e1 e2 => ⟨-1, n, c, x, μ, ν, zu κ q 0 0, τ, e1, e2, h.th⟩
  by_cases c1 : v < 1
  · refine bad ?_ ?_
    · rw [E_S_ticks, e_S_ticks_0, ob_eq (S_out (Or.inl c1)), if_pos rfl, e_S_ticks_33]
    · rw [E_M_ticks, e_M_ticks_0, zlet_eq, if_pos c1, e_M_ticks_39]
  · by_cases c5 : 500 < v
    · refine bad ?_ ?_
      · rw [E_S_ticks, e_S_ticks_0, ob_eq (S_out (Or.inr c5)), if_pos rfl, e_S_ticks_33]
      · rw [E_M_ticks, e_M_ticks_0, zlet_eq, if_neg c1, if_pos c5, e_M_ticks_39]
    · have c1' := ile.mp (Int32.not_lt.mp c1)
      have c5' := Int32.not_lt.mp c5
      rw [show (1 : Int32).toInt = 1 from rfl] at c1'
      obtain ⟨N, hN, eN⟩ := nI_of2 (M := 500) (n := 500) rfl (x := v) (fun g => by have := ilt.mp g; rw [show (0 : Int32).toInt = 0 from rfl] at this; omega) c5'
      subst eN
      have hin : E_S_isWithin (nI N) 1 500 μ ν = some (1, μ, ν) := S_in c1 c5
      by_cases ct : 9999 < t + N
      · have ct1 : (9999 : Int32) < nI t + nI N := by rw [nI_add]; exact nI_lt (a := 9999) ct (by omega)
        refine bad ?_ ?_
        · rw [E_S_ticks, e_S_ticks_0, ob_eq hin, if_neg one_ne_0]
          simp only [m0]
          rw [if_pos ct1, e_S_ticks_33]
        · rw [E_M_ticks, e_M_ticks_0, zlet_eq, if_neg c1, if_neg c5, z7, k25, if_neg (Int32.not_le.mpr ct1), e_M_ticks_39, ite_self]
      · have ct1 : ¬ (9999 : Int32) < nI t + nI N := by rw [nI_add]; exact nI_nlt (a := 9999) (by omega) (by omega)
        have sC : E_S_ticks (nI N) μ ν = if n = 0 then some (-1, μ, ν) else f_S_ticks_39 zFuel (nI N) 0 0 μ ν := by
          rw [E_S_ticks, e_S_ticks_0, ob_eq hin, if_neg one_ne_0]
          simp only [m0]
          rw [if_neg ct1, ob_eq (S_has hnc h6)]
          by_cases c0 : n = 0
          · rw [if_pos c0, if_pos c0, if_pos rfl, e_S_ticks_33]
          · rw [if_neg c0, if_neg c0, if_neg one_ne_0]
        have sM : E_M_ticks q (nI N) κ τ = if n = 0 then some (-1, zu κ q 0 0, τ) else f_M_ticks_51 q zFuel (nI N) (τ (q + 9) 0) 0 (zu κ q 0 0) τ := by
          rw [E_M_ticks, e_M_ticks_0, zlet_eq, if_neg c1, if_neg c5, z9, z7, k25, if_pos (Int32.not_lt.mp ct1), zlet_eq, e_M_ticks_39]
          by_cases c0 : n = 0
          · rw [if_pos c0, if_pos (by rw [c0]; rfl)]
          · rw [if_neg c0, if_neg (nI_ne0 (by omega) (by omega))]
        by_cases c0 : n = 0
        · rw [if_pos c0] at sC sM
          exact bad sC sM
        · rw [if_neg c0] at sC sM
          obtain ⟨r, x', μ', ν', κ', τ', b1, b2, b3⟩ := ticks_f (q := q) (n := n) (c := c) (w := τ (q + 9) 0) hN N 0 zFuel zFuel x 0 μ ν (zu κ q 0 0) τ (by omega) (by unfold zFuel; omega) (by unfold zFuel; omega) h.th (by rw [z7, k25, nIt (by omega)]; omega) (by rw [Int64.sub_self]; rfl)
          exact ⟨r, n, c, x', μ', ν', κ', τ', sC.trans b1, sM.trans b2, b3⟩
