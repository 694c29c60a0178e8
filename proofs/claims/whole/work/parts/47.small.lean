/-! The small calls. -/
def SimL (q : Nat) (fS fM : zI → zJ → Option (Int64 × zI × zJ)) : Prop := ∀ (n c x : Nat) (μ : zI) (ν : zJ) (κ : zI) (τ : zJ), RR q n c x μ ν κ τ → ∃ (r : Int64) (n' c' x' : Nat) (μ' : zI) (ν' : zJ) (κ' : zI) (τ' : zJ), fS μ ν = some (r, μ', ν') ∧ fM κ τ = some (r, κ', τ') ∧ RR q n' c' x' μ' ν' κ' τ'
theorem rg_or (x : Int32) (N : Nat) (hN : N < 2 ^ 31) : (x < 0 ∨ nI N < x) ∨ ∃ k, k ≤ N ∧ x = nI k := by
  by_cases c : x < 0
  · exact Or.inl (Or.inl c)
  · by_cases d : nI N < x
    · exact Or.inl (Or.inr d)
    · obtain ⟨k, hk, e⟩ := nI_of2 (M := nI N) (n := N) (nI_toInt hN) c (Int32.not_lt.mp d)
      exact Or.inr ⟨k, hk, e⟩
theorem RR.st {q n c x c' x' : Nat} {μ μ' κ κ' : zI} {ν τ : zJ} (h : RR q n c x μ ν κ τ) (h1 : RSt 4 q n c' x' μ' κ') (hm : ∀ r, r < 4 ∨ r = 34 ∨ r = 35 → μ' r = μ r) (hq : ∀ r, r ≠ q → r ≠ q + 7 → κ' r = κ r) (hk : ∀ k, k ≠ 0 → κ' q k = κ q k) (h25 : κ' (q + 7) 25 = κ (q + 7) 25) : RR q n c' x' μ' ν κ' τ := by
  obtain ⟨-, h2, h3, h4, h5, h6, h7⟩ := h
  refine ⟨h1, ?_, ?_, ?_, ?_, ?_, ?_⟩
  · unfold RLg
    rw [hm 34 (by omega), hm 35 (by omega), hk 28 (by decide), hq (q + 11) (by omega) (by omega)]
    exact h2
  · unfold RU
    rw [h25]
    exact h3
  · rw [hk 29 (by decide)]; exact h4
  · rw [h25]; exact h5
  · unfold RTp
    rw [hm 1 (by omega), hm 2 (by omega), hk 2 (by decide), hq (q + 1) (by omega) (by omega)]
    exact h6
  · unfold RRd
    rw [hm 3 (by omega), hk 21 (by decide), hk 22 (by decide)]
    exact h7
theorem sim_grid {q : Nat} (v : Int32) : Sim q (E_S_grid v) (E_M_grid q v) := by
  intro n c x μ ν κ τ h
  have bad : (v < 0 ∨ 1 < v) → E_M_grid q v κ τ = some (-1, zu κ q 0 0, τ) → ∃ (r : Int32) (n' c' x' : Nat) (μ' : zI) (ν' : zJ) (κ' : zI) (τ' : zJ), E_S_grid v μ ν = some (r, μ', ν') ∧ E_M_grid q v κ τ = some (r, κ', τ') ∧ RR q n' c' x' μ' ν' κ' τ' := fun e1 e2 => ⟨-1, n, c, x, μ, ν, zu κ q 0 0, τ, by rw [E_S_grid, e_S_grid_0, ob_eq (S_out e1), if_pos rfl], e2, h.th⟩
  by_cases c1 : v < 0
  · exact bad (Or.inl c1) (by rw [E_M_grid, e_M_grid_0, zlet_eq, if_pos c1, e_M_grid_14])
  · by_cases c2 : 1 < v
    · exact bad (Or.inr c2) (by rw [E_M_grid, e_M_grid_0, zlet_eq, if_neg c1, if_neg (Int32.not_le.mpr c2), e_M_grid_14])
    · obtain ⟨κ0, hκ0⟩ : ∃ κ0, κ0 = zu κ q 0 0 := ⟨_, rfl⟩
      have h0 : RR q n c x μ ν κ0 τ := hκ0 ▸ h.th
      obtain ⟨hP, hT, hF, hB, hI, hS, ht, htk, ht0, hz⟩ := h0.1
      refine ⟨κ0 (q + 7) 37, n, c, x, zu μ (4 + 13) 1 v, ν, zu κ0 (q + 7) 37 v, τ, ?_, ?_, h0.st ⟨hP.fr (fun r _ _ => zgr (by omega)) (by rw [zgr (by omega)]) (zgr (by omega)) (zgr (by omega)) (fun i _ => zgk (by omega)) (fun k _ => zgk (by omega)), hT.fr (zgr (by omega)) (fun k _ => zgk (by omega)), hF.fr (zgr (by omega)) (fun k _ => zgk (by omega)), hB.fr (zgr (by omega)) (fun k _ => zgk (by omega)), ?_, hS.fr (zgr (by omega)) (zgr (by omega)) (fun k _ _ => zgk (by omega)), by rw [zgr (by omega), zgk (by omega)]; exact ht, fun j hj => by rw [zgk (by omega), zgk (by omega)]; exact htk j hj, by rw [zgk (by omega)]; exact ht0, by rw [zgk (by omega)]; exact hz⟩ (fun r _ => zgr (by omega)) (fun r _ h7 => zgr h7) (fun k _ => by rw [zgr (by omega)]) (zgk (by omega))⟩
      · rw [E_S_grid, e_S_grid_0, ob_eq (S_in c1 c2), if_neg one_ne_0, zlet_eq, zlet_eq]
        show some (μ (4 + 13) 1, zu μ (4 + 13) 1 v, ν) = _
        rw [hI.2.1]
      · rw [E_M_grid, e_M_grid_0, zlet_eq, if_neg c1, if_pos (Int32.not_lt.mp c2), zlet_eq, zlet_eq, ← hκ0]
      · unfold RI
        simp (disch := omega) only [zgk, zgh]
        unfold RI at hI
        exact ⟨hI.1, True.intro, hI.2.2⟩
theorem sim_tune {q : Nat} (v : Int32) : Sim q (E_S_tune v) (E_M_tune q v) := by
  intro n c x μ ν κ τ h
  have bad : (v < 45000 ∨ 55000 < v) → E_M_tune q v κ τ = some (-1, zu κ q 0 0, τ) → ∃ (r : Int32) (n' c' x' : Nat) (μ' : zI) (ν' : zJ) (κ' : zI) (τ' : zJ), E_S_tune v μ ν = some (r, μ', ν') ∧ E_M_tune q v κ τ = some (r, κ', τ') ∧ RR q n' c' x' μ' ν' κ' τ' := fun e1 e2 => ⟨-1, n, c, x, μ, ν, zu κ q 0 0, τ, by rw [E_S_tune, e_S_tune_0, ob_eq (S_out e1), if_pos rfl], e2, h.th⟩
  by_cases c1 : v < 45000
  · exact bad (Or.inl c1) (by rw [E_M_tune, e_M_tune_0, zlet_eq, if_pos c1, e_M_tune_17])
  · by_cases c2 : 55000 < v
    · exact bad (Or.inr c2) (by rw [E_M_tune, e_M_tune_0, zlet_eq, if_neg c1, if_neg (Int32.not_le.mpr c2), e_M_tune_17])
    · obtain ⟨κ0, hκ0⟩ : ∃ κ0, κ0 = zu κ q 0 0 := ⟨_, rfl⟩
      have h0 : RR q n c x μ ν κ0 τ := hκ0 ▸ h.th
      obtain ⟨hP, hT, hF, hB, hI, hS, ht, htk, ht0, hz⟩ := h0.1
      have v0 : 45000 ≤ v.toInt := ile.mp (Int32.not_lt.mp c1)
      have v9 : v.toInt ≤ 55000 := ile.mp (Int32.not_lt.mp c2)
      refine ⟨κ0 (q + 7) 38, n, c, x, zu μ (4 + 13) 2 v, ν, zu κ0 (q + 7) 38 v, τ, ?_, ?_, h0.st ⟨hP.fr (fun r _ _ => zgr (by omega)) (by rw [zgr (by omega)]) (zgr (by omega)) (zgr (by omega)) (fun i _ => zgk (by omega)) (fun k _ => zgk (by omega)), hT.fr (zgr (by omega)) (fun k _ => zgk (by omega)), hF.fr (zgr (by omega)) (fun k _ => zgk (by omega)), hB.fr (zgr (by omega)) (fun k _ => zgk (by omega)), ?_, hS.fr (zgr (by omega)) (zgr (by omega)) (fun k _ _ => zgk (by omega)), by rw [zgr (by omega), zgk (by omega)]; exact ht, fun j hj => by rw [zgk (by omega), zgk (by omega)]; exact htk j hj, by rw [zgk (by omega)]; exact ht0, by rw [zgk (by omega)]; exact hz⟩ (fun r _ => zgr (by omega)) (fun r _ h7 => zgr h7) (fun k _ => by rw [zgr (by omega)]) (zgk (by omega))⟩
      · rw [E_S_tune, e_S_tune_0, ob_eq (S_in c1 c2), if_neg one_ne_0, zlet_eq, zlet_eq]
        show some (μ (4 + 13) 2, zu μ (4 + 13) 2 v, ν) = _
        rw [hI.2.2.1]
      · rw [E_M_tune, e_M_tune_0, zlet_eq, if_neg c1, if_pos (Int32.not_lt.mp c2), zlet_eq, zlet_eq, ← hκ0]
      · unfold RI
        simp (disch := omega) only [zgk, zgh]
        unfold RI at hI
        exact ⟨hI.1, hI.2.1, True.intro, hI.2.2.2.1, hI.2.2.2.2.1, hI.2.2.2.2.2.1, hI.2.2.2.2.2.2.1, ⟨v0, v9⟩, hI.2.2.2.2.2.2.2.2⟩
theorem sim_scanS {q : Nat} : Sim q E_S_scan (E_M_scan q) := by
  intro n c x μ ν κ τ h
  have hn : κ q 9 = nI n := h.1.1.2.2.1
  have h6 : n ≤ 6 := h.1.1.1
  have hnc : μ (4 + 3) 0 = nI n := h.1.1.2.1
  obtain ⟨κ0, hκ0⟩ : ∃ κ0, κ0 = zu κ q 0 0 := ⟨_, rfl⟩
  have h0 : RR q n c x μ ν κ0 τ := hκ0 ▸ h.th
  obtain ⟨hP, hT, hF, hB, hI, hS, ht, htk, ht0, hz⟩ := h0.1
  have k9 : κ0 q 9 = nI n := hP.2.2.1
  by_cases c0 : n = 0
  · refine ⟨-1, n, c, x, μ, ν, κ0, τ, ?_, ?_, h0⟩
    · rw [E_S_scan, e_S_scan_0, ob_eq (S_has hnc h6), if_pos c0, if_pos rfl]
    · rw [E_M_scan, e_M_scan_0, zlet_eq, ← hκ0, k9, if_pos (by rw [c0]; rfl)]
  · have eM : E_M_scan q κ τ = if κ0 (q + 7) 31 = 1 then some (0, κ0, τ) else some (1, zu (zu (zu (zu κ0 (q + 7) 31 1) (q + 7) 43 (-1)) (q + 7) 44 0) (q + 7) 45 0, τ) := by
      rw [E_M_scan, e_M_scan_0, zlet_eq, ← hκ0, k9, if_neg (nI_ne0 (by omega) (by omega))]
      rfl
    have e7 := hF.2.2.2.1
    have eC : E_S_scan μ ν = if κ0 (q + 7) 31 = 0 then some (1, zu (zu μ (4 + 11) 7 1) (4 + 11) 10 0, ν) else some (0, μ, ν) := by
      rw [E_S_scan, e_S_scan_0, ob_eq (S_has hnc h6), if_neg c0, if_neg one_ne_0]
      simp only [e7.1]
      rfl
    rw [eC, eM]
    rcases e7.2 with z | z
    · rw [if_pos z, if_neg (by rw [z]; decide)]
      obtain ⟨A, hA⟩ : ∃ A, A = zu (zu μ (4 + 11) 7 1) (4 + 11) 10 0 := ⟨_, rfl⟩
      obtain ⟨K, hK⟩ : ∃ K, K = zu (zu (zu (zu κ0 (q + 7) 31 1) (q + 7) 43 (-1)) (q + 7) 44 0) (q + 7) 45 0 := ⟨_, rfl⟩
      have ar : ∀ r, r ≠ 4 + 11 → A r = μ r := fun r a => by rw [hA, zgr a, zgr a]
      have kr : ∀ r, r ≠ q + 7 → K r = κ0 r := fun r a => by rw [hK, zgr a, zgr a, zgr a, zgr a]
      have k7 : ∀ k, k ≠ 31 → k ≠ 43 → k ≠ 44 → k ≠ 45 → K (q + 7) k = κ0 (q + 7) k := fun k a b c d => by rw [hK, zgk d, zgk c, zgk b, zgk a]
      have hF' : RF 4 q A K := by
        obtain ⟨⟨⟨y, hy, y1, y2⟩, g2, g3, g4⟩, f2, f3, f4, f5, f6, f7, f8⟩ := hF
        have a : ∀ k, k ≠ 7 → k ≠ 10 → A (4 + 11) k = μ (4 + 11) k := fun k a b => by rw [hA, zgk b, zgk a]
        have a7 : A (4 + 11) 7 = 1 := by rw [hA, zgk (by decide), zgh]
        have a10 : A (4 + 11) 10 = 0 := by rw [hA, zgh]
        have k31 : K (q + 7) 31 = 1 := by rw [hK, zgk (by decide), zgk (by decide), zgk (by decide), zgh]
        have k43 : K (q + 7) 43 = -1 := by rw [hK, zgk (by decide), zgk (by decide), zgh]
        refine ⟨⟨⟨y, hy, ?_, ?_⟩, ?_, ?_, ?_⟩, ?_, ?_, ⟨?_, ?_⟩, fun _ => Or.inl ⟨a10, k43⟩, ?_, ?_, Or.inl a10⟩
        · rw [a 0 (by decide) (by decide)]; exact y1
        · rw [k7 26 (by decide) (by decide) (by decide) (by decide)]; exact y2
        · rw [a 1 (by decide) (by decide), k7 27 (by decide) (by decide) (by decide) (by decide)]; exact g2
        · rw [a 2 (by decide) (by decide), k7 28 (by decide) (by decide) (by decide) (by decide)]; exact g3
        · rw [a 3 (by decide) (by decide), k7 29 (by decide) (by decide) (by decide) (by decide)]; exact g4
        · rw [a 4 (by decide) (by decide), k7 30 (by decide) (by decide) (by decide) (by decide)]; exact f2
        · rw [a 5 (by decide) (by decide), k7 32 (by decide) (by decide) (by decide) (by decide)]; exact f3
        · rw [a7, k31]
        · exact Or.inr k31
        · rw [a 8 (by decide) (by decide)]; exact f6
        · rw [a 9 (by decide) (by decide)]; exact f7
      have e25 := k7 25 (by decide) (by decide) (by decide) (by decide)
      exact ⟨1, n, c, x, A, ν, K, τ, by rw [hA], by rw [hK], h0.st ⟨hP.fr (fun r _ _ => ar r (by omega)) (by rw [kr q (by omega)]) (kr _ (by omega)) (kr _ (by omega)) (fun i _ => k7 _ (by omega) (by omega) (by omega) (by omega)) (fun k _ => k7 k (by omega) (by omega) (by omega) (by omega)), hT.fr (ar _ (by omega)) (fun k _ => k7 k (by omega) (by omega) (by omega) (by omega)), hF', hB.fr (ar _ (by omega)) (fun k _ => k7 k (by omega) (by omega) (by omega) (by omega)), hI.fr (fun k _ => by rw [ar _ (by omega)]) (fun k _ _ => k7 k (by omega) (by omega) (by omega) (by omega)), hS.fr (ar _ (by omega)) (ar _ (by omega)) (fun k _ _ => k7 k (by omega) (by omega) (by omega) (by omega)), by rw [ar 4 (by omega), e25]; exact ht, fun j hj => by rw [e25, k7 _ (by omega) (by omega) (by omega) (by omega)]; exact htk j hj, by rw [e25]; exact ht0, by rw [ar _ (by omega)]; exact hz⟩ (fun r _ => ar r (by omega)) (fun r _ h7 => kr r h7) (fun k _ => by rw [kr q (by omega)]) e25⟩
    · rw [if_neg (by rw [z]; decide), if_pos z]
      exact ⟨0, n, c, x, μ, ν, _, τ, rfl, rfl, h0⟩
theorem sim_told {q : Nat} (v : Int32) : Sim q (E_S_told v) (E_M_told q v) := by
  intro n c x μ ν κ τ h
  rcases rg_or v 18 (by decide) with o | ⟨k, hk, e⟩
  · refine ⟨-1, n, c, x, μ, ν, zu κ q 0 0, τ, ?_, ?_, h.th⟩
    · have e1 : E_Told_isOne v μ ν = some (0, μ, ν) := by
        rw [E_Told_isOne, e_Told_isOne_0, e_Told_isOne_14, e_Told_isOne_15, if_pos (show zb 0 = true from rfl)]
        rcases o with o | o
        · rw [if_pos o]
        · have o' := ilt.mp o
          rw [show (nI 18).toInt = 18 from rfl] at o'
          rw [if_pos (show (19 : Int32) ≤ v from ile.mpr (by rw [show (19 : Int32).toInt = 19 from rfl]; omega)), ite_self]
      rw [E_S_told, e_S_told_0, ob_eq e1, if_pos rfl, e_S_told_22]
    · rw [E_M_told, e_M_told_0, zlet_eq, e_M_told_24, e_M_told_25]
      rcases o with o | o
      · rw [if_pos o]
      · rw [if_pos (show (18 : Int32) < v from o), ite_self]
  · subst e
    refine ⟨κ (q + 7) k, n, c, x, μ, ν, zu κ q 0 0, τ, ?_, ?_, h.th⟩
    · have e1 : E_Told_isOne (nI k) μ ν = some (1, μ, ν) := by
        rw [E_Told_isOne, e_Told_isOne_0, if_neg (nI_pos (by omega)), if_neg (lge (c := 19) (k := k) 19 rfl (by omega) (by decide)), e_Told_isOne_15, if_pos (show zb 1 = true from rfl)]
      rw [E_S_told, e_S_told_0, ob_eq e1, if_neg one_ne_0, ob_eq (Tg (by omega)), e_S_told_22, ← (h.1.2.1 k (by omega)).1]
    · rw [E_M_told, e_M_told_0, zlet_eq, if_neg (nI_pos (by omega)), if_neg (show ¬ (18 : Int32) < nI k from nI_nlt (a := 18) (by omega) (by omega)), if_pos (zin_nI (by omega) (by decide)), nI_clamp (by omega), e_M_told_25, zgr (by omega)]
theorem sim_light {q : Nat} (m v : Int32) : Sim q (E_S_light m v) (E_M_light q m v) := by
  intro n c x μ ν κ τ h
  have hn : κ q 9 = nI n := h.1.1.2.2.1
  have h6 : n ≤ 6 := h.1.1.1
  have hnc : μ (4 + 3) 0 = nI n := h.1.1.2.1
  have k9 : zu κ q 0 0 q 9 = nI n := (zgk (by decide)).trans hn
  have k7 : ∀ k, zu κ q 0 0 (q + 7) k = κ (q + 7) k := fun k => by rw [zgr (by omega)]
  rcases md_or m h6 with o | ⟨i, hi, e⟩
  · exact ⟨-1, n, c, x, μ, ν, zu κ q 0 0, τ, by rw [E_S_light, e_S_light_0, ob_eq (S_mod_out hnc h6 o), if_pos rfl, e_S_light_18], by rw [E_M_light, e_M_light_0, zlet_eq, ob_eq (M_mod_out k9 o), if_pos rfl, e_M_light_23], h.th⟩
  · subst e
    have bad : (v < 0 ∨ 100 < v) → E_M_light q (nI i) v κ τ = some (-1, zu κ q 0 0, τ) → ∃ (r : Int32) (n' c' x' : Nat) (μ' : zI) (ν' : zJ) (κ' : zI) (τ' : zJ), E_S_light (nI i) v μ ν = some (r, μ', ν') ∧ E_M_light q (nI i) v κ τ = some (r, κ', τ') ∧ RR q n' c' x' μ' ν' κ' τ' := fun e1 e2 => ⟨-1, n, c, x, μ, ν, zu κ q 0 0, τ, by rw [E_S_light, e_S_light_0, ob_eq (S_mod_in hnc h6 hi), if_neg one_ne_0, ob_eq (S_out e1), if_pos rfl, e_S_light_18], e2, h.th⟩
    by_cases c1 : v < 0
    · exact bad (Or.inl c1) (by rw [E_M_light, e_M_light_0, zlet_eq, ob_eq (M_mod_in k9 h6 hi), if_neg one_ne_0, if_pos c1, e_M_light_23])
    · by_cases c2 : 100 < v
      · exact bad (Or.inr c2) (by rw [E_M_light, e_M_light_0, zlet_eq, ob_eq (M_mod_in k9 h6 hi), if_neg one_ne_0, if_neg c1, if_neg (Int32.not_le.mpr c2), e_M_light_23])
      · have v0 : 0 ≤ v.toInt := ile.mp (Int32.not_lt.mp c1)
        have v9 : v.toInt ≤ 100 := ile.mp (Int32.not_lt.mp c2)
        have hth := h.th (v := 0)
        have RL1 := hth.1.1.rl.light hi v0 v9
        obtain ⟨μ1, hμ1⟩ : ∃ μ1, μ1 = zu (zu μ (4 + 6) i v) (4 + 7) i (μ (4 + 4) i * v / 100) := ⟨_, rfl⟩
        obtain ⟨κ1, hκ1⟩ : ∃ κ1, κ1 = zu (zu (zu κ q 0 0) (q + 7) (19 + i) v) (q + 7) 145 0 := ⟨_, rfl⟩
        rw [← hμ1, ← hκ1] at RL1
        obtain ⟨μ2, e1, e2, e3⟩ := RL1.reck (ν := ν) (by intro g; rw [hκ1, zgh] at g; exact absurd g (by decide))
        have m2 : ∀ r, r ≠ 4 + 3 → r ≠ 4 + 6 → r ≠ 4 + 7 → r ≠ 4 + 8 → μ2 r = μ r := fun r a3 a6 a7 a8 => by rw [e3 r a3 a8, hμ1, zgr a7, zgr a6]
        have elit : E_Panel_lightOf 4 (nI i) μ ν = some (μ (4 + 6) i, μ, ν) := by
          rw [E_Panel_lightOf, e_Panel_lightOf_0, ob_eq (C_has hnc h6 hi), if_neg one_ne_0, if_pos (zin_nI (by omega) (by decide)), nI_clamp (by omega), e_Panel_lightOf_18]
        refine ⟨κ (q + 7) (19 + i), n, c, x, μ2, ν, κ1, τ, ?_, ?_, hth.st (hth.1.fr e2 (fun r hr => m2 r (by omega) (by omega) (by omega) (by omega)) (fun k hk => ?_)) (fun r hr => m2 r (by omega) (by omega) (by omega) (by omega)) (fun r _ h7 => ?_) (fun k _ => ?_) ?_⟩
        · rw [E_S_light, e_S_light_0, ob_eq (S_mod_in hnc h6 hi), if_neg one_ne_0, ob_eq (S_in c1 c2), if_neg one_ne_0, ob_eq elit, zlet_eq, ob_eq (C_setLight hnc h6 hi), ← hμ1, ob_eq e1, (h.1.1.2.2.2.1 i hi).2.2.1]
        · rw [E_M_light, e_M_light_0, zlet_eq, ob_eq (M_mod_in k9 h6 hi), if_neg one_ne_0, if_neg c1, if_pos (Int32.not_lt.mp c2), lit19, if_pos (zin_nI (by omega) (by decide)), nI_clamp (by omega), zlet_eq]
          dsimp only
          rw [k7, ob_eq (M_lights_eq (by omega)), hκ1]
        · rw [hκ1]; simp (disch := omega) only [zgk]
        · rw [hκ1]; simp (disch := omega) only [zgr]
        · rw [hκ1]; simp (disch := omega) only [zgr]
        · rw [hκ1]; simp (disch := omega) only [zgk]
