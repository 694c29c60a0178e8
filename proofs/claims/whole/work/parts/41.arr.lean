/-! What comes in a tick, side by side. -/
def aF (b : Nat) (μ μ' : zI) : Prop := (∀ r, r ≠ b + 3 → r ≠ b + 6 → r ≠ b + 7 → r ≠ b + 8 → r ≠ b + 9 → r ≠ b + 13 → μ' r = μ r) ∧ ∀ k, k ≠ 1 → k ≠ 2 → μ' (b + 13) k = μ (b + 13) k
def aM (q : Nat) (κ κ' : zI) : Prop := (∀ r, r ≠ q + 7 → κ' r = κ r) ∧ ∀ k, (k < 19 ∨ (25 ≤ k ∧ k ≤ 36) ∨ (39 ≤ k ∧ k ≤ 45)) → κ' (q + 7) k = κ (q + 7) k
theorem aF.tr {b : Nat} {μ μ1 μ2 : zI} (h : aF b μ μ1) (g : aF b μ1 μ2) : aF b μ μ2 := ⟨fun r a1 a2 a3 a4 a5 a6 => (g.1 r a1 a2 a3 a4 a5 a6).trans (h.1 r a1 a2 a3 a4 a5 a6), fun k a1 a2 => (g.2 k a1 a2).trans (h.2 k a1 a2)⟩
theorem aM.tr {q : Nat} {κ κ1 κ2 : zI} (h : aM q κ κ1) (g : aM q κ1 κ2) : aM q κ κ2 := ⟨fun r a => (g.1 r a).trans (h.1 r a), fun k a => (g.2 k a).trans (h.2 k a)⟩
theorem mKn.fr {q n : Nat} {κ κ' : zI} (h : mKn q n κ) (e4 : κ' (q + 4) = κ (q + 4)) (e5 : κ' (q + 5) = κ (q + 5)) (h7 : ∀ i, i < 6 → κ' (q + 7) (19 + i) = κ (q + 7) (19 + i)) (hk : ∀ k, k = 143 ∨ k = 144 ∨ k = 145 → κ' (q + 7) k = κ (q + 7) k) : mKn q n κ' := by
  have el : mLit q κ' = mLit q κ := by
    funext i
    unfold mLit
    by_cases hi : i < 6
    · rw [if_pos hi, if_pos hi, e4, h7 i hi]
    · rw [if_neg hi, if_neg hi]
  intro hk1
  rw [hk 145 (by omega)] at hk1
  rw [hk 144 (by omega), hk 143 (by omega), el, e5]
  exact h hk1
theorem RS.fr {b q n c x : Nat} {μ μ' κ κ' : zI} (h : RS b q n c x μ κ) (e9 : μ' (b + 9) = μ (b + 9)) (e10 : μ' (b + 10) = μ (b + 10)) (ek : ∀ k, 46 ≤ k → k ≤ 142 → κ' (q + 7) k = κ (q + 7) k) : RS b q n c x μ' κ' := by
  obtain ⟨h1, h2, h3, h4, h5, h6, h7, h8⟩ := h
  refine ⟨h1, h2, by rw [e9]; exact h3, by rw [e9]; exact h4, by rw [ek 46 (by omega) (by omega)]; exact h5, fun i w hi hw => ?_, fun i hi => ?_, fun i j hij hj => ?_⟩
  · rw [e10, ek _ (by omega) (by omega)]; exact h6 i w hi hw
  · rw [ek _ (by omega) (by omega), ek _ (by omega) (by omega), ek _ (by omega) (by omega)]; exact h7 i hi
  · rw [ek _ (by omega) (by omega), ek _ (by omega) (by omega)]; exact h8 i j hij hj
theorem RI.fr {b q : Nat} {μ μ' κ κ' : zI} (h : RI b q μ κ) (e : ∀ k, k < 7 → μ' (b + 13) k = μ (b + 13) k) (ek : ∀ k, 36 ≤ k → k ≤ 42 → κ' (q + 7) k = κ (q + 7) k) : RI b q μ' κ' := by
  unfold RI
  rw [e 0 (by omega), e 1 (by omega), e 2 (by omega), e 3 (by omega), e 4 (by omega), e 5 (by omega), e 6 (by omega), ek 36 (by omega) (by omega), ek 37 (by omega) (by omega), ek 38 (by omega) (by omega), ek 39 (by omega) (by omega), ek 40 (by omega) (by omega), ek 41 (by omega) (by omega), ek 42 (by omega) (by omega)]
  exact h
theorem sim_arr_f {b q n c : Nat} {ν τ : zJ} : ∀ (L x i f g : Nat) (fl : Int32) (μ κ : zI), c - x = L → i + L ≤ 24 → L < f → L < g → RS b q n c x μ κ → RL b q n μ κ → mKn q n κ → ((fl = 0 ∧ RP b q n μ κ) ∨ fl = 1) → RI b q μ κ → μ b 0 = κ (q + 7) 25 → (∀ j, j < c - x → (κ (q + 7) 25).toInt ≤ (κ (q + 7) (47 + (4 * j + 0))).toInt) → ∃ x' μ' κ', f_Station_doWhatComes_4 b f fl (nI i) μ ν = some (μ', ν) ∧ f_M_arrives_0 q g κ τ = some (κ', τ) ∧ RP b q n μ' κ' ∧ RS b q n c x' μ' κ' ∧ RI b q μ' κ' ∧ (∀ j, j < c - x' → (κ' (q + 7) 25).toInt < (κ' (q + 7) (47 + (4 * j + 0))).toInt) ∧ aF b μ μ' ∧ aM q κ κ' := by
  intro L
  induction L with
  | zero =>
    intro x i f g fl μ κ hL hi hf hg hS hR hk hfl hI ht htk
    obtain ⟨f, rfl⟩ : ∃ i, f = i + 1 := ⟨f - 1, by omega⟩
    obtain ⟨g, rfl⟩ : ∃ i, g = i + 1 := ⟨g - 1, by omega⟩
    have eM : f_M_arrives_0 q (g + 1) κ τ = some (κ, τ) := by
      rw [f_M_arrives_0, hS.2.2.2.2.1, hL, if_pos (by decide), e_M_arrives_98]
    have eC : f_Station_doWhatComes_4 b (f + 1) fl (nI i) μ ν = e_Station_doWhatComes_138 b fl (nI i) μ ν := by
      rw [f_Station_doWhatComes_4, ob_eq hS.left, hL]
      by_cases c24 : (24 : Int32) ≤ nI i
      · rw [if_pos c24]
      · rw [if_neg c24, if_pos (show nI 0 ≤ 0 by decide)]
    rcases hfl with ⟨h0, hP⟩ | h1
    · exact ⟨x, μ, κ, by rw [eC, e_Station_doWhatComes_138, if_pos h0, e_Station_doWhatComes_149], eM, hP, hS, hI, fun j hj => by omega, ⟨fun _ _ _ _ _ _ _ => rfl, fun _ _ _ => rfl⟩, fun _ _ => rfl, fun _ _ => rfl⟩
    · obtain ⟨μ2, e1, e2, e3⟩ := hR.reck (ν := ν) hk
      refine ⟨x, μ2, κ, by rw [eC, e_Station_doWhatComes_138, if_neg (by rw [h1]; decide), ob_eq e1, e_Station_doWhatComes_149], eM, e2, hS.fr (e3 _ (by omega) (by omega)) (e3 _ (by omega) (by omega)) (fun _ _ _ => rfl), hI.fr (fun k _ => by rw [e3 _ (by omega) (by omega)]) (fun _ _ _ => rfl), fun j hj => by omega, ⟨fun r a1 _ _ a4 _ _ => e3 r a1 a4, fun k _ _ => by rw [e3 _ (by omega) (by omega)]⟩, fun _ _ => rfl, fun _ _ => rfl⟩
  | succ L ih =>
    intro x i f g fl μ κ hL hi hf hg hS hR hk hfl hI ht htk
    obtain ⟨f, rfl⟩ : ∃ i, f = i + 1 := ⟨f - 1, by omega⟩
    obtain ⟨g, rfl⟩ : ∃ i, g = i + 1 := ⟨g - 1, by omega⟩
    obtain ⟨s1, s2, s3, s4, s5, s6, s7, s8⟩ := id hS
    have g0 : E_Schedule_get b 0 0 μ ν = some (κ (q + 7) 47, μ, ν) := hS.get (i := 0) (w := 0) (by omega) (by omega)
    have g1 : E_Schedule_get b 0 1 μ ν = some (κ (q + 7) 48, μ, ν) := hS.get (i := 0) (w := 1) (by omega) (by omega)
    have g2 : E_Schedule_get b 0 2 μ ν = some (κ (q + 7) 49, μ, ν) := hS.get (i := 0) (w := 2) (by omega) (by omega)
    have g3 : E_Schedule_get b 0 3 μ ν = some (κ (q + 7) 50, μ, ν) := hS.get (i := 0) (w := 3) (by omega) (by omega)
    have eC : f_Station_doWhatComes_4 b (f + 1) fl (nI i) μ ν = if κ (q + 7) 47 ≤ κ (q + 7) 25 then (if κ (q + 7) 48 = 0 then Option.bind (E_Panel_setLight b (κ (q + 7) 49) (κ (q + 7) 50) μ ν) fun ty12 => e_Station_doWhatComes_125 b (f_Station_doWhatComes_4 b f) 1 (nI i) (κ (q + 7) 50) ty12.1 ty12.2 else (if κ (q + 7) 48 = 1 then e_Station_doWhatComes_125 b (f_Station_doWhatComes_4 b f) fl (nI i) (κ (q + 7) 50) (zu μ (b + 13) 1 (κ (q + 7) 50)) ν else e_Station_doWhatComes_125 b (f_Station_doWhatComes_4 b f) fl (nI i) (κ (q + 7) 50) (zu μ (b + 13) 2 (κ (q + 7) 50)) ν)) else e_Station_doWhatComes_138 b fl (nI i) μ ν := by
      rw [f_Station_doWhatComes_4, if_neg (lge (c := 24) (k := i) 24 rfl (by omega) (by decide)), ob_eq hS.left, if_neg (nI_nle (by omega) (by omega)), ob_eq g0]
      simp only [g3, g1, g2, Option.bind_some, zlet_eq, ht]
    have eM : f_M_arrives_0 q (g + 1) κ τ = if κ (q + 7) 47 = κ (q + 7) 25 then (if κ (q + 7) 48 = 0 then Option.bind (E_M_lights q (κ (q + 7) 49) (κ (q + 7) 50) κ τ) fun ty8 => e_M_arrives_90 q (f_M_arrives_0 q g) (κ (q + 7) 50) ty8.1 ty8.2 else (if κ (q + 7) 48 = 1 then e_M_arrives_90 q (f_M_arrives_0 q g) (κ (q + 7) 50) (zu κ (q + 7) 37 (κ (q + 7) 50)) τ else e_M_arrives_90 q (f_M_arrives_0 q g) (κ (q + 7) 50) (zu κ (q + 7) 38 (κ (q + 7) 50)) τ)) else some (κ, τ) := by
      rw [f_M_arrives_0, s5, if_neg (nI_nle (by omega) (by omega)), zlet_eq, zlet_eq, zlet_eq, e_M_arrives_98]
    rw [eC, eM]
    have t0 := htk 0 (by omega)
    have t0' : (κ (q + 7) 25).toInt ≤ (κ (q + 7) 47).toInt := t0
    by_cases c0 : κ (q + 7) 47 = κ (q + 7) 25
    · rw [if_pos c0, if_pos (by rw [c0]; exact Int32.le_refl _)]
      have step : ∀ (fl' : Int32) (μ1 κ1 : zI), RL b q n μ1 κ1 → mKn q n κ1 → ((fl' = 0 ∧ RP b q n μ1 κ1) ∨ fl' = 1) → RI b q μ1 κ1 → aF b μ μ1 → aM q κ κ1 → μ1 (b + 9) = μ (b + 9) → (∀ k, 46 ≤ k → k ≤ 142 → κ1 (q + 7) k = κ (q + 7) k) → ∃ x' μ' κ', e_Station_doWhatComes_125 b (f_Station_doWhatComes_4 b f) fl' (nI i) (κ (q + 7) 50) μ1 ν = some (μ', ν) ∧ e_M_arrives_90 q (f_M_arrives_0 q g) (κ (q + 7) 50) κ1 τ = some (κ', τ) ∧ RP b q n μ' κ' ∧ RS b q n c x' μ' κ' ∧ RI b q μ' κ' ∧ (∀ j, j < c - x' → (κ' (q + 7) 25).toInt < (κ' (q + 7) (47 + (4 * j + 0))).toInt) ∧ aF b μ μ' ∧ aM q κ κ' := by
        intro fl' μ1 κ1 hR1 hk1 hfl1 hI1 hF1 hM1 e9 ek
        have e10 : μ1 (b + 10) = μ (b + 10) := hF1.1 _ (by omega) (by omega) (by omega) (by omega) (by omega) (by omega)
        have hS1 : RS b q n c x μ1 κ1 := hS.fr e9 e10 ek
        obtain ⟨κ2, r1, r2, r3, r4, -, r6⟩ := M_rem (q := q) (L := L) (i := 0) (κ := κ1) (τ := τ) (by omega) (by omega) (by rw [ek 46 (by omega) (by omega), s5, hL])
        obtain ⟨μ2, hμ2⟩ : ∃ μ2, μ2 = zu μ1 (b + 9) 1 (nI (x + 1)) := ⟨_, rfl⟩
        have pN : E_Schedule_passNext b μ1 ν = some (μ2, ν) := by
          rw [E_Schedule_passNext, e_Schedule_passNext_0, ob_eq hS1.left, if_neg (nI_nle (by omega) (by omega)), zlet_eq, e_Schedule_passNext_17, hμ2]
          simp only [hS1.2.2.2.1, nI_1]
        have m2 : ∀ r, r ≠ b + 9 → μ2 r = μ1 r := fun r h => by rw [hμ2, zgr h]
        have k19 : ∀ i, i < 6 → κ2 (q + 7) (19 + i) = κ1 (q + 7) (19 + i) := fun i hi => r4 _ (by omega)
        have S2 : RS b q n c (x + 1) μ2 κ2 := by
          refine ⟨s1, by omega, ?_, ?_, ?_, fun i w hi hw => ?_, fun i hi => ?_, fun i j hij hj => ?_⟩
          · rw [hμ2, zgk (by decide)]; exact hS1.2.2.1
          · rw [hμ2, zgh]
          · rw [r3, show c - (x + 1) = L by omega]
          · rw [m2 _ (by omega), e10, r6 (4 * i + w) (by omega) (by omega), ek _ (by omega) (by omega), show 4 * (x + 1 + i) + w = 4 * (x + (i + 1)) + w by omega, s6 (i + 1) w (by omega) hw, show 4 * (i + 1) + w = 4 * i + w + 4 by omega]
          · rw [r6 (4 * i + 1) (by omega) (by omega), r6 (4 * i + 2) (by omega) (by omega), r6 (4 * i + 3) (by omega) (by omega), ek _ (by omega) (by omega), ek _ (by omega) (by omega), ek _ (by omega) (by omega)]
            exact s7 (i + 1) (by omega)
          · rw [r6 (4 * i + 0) (by omega) (by omega), r6 (4 * j + 0) (by omega) (by omega), ek _ (by omega) (by omega), ek _ (by omega) (by omega)]
            exact s8 (i + 1) (j + 1) (by omega) (by omega)
        have e25 : κ2 (q + 7) 25 = κ (q + 7) 25 := (r4 25 (by omega)).trans (hM1.2 25 (by omega))
        obtain ⟨x', μ', κ', v1, v2, v3, v4, v5, v6, v7, v8⟩ := ih (x + 1) (i + 1) f g fl' μ2 κ2 (by omega) (by omega) (by omega) (by omega) S2
          (hR1.fr (fun r a1 a2 => m2 r (by omega)) (by rw [r2 _ (by omega)]) (r2 _ (by omega)) (r2 _ (by omega)) k19)
          (hk1.fr (r2 _ (by omega)) (r2 _ (by omega)) k19 (fun k hk => r4 _ (by omega)))
          (hfl1.imp (fun h => ⟨h.1, h.2.fr (fun r a1 a2 => m2 r (by omega)) (by rw [r2 _ (by omega)]) (r2 _ (by omega)) (r2 _ (by omega)) k19 (fun k hk => r4 _ (by omega))⟩) id)
          (hI1.fr (fun k _ => by rw [m2 _ (by omega)]) (fun k h1 h2 => r4 _ (by omega)))
          (by rw [m2 _ (by omega), e25, hF1.1 _ (by omega) (by omega) (by omega) (by omega) (by omega) (by omega)]; exact ht)
          (fun j hj => by
            rw [e25, r6 (4 * j + 0) (by omega) (by omega), ek _ (by omega) (by omega)]
            exact htk (j + 1) (by omega))
        refine ⟨x', μ', κ', ?_, ?_, v3, v4, v5, v6, (hF1.tr ⟨fun r _ _ _ _ a5 _ => m2 r a5, fun k _ _ => by rw [m2 _ (by omega)]⟩).tr v7, (hM1.tr ⟨fun r a => r2 r a, fun k hk => r4 k (by omega)⟩).tr v8⟩
        · rw [e_Station_doWhatComes_125, ob_eq pN, nI_1]
          exact v1
        · rw [e_M_arrives_90, show (0 : Int32) = nI 0 from rfl, ob_eq r1]
          exact v2
      have ev : okE n (κ (q + 7) 48) (κ (q + 7) 49) (κ (q + 7) 50) := s7 0 (by omega)
      rcases ev with ⟨k0, ⟨j, hj, hm⟩, v0, v9⟩ | k1 | ⟨k2, v0, v9⟩
      · rw [if_pos k0, if_pos k0, hm, ob_eq (C_setLight hR.2.1 hR.1 hj), ob_eq (M_lights_eq (by have := hR.1; omega))]
        refine step 1 _ _ (hR.light hj v0 v9) ?_ (Or.inr rfl) (hI.fr (fun k _ => ?_) (fun k h1 h2 => ?_)) ⟨fun r a1 a2 a3 a4 a5 a6 => ?_, fun k _ _ => ?_⟩ ⟨fun r a => ?_, fun k hk => ?_⟩ ?_ (fun k h1 h2 => ?_)
        · intro h; dsimp only at h; rw [zgh] at h; exact absurd h (by decide)
        · simp (disch := omega) only [zgr]
        · have := hR.1; simp (disch := omega) only [zgk]
        · simp (disch := omega) only [zgr]
        · simp (disch := omega) only [zgr]
        · simp (disch := omega) only [zgr]
        · have := hR.1; simp (disch := omega) only [zgk]
        · simp (disch := omega) only [zgr]
        · have := hR.1; simp (disch := omega) only [zgk]
      · rw [if_neg (by rw [k1]; decide), if_pos k1, if_neg (by rw [k1]; decide), if_pos k1]
        refine step fl _ _ (hR.fr (fun r _ _ => zgr (by omega)) (by rw [zgr (by omega)]) (zgr (by omega)) (zgr (by omega)) (fun i hi => zgk (by omega))) (hk.fr (zgr (by omega)) (zgr (by omega)) (fun i hi => zgk (by omega)) (fun k hk => zgk (by omega))) (hfl.imp (fun h => ⟨h.1, h.2.fr (fun r _ _ => zgr (by omega)) (by rw [zgr (by omega)]) (zgr (by omega)) (zgr (by omega)) (fun i hi => zgk (by omega)) (fun k hk => zgk (by omega))⟩) id) ?_ ⟨fun r a1 a2 a3 a4 a5 a6 => zgr a6, fun k a1 a2 => zgk a1⟩ ⟨fun r a => zgr a, fun k hk => zgk (by omega)⟩ (zgr (by omega)) (fun k h1 h2 => zgk (by omega))
        unfold RI
        simp (disch := omega) only [zgk, zgh]
        unfold RI at hI
        exact ⟨hI.1, True.intro, hI.2.2.1, hI.2.2.2.1, hI.2.2.2.2.1, hI.2.2.2.2.2.1, hI.2.2.2.2.2.2.1, hI.2.2.2.2.2.2.2.1, hI.2.2.2.2.2.2.2.2⟩
      · rw [if_neg (by rw [k2]; decide), if_neg (by rw [k2]; decide), if_neg (by rw [k2]; decide), if_neg (by rw [k2]; decide)]
        refine step fl _ _ (hR.fr (fun r _ _ => zgr (by omega)) (by rw [zgr (by omega)]) (zgr (by omega)) (zgr (by omega)) (fun i hi => zgk (by omega))) (hk.fr (zgr (by omega)) (zgr (by omega)) (fun i hi => zgk (by omega)) (fun k hk => zgk (by omega))) (hfl.imp (fun h => ⟨h.1, h.2.fr (fun r _ _ => zgr (by omega)) (by rw [zgr (by omega)]) (zgr (by omega)) (zgr (by omega)) (fun i hi => zgk (by omega)) (fun k hk => zgk (by omega))⟩) id) ?_ ⟨fun r a1 a2 a3 a4 a5 a6 => zgr a6, fun k a1 a2 => zgk a2⟩ ⟨fun r a => zgr a, fun k hk => zgk (by omega)⟩ (zgr (by omega)) (fun k h1 h2 => zgk (by omega))
        unfold RI
        simp (disch := omega) only [zgk, zgh]
        unfold RI at hI
        exact ⟨hI.1, hI.2.1, True.intro, hI.2.2.2.1, hI.2.2.2.2.1, hI.2.2.2.2.2.1, hI.2.2.2.2.2.2.1, ⟨v0, v9⟩, hI.2.2.2.2.2.2.2.2⟩
    · have tl : (κ (q + 7) 25).toInt < (κ (q + 7) 47).toInt := by
        rcases Int.lt_or_eq_of_le t0' with h | h
        · exact h
        · exact absurd (Int32.toInt_inj.mp h).symm c0
      rw [if_neg c0, if_neg (fun h => by have := ile.mp h; omega)]
      have hlt : ∀ j, j < c - x → (κ (q + 7) 25).toInt < (κ (q + 7) (47 + (4 * j + 0))).toInt := by
        intro j hj
        by_cases j0 : j = 0
        · subst j0; exact tl
        · exact Int.lt_of_lt_of_le tl (s8 0 j (by omega) hj)
      rcases hfl with ⟨h0, hP⟩ | h1
      · exact ⟨x, μ, κ, by rw [e_Station_doWhatComes_138, if_pos h0, e_Station_doWhatComes_149], rfl, hP, hS, hI, hlt, ⟨fun _ _ _ _ _ _ _ => rfl, fun _ _ _ => rfl⟩, fun _ _ => rfl, fun _ _ => rfl⟩
      · obtain ⟨μ2, e1, e2, e3⟩ := hR.reck (ν := ν) hk
        refine ⟨x, μ2, κ, by rw [e_Station_doWhatComes_138, if_neg (by rw [h1]; decide), ob_eq e1, e_Station_doWhatComes_149], rfl, e2, hS.fr (e3 _ (by omega) (by omega)) (e3 _ (by omega) (by omega)) (fun _ _ _ => rfl), hI.fr (fun k _ => by rw [e3 _ (by omega) (by omega)]) (fun _ _ _ => rfl), hlt, ⟨fun r a1 _ _ a4 _ _ => e3 r a1 a4, fun k _ _ => by rw [e3 _ (by omega) (by omega)]⟩, fun _ _ => rfl, fun _ _ => rfl⟩
/-- what comes in a tick -/
theorem sim_arr {b q n c x : Nat} {μ κ : zI} {ν τ : zJ} (hS : RS b q n c x μ κ) (hP : RP b q n μ κ) (hI : RI b q μ κ) (ht : μ b 0 = κ (q + 7) 25) (htk : ∀ j, j < c - x → (κ (q + 7) 25).toInt ≤ (κ (q + 7) (47 + (4 * j + 0))).toInt) : ∃ x' μ' κ', E_Station_doWhatComes b μ ν = some (μ', ν) ∧ E_M_arrives q κ τ = some (κ', τ) ∧ RP b q n μ' κ' ∧ RS b q n c x' μ' κ' ∧ RI b q μ' κ' ∧ (∀ j, j < c - x' → (κ' (q + 7) 25).toInt < (κ' (q + 7) (47 + (4 * j + 0))).toInt) ∧ aF b μ μ' ∧ aM q κ κ' := by
  rw [E_Station_doWhatComes, e_Station_doWhatComes_0, E_M_arrives]
  exact sim_arr_f (c - x) x 0 zFuel zFuel 0 μ κ rfl (by have := hS.1; omega) (by have := hS.1; unfold zFuel; omega) (by have := hS.1; unfold zFuel; omega) hS hP.rl hP.2.2.2.2.2.2.2.2 (Or.inl ⟨rfl, hP⟩) hI ht htk
