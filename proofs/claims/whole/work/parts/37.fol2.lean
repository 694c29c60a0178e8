/-! The follower side by side: climb, uphill, share. -/
theorem RP.mp {b q n : Nat} {μ κ C : zI} {τ : zJ} {l1 l2 : List Nat} (h : RP b q n μ κ) (h2 : fM q l1 l2 κ C) (c1 : 9 ∉ l1) (c2 : ∀ k, k ∈ l2 → (k < 19 ∨ 24 < k) ∧ k ≠ 143 ∧ k ≠ 144 ∧ k ≠ 145) {y : Nat} (hy : y < 1000) : E_M_powerAt q (nI y) C τ = some (pwr q n κ y, C, τ) := by
  have g := (RP.pw (ν := τ) (τ := τ) (h.ff (μ' := μ) (fC.rf (l := [])) h2 c1 c2) hy).2
  rw [g]
  show some (pwr q n C y, C, τ) = _
  rw [pwr_ff h2 c2]
theorem sim_climb {b q n : Nat} {μ κ : zI} {ν τ : zJ} (h : RP b q n μ κ) (hG : RG b q μ κ) (hl : μ (b + 11) 4 = κ (q + 7) 30) (ht : μ (b + 2) 13 = κ (q + 7) 13) : ∃ μ' κ', E_Follower_climb b μ ν = some (μ', ν) ∧ E_M_climbs q κ τ = some (κ', τ) ∧ fC (b + 11) [0, 1, 2, 3, 6] μ μ' ∧ fM q [30] [26, 27, 28, 29] κ κ' ∧ RG b q μ' κ' ∧ RV b q μ' κ' := by
  obtain ⟨⟨x, hx, x1, x2⟩, ⟨d1, d2⟩, ⟨p1, p2, p3⟩, s1⟩ := hG
  obtain ⟨y, hy, e1, e2⟩ := h.move (ν := ν) (μ (b + 11) 0 + μ (b + 11) 1 * μ (b + 11) 2)
  have vb := h.pwb hy
  generalize hv : pwr q n κ y = v at e1 vb
  have cC : fM q [] [26] κ (zu κ (q + 7) 26 (nI y)) := fM.rf.p7 _ (by decide)
  have em := h.mp (τ := τ) cC (by decide) (by decide) hy
  rw [hv] at em
  obtain ⟨A, hA⟩ : ∃ A, A = zu (zu μ (b + 11) 0 (nI y)) (b + 11) 6 v := ⟨_, rfl⟩
  obtain ⟨B, hB⟩ : ∃ B, B = zu (zu κ (q + 7) 26 (nI y)) q 30 v := ⟨_, rfl⟩
  have fA : fC (b + 11) [0, 6] μ A := by rw [hA]; exact (fC.rf.put _ (by decide)).put _ (by decide)
  have fB : fM q [30] [26] κ B := by rw [hB]; exact (fM.rf.p7 _ (by decide)).pq _ (by decide)
  have A0 : A (b + 11) 0 = nI y := by rw [hA]; simp (disch := omega) only [zgh, zgk]
  have A6 : A (b + 11) 6 = v := by rw [hA]; simp (disch := omega) only [zgh]
  have B26 : B (q + 7) 26 = nI y := by rw [hB]; simp (disch := omega) only [zgh, zgr]
  have B30 : B q 30 = v := by rw [hB]; simp (disch := omega) only [zgh]
  have kC : E_Follower_climb b μ ν = if v ≤ κ (q + 7) 30 then Option.bind (E_Follower_shorten b (zu A (b + 11) 1 (-(κ (q + 7) 27))) ν) fun ty4 => e_Follower_climb_51 b ty4.1 ty4.2 else Option.bind (E_Follower_lengthen b A ν) fun ty5 => e_Follower_climb_51 b ty5.1 ty5.2 := by
    rw [E_Follower_climb, e_Follower_climb_0, ob_eq e1, ← hA]
    simp only [A6, fA.2 4 (by decide), hl, zlet_eq, fA.2 1 (by decide), d1]
  have kM : E_M_climbs q κ τ = if v ≤ κ (q + 7) 30 then Option.bind (E_M_slows q (zu B (q + 7) 27 (-(κ (q + 7) 27))) τ) fun ty7 => e_M_climbs_88 q ty7.1 ty7.2 else Option.bind (E_M_learns q B τ) fun ty8 => e_M_climbs_88 q ty8.1 ty8.2 := by
    rw [E_M_climbs, e_M_climbs_0, ← show μ (b + 11) 0 + μ (b + 11) 1 * μ (b + 11) 2 = κ (q + 7) 26 + κ (q + 7) 27 * κ (q + 7) 28 by rw [x1, x2, d1, p1], ob_eq (e2 κ τ), zlet_eq, zgh, ob_eq em, zlet_eq, ← hB, B30, fB.2.2 30 (by decide), zlet_eq, fB.2.2 27 (by decide)]
  rw [kC, kM]
  by_cases c : v ≤ κ (q + 7) 30
  · rw [if_pos c, if_pos c]
    obtain ⟨μ', κ', g1, g2, g3, g4, g5, g6, g7, g8⟩ := sim_sho (b := b) (q := q) (μ := zu A (b + 11) 1 (-(κ (q + 7) 27))) (κ := zu B (q + 7) 27 (-(κ (q + 7) 27))) (ν := ν) (τ := τ) (by rw [zgk (by decide), zgk (by decide), fA.2 2 (by decide), fB.2.2 28 (by decide)]; exact p1) (by rw [zgk (by decide), fB.2.2 28 (by decide)]; exact p2) (by rw [zgk (by decide), fB.2.2 28 (by decide)]; exact p3)
    refine ⟨μ', κ', by rw [ob_eq g1]; rfl, by rw [ob_eq g2]; rfl, (fA.tr (fC.rf.put (l := [1]) _ (by decide)) (l := [0, 1, 6]) (by decide) (by decide)).tr g3 (by decide) (by decide), (fB.tr (fM.rf.p7 (l := []) (l' := [27]) _ (by decide)) (l := [30]) (l' := [26, 27]) (by decide) (by decide) (by decide) (by decide)).tr g4 (by decide) (by decide) (by decide) (by decide), ⟨⟨y, hy, ?_, ?_⟩, ⟨?_, ?_⟩, ⟨g5, g6, g7⟩, g8⟩, ?_, ?_⟩
    · rw [g3.2 0 (by decide), zgk (by decide), A0]
    · rw [g4.2.2 26 (by decide), zgk (by decide), B26]
    · rw [g3.2 1 (by decide), g4.2.2 27 (by decide), zgh, zgh]
    · rw [g4.2.2 27 (by decide), zgh]
      rcases d2 with d | d
      · rw [d]; exact Or.inr rfl
      · rw [d]; exact Or.inl rfl
    · rw [g3.2 6 (by decide), g4.2.1 30 (by decide), zgr (by omega), zgk (by decide), A6, B30]
    · rw [g3.2 6 (by decide), zgk (by decide), A6, g3.1 (b + 3) (by omega), zgr (by omega), fA.1 (b + 3) (by omega)]; exact vb
  · rw [if_neg c, if_neg c]
    obtain ⟨μ', κ', g1, g2, g3, g4, g5, g6, g7, g8⟩ := sim_len (b := b) (q := q) (μ := A) (κ := B) (ν := ν) (τ := τ) (by rw [fA.2 2 (by decide), fB.2.2 28 (by decide)]; exact p1) (by rw [fB.2.2 28 (by decide)]; exact p2) (by rw [fB.2.2 28 (by decide)]; exact p3) (by rw [fA.2 3 (by decide), fB.2.2 29 (by decide)]; exact s1) (by rw [fA.1 _ (by omega), fB.2.2 13 (by decide)]; exact ht)
    refine ⟨μ', κ', by rw [ob_eq g1]; rfl, by rw [ob_eq g2]; rfl, fA.tr g3 (by decide) (by decide), fB.tr g4 (by decide) (by decide) (by decide) (by decide), ⟨⟨y, hy, ?_, ?_⟩, ⟨?_, ?_⟩, ⟨g5, g6, g7⟩, g8⟩, ?_, ?_⟩
    · rw [g3.2 0 (by decide), A0]
    · rw [g4.2.2 26 (by decide), B26]
    · rw [g3.2 1 (by decide), g4.2.2 27 (by decide), fA.2 1 (by decide), fB.2.2 27 (by decide)]; exact d1
    · rw [g4.2.2 27 (by decide), fB.2.2 27 (by decide)]; exact d2
    · rw [g3.2 6 (by decide), g4.2.1 30 (by decide), A6, B30]
    · rw [g3.2 6 (by decide), A6, g3.1 (b + 3) (by omega), fA.1 (b + 3) (by omega)]; exact vb
/-- the reference's way uphill -/
theorem M_way {b q n : Nat} {μ κ : zI} {τ : zJ} {w : Int32} (h : RP b q n μ κ) {x : Nat} (hx : x < 1000) (hw : wyI (pwr q n κ) x = w) (e26 : κ (q + 7) 26 = nI x) : ∃ u d, E_M_slopes q κ τ = if w = 0 then Option.bind (E_M_slows q κ τ) fun ty3 => e_M_slopes_135 q (nI x) (pwr q n κ x) u d ty3.1 ty3.2 else e_M_slopes_79 q (nI x) (pwr q n κ x) u d w κ τ := by
  have hm := mway (pw := pwr q n κ) (fun k hk => (h.pwb hk).1) hx
  rw [hw] at hm
  refine ⟨umI (pwr q n κ) x, dmI (pwr q n κ) x, ?_⟩
  have mp := fun y (hy : y < 1000) => h.mp (τ := τ) (fM.rf (l := []) (l' := [])) (by decide) (by decide) (y := y) hy
  have eu : E_M_slopes q κ τ = e_M_slopes_32 q (nI x) (pwr q n κ x) (umI (pwr q n κ) x) κ τ := by
    rw [E_M_slopes, e_M_slopes_0, zlet_eq, e26, ob_eq (mp x hx), zlet_eq, umI]
    by_cases c : x + 1 < 1000
    · rw [if_pos c, if_neg (lge (c := 999) (k := x) 999 rfl (by omega) (by decide)), nI_1, ob_eq (mp _ c)]
    · have e9 : x = 999 := by omega
      rw [if_neg c, if_pos (by rw [e9]; decide)]
  have ed : e_M_slopes_32 q (nI x) (pwr q n κ x) (umI (pwr q n κ) x) κ τ = e_M_slopes_48 q (nI x) (pwr q n κ x) (umI (pwr q n κ) x) (dmI (pwr q n κ) x) κ τ := by
    rw [e_M_slopes_32, dmI]
    by_cases c : 0 < x
    · rw [if_pos c, if_neg (nI_nle c (by omega)), nI_m1 c, ob_eq (mp (x - 1) (by omega))]
    · have e0 : x = 0 := by omega
      rw [if_neg c, if_pos (by rw [e0]; decide)]
  rw [eu, ed, e_M_slopes_48]
  generalize umI (pwr q n κ) x = u at *
  generalize dmI (pwr q n κ) x = d at *
  have s68 : ∀ {p : Prop} (_ : p), (if u ≤ d then (-1 : Int32) else 1) = w → e_M_slopes_68 q (nI x) (pwr q n κ x) u d κ τ = (if w = 0 then Option.bind (E_M_slows q κ τ) fun ty3 => e_M_slopes_135 q (nI x) (pwr q n κ x) u d ty3.1 ty3.2 else e_M_slopes_79 q (nI x) (pwr q n κ x) u d w κ τ) := by
    intro p _ hm
    rw [e_M_slopes_68]
    by_cases c : u ≤ d
    · rw [if_pos c] at hm
      rw [if_pos c, ← hm, if_neg (by decide)]
    · rw [if_neg c] at hm
      rw [if_neg c, ← hm, if_neg (by decide)]
  by_cases c : pwr q n κ x < u
  · rw [if_pos c]
    rw [if_pos c] at hm
    exact s68 c hm
  · rw [if_neg c]
    rw [if_neg c] at hm
    by_cases e : d ≤ pwr q n κ x
    · rw [if_pos e] at hm
      rw [if_neg (Int32.not_lt.mpr e), ← hm, if_pos rfl]
    · rw [if_neg e] at hm
      rw [if_pos (Int32.not_le.mp e)]
      exact s68 c hm
theorem wyI_three (p : Nat → Int32) (x : Nat) : wyI p x = 0 ∨ wyI p x = 1 ∨ wyI p x = -1 := by
  unfold wyI
  repeat' split
  all_goals decide
theorem sim_slope2 {b q n : Nat} {μ κ : zI} {ν τ : zJ} (h : RP b q n μ κ) (hG : RG b q μ κ) (ht : μ (b + 2) 13 = κ (q + 7) 13) : ∃ μ' κ', E_Follower_goUphill b μ ν = some (μ', ν) ∧ E_M_slopes q κ τ = some (κ', τ) ∧ fC (b + 11) [0, 1, 2, 3, 6] μ μ' ∧ fM q [30] [26, 27, 28, 29] κ κ' ∧ RG b q μ' κ' ∧ RV b q μ' κ' := by
  obtain ⟨⟨x, hx, x1, x2⟩, ⟨d1, d2⟩, ⟨p1, p2, p3⟩, s1⟩ := hG
  generalize hw : wyI (pwr q n κ) x = w
  have w3 := wyI_three (pwr q n κ) x
  rw [hw] at w3
  have way : E_Panel_steeperWay b (μ (b + 11) 0) μ ν = some (w, μ, ν) := by
    rw [x1, h.way hx]
    show some (wyI (pwr q n κ) x, μ, ν) = _
    rw [hw]
  obtain ⟨u, d, kM⟩ := M_way (τ := τ) h hx hw x2
  obtain ⟨y, hy, e1, e2⟩ := h.move (ν := ν) (μ (b + 11) 0 + w * μ (b + 11) 2)
  have vb := h.pwb hy
  generalize hv : pwr q n κ y = v at e1 vb
  obtain ⟨A, hA⟩ : ∃ A, A = zu (zu μ (b + 11) 0 (nI y)) (b + 11) 6 v := ⟨_, rfl⟩
  have fA : fC (b + 11) [0, 6] μ A := by rw [hA]; exact (fC.rf.put _ (by decide)).put _ (by decide)
  have A0 : A (b + 11) 0 = nI y := by rw [hA]; simp (disch := omega) only [zgh, zgk]
  have A6 : A (b + 11) 6 = v := by rw [hA]; simp (disch := omega) only [zgh]
  have kC : E_Follower_goUphill b μ ν = if w = κ (q + 7) 27 then Option.bind (E_Follower_lengthen b A ν) fun ty6 => e_Follower_goUphill_61 b w ty6.1 ty6.2 else (if w = 0 then e_Follower_goUphill_54 b w (κ (q + 7) 27) A ν else e_Follower_goUphill_54 b w w A ν) := by
    rw [E_Follower_goUphill, e_Follower_goUphill_0, ob_eq way, zlet_eq, ob_eq e1, ← hA]
    simp only [fA.2 1 (by decide), d1]
  have m135 : ∀ (K : zI) (u d p : Int32), fM q [30] [26, 27, 28, 29] κ K → K (q + 7) 26 = nI y → e_M_slopes_135 q (nI x) p u d K τ = some (zu K q 30 v, τ) := by
    intro K u d p hK e26
    rw [e_M_slopes_135, e26, ob_eq (h.mp hK (by decide) (by decide) hy), zlet_eq, hv]
  rw [kC, kM]
  have go54 : ∀ (s : Int32) (B : zI), fM q [] [26, 27] κ B → B (q + 7) 27 = s → B (q + 7) 26 = nI y → (s = 1 ∨ s = -1) → ∃ μ' κ', e_Follower_goUphill_54 b w s A ν = some (μ', ν) ∧ (Option.bind (E_M_slows q B τ) fun ty3 => e_M_slopes_135 q (nI x) (pwr q n κ x) u d ty3.1 ty3.2) = some (κ', τ) ∧ fC (b + 11) [0, 1, 2, 3, 6] μ μ' ∧ fM q [30] [26, 27, 28, 29] κ κ' ∧ RG b q μ' κ' ∧ RV b q μ' κ' := by
    intro s B fB b27 b26 hs
    obtain ⟨μ', κ', g1, g2, g3, g4, g5, g6, g7, g8⟩ := sim_sho (b := b) (q := q) (μ := zu A (b + 11) 1 s) (κ := B) (ν := ν) (τ := τ) (by rw [zgk (by decide), fA.2 2 (by decide), fB.2.2 28 (by decide)]; exact p1) (by rw [fB.2.2 28 (by decide)]; exact p2) (by rw [fB.2.2 28 (by decide)]; exact p3)
    have fK : fM q [30] [26, 27, 28, 29] κ κ' := fB.tr g4 (by decide) (by decide) (by decide) (by decide)
    have e26 : κ' (q + 7) 26 = nI y := by rw [g4.2.2 26 (by decide), b26]
    refine ⟨μ', zu κ' q 30 v, by rw [e_Follower_goUphill_54, zlet_eq, ob_eq g1]; rfl, by rw [ob_eq g2]; exact m135 _ _ _ _ fK e26, (fA.tr (fC.rf.put (l := [1]) _ (by decide)) (l := [0, 1, 6]) (by decide) (by decide)).tr g3 (by decide) (by decide), fK.pq _ (by decide), ⟨⟨y, hy, ?_, ?_⟩, ⟨?_, ?_⟩, ⟨?_, ?_, ?_⟩, ?_⟩, ?_, ?_⟩
    · rw [g3.2 0 (by decide), zgk (by decide), A0]
    · rw [zgr (by omega), e26]
    · rw [zgr (by omega), g3.2 1 (by decide), g4.2.2 27 (by decide), zgh, b27]
    · rw [zgr (by omega), g4.2.2 27 (by decide), b27]; exact hs
    · rw [zgr (by omega)]; exact g5
    · rw [zgr (by omega)]; exact g6
    · rw [zgr (by omega)]; exact g7
    · rw [zgr (by omega)]; exact g8
    · rw [zgh, g3.2 6 (by decide), zgk (by decide), A6]
    · rw [g3.2 6 (by decide), zgk (by decide), A6, g3.1 (b + 3) (by omega), zgr (by omega), fA.1 (b + 3) (by omega)]; exact vb
  by_cases c0 : w = 0
  · have cn : ¬ w = κ (q + 7) 27 := by
      rw [c0]
      rcases d2 with d | d <;> rw [d] <;> decide
    rw [if_pos c0, if_neg cn, if_pos c0]
    -- the point stays
    have ey : nI y = nI x := by
      have t := e2 κ τ
      rw [x1, c0, show nI x + 0 * μ (b + 11) 2 = nI x by rw [Int32.zero_mul, Int32.add_zero], E_M_within, e_M_within_0, if_pos (nI_pos' (by omega)), if_pos (show nI x ≤ 999 from nI_le (b := 999) (by omega) (by decide))] at t
      have t2 := congrArg (fun o => o.map Prod.fst) t
      exact (Option.some.inj t2).symm
    exact go54 _ κ fM.rf rfl (by rw [x2, ey]) d2
  · rw [if_neg c0, if_neg c0]
    have k79 : e_M_slopes_79 q (nI x) (pwr q n κ x) u d w κ τ = if w = κ (q + 7) 27 then Option.bind (E_M_learns q (zu κ (q + 7) 26 (nI y)) τ) fun ty6 => e_M_slopes_135 q (nI x) (pwr q n κ x) u d ty6.1 ty6.2 else Option.bind (E_M_slows q (zu (zu κ (q + 7) 26 (nI y)) (q + 7) 27 w) τ) fun ty5 => e_M_slopes_135 q (nI x) (pwr q n κ x) u d ty5.1 ty5.2 := by
      rw [e_M_slopes_79, ← show μ (b + 11) 0 + w * μ (b + 11) 2 = nI x + w * κ (q + 7) 28 by rw [x1, p1], ob_eq (e2 κ τ), zlet_eq, zgk (by decide), zlet_eq]
    rw [k79]
    by_cases c : w = κ (q + 7) 27
    · rw [if_pos c, if_pos c]
      have fB : fM q [] [26] κ (zu κ (q + 7) 26 (nI y)) := fM.rf.p7 _ (by decide)
      obtain ⟨μ', κ', g1, g2, g3, g4, g5, g6, g7, g8⟩ := sim_len (b := b) (q := q) (μ := A) (κ := zu κ (q + 7) 26 (nI y)) (ν := ν) (τ := τ) (by rw [fA.2 2 (by decide), fB.2.2 28 (by decide)]; exact p1) (by rw [fB.2.2 28 (by decide)]; exact p2) (by rw [fB.2.2 28 (by decide)]; exact p3) (by rw [fA.2 3 (by decide), fB.2.2 29 (by decide)]; exact s1) (by rw [fA.1 _ (by omega), fB.2.2 13 (by decide)]; exact ht)
      have fK : fM q [30] [26, 27, 28, 29] κ κ' := fB.tr g4 (by decide) (by decide) (by decide) (by decide)
      have e26 : κ' (q + 7) 26 = nI y := by rw [g4.2.2 26 (by decide), zgh]
      refine ⟨μ', zu κ' q 30 v, by rw [ob_eq g1]; rfl, by rw [ob_eq g2]; exact m135 _ _ _ _ fK e26, fA.tr g3 (by decide) (by decide), fK.pq _ (by decide), ⟨⟨y, hy, ?_, ?_⟩, ⟨?_, ?_⟩, ⟨?_, ?_, ?_⟩, ?_⟩, ?_, ?_⟩
      · rw [g3.2 0 (by decide), A0]
      · rw [zgr (by omega), e26]
      · rw [zgr (by omega), g3.2 1 (by decide), g4.2.2 27 (by decide), fA.2 1 (by decide), fB.2.2 27 (by decide)]; exact d1
      · rw [zgr (by omega), g4.2.2 27 (by decide), fB.2.2 27 (by decide)]; exact d2
      · rw [zgr (by omega)]; exact g5
      · rw [zgr (by omega)]; exact g6
      · rw [zgr (by omega)]; exact g7
      · rw [zgr (by omega)]; exact g8
      · rw [zgh, g3.2 6 (by decide), A6]
      · rw [g3.2 6 (by decide), A6, g3.1 (b + 3) (by omega), fA.1 (b + 3) (by omega)]; exact vb
    · rw [if_neg c, if_neg c]
      exact go54 w _ ((fM.rf.p7 _ (by decide)).p7 _ (by decide)) zgh (by rw [zgk (by decide), zgh]) (w3.resolve_left c0)
