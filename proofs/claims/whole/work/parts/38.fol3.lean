/-! The follower side by side: a scan wanted, a scan, the whole. -/
theorem sim_tail {b q : Nat} {μ κ : zI} {ν τ : zJ} (hV : RV b q μ κ) (hl : μ (b + 11) 4 = κ (q + 7) 30) (l0 : 0 ≤ (κ (q + 7) 30).toInt) (l9 : (κ (q + 7) 30).toInt ≤ 598801) (hs : μ (b + 11) 5 = κ (q + 7) 32) (t15 : μ (b + 2) 15 = κ (q + 7) 15) (t16 : μ (b + 2) 16 = κ (q + 7) 16) (d0 : 0 ≤ (κ (q + 7) 16).toInt) (d9 : (κ (q + 7) 16).toInt ≤ 100) : ∃ μ' κ', e_Follower_seek_85 b μ ν = some (μ', ν) ∧ e_M_follows_112 q κ τ = some (κ', τ) ∧ fC (b + 11) [4, 7, 10] μ μ' ∧ fM q [] [30, 31, 43, 44, 45] κ κ' ∧ μ' (b + 11) 4 = μ (b + 11) 6 ∧ κ' (q + 7) 30 = κ q 30 ∧ ((μ' (b + 11) 7 = μ (b + 11) 7 ∧ μ' (b + 11) 10 = μ (b + 11) 10 ∧ κ' (q + 7) 31 = κ (q + 7) 31) ∨ (μ' (b + 11) 7 = 1 ∧ μ' (b + 11) 10 = 0 ∧ κ' (q + 7) 31 = 1 ∧ κ' (q + 7) 43 = -1)) := by
  obtain ⟨v1, v2, v3⟩ := hV
  have k100 : (100 : Int32).toInt = 100 := rfl
  have e1 : (100 - κ (q + 7) 16).toInt = 100 - (κ (q + 7) 16).toInt := by rw [isb (by rw [k100]; omega) (by rw [k100]; omega), k100]
  have m1 : 0 ≤ (κ (q + 7) 30).toInt * (100 - κ (q + 7) 16).toInt := Int.mul_nonneg l0 (by rw [e1]; omega)
  have m2 : (κ (q + 7) 30).toInt * (100 - κ (q + 7) 16).toInt ≤ 598801 * 100 := Int.mul_le_mul l9 (by rw [e1]; omega) (by rw [e1]; omega) (by omega)
  have hc := lcmp2 (x := μ (b + 11) 6) (u := κ (q + 7) 30) (v := 100 - κ (q + 7) 16) (by omega) (by omega) (by omega) (by omega)
  have no : ∀ x1 x2, ∃ μ' κ', e_Follower_seek_97 b μ ν = some (μ', ν) ∧ e_M_follows_206 q x1 x2 κ τ = some (κ', τ) ∧ fC (b + 11) [4, 7, 10] μ μ' ∧ fM q [] [30, 31, 43, 44, 45] κ κ' ∧ μ' (b + 11) 4 = μ (b + 11) 6 ∧ κ' (q + 7) 30 = κ q 30 ∧ ((μ' (b + 11) 7 = μ (b + 11) 7 ∧ μ' (b + 11) 10 = μ (b + 11) 10 ∧ κ' (q + 7) 31 = κ (q + 7) 31) ∨ (μ' (b + 11) 7 = 1 ∧ μ' (b + 11) 10 = 0 ∧ κ' (q + 7) 31 = 1 ∧ κ' (q + 7) 43 = -1)) := fun x1 x2 =>
    ⟨zu μ (b + 11) 4 (μ (b + 11) 6), zu κ (q + 7) 30 (κ q 30), rfl, rfl, fC.rf.put _ (by decide), fM.rf.p7 _ (by decide), zgh, zgh, Or.inl ⟨zgk (by decide), zgk (by decide), zgk (by decide)⟩⟩
  have yes : ∀ x1 x2, ∃ μ' κ', (Option.bind (E_Follower_beginScan b μ ν) fun ty3 => e_Follower_seek_97 b ty3.1 ty3.2) = some (μ', ν) ∧ e_M_follows_202 q x1 x2 κ τ = some (κ', τ) ∧ fC (b + 11) [4, 7, 10] μ μ' ∧ fM q [] [30, 31, 43, 44, 45] κ κ' ∧ μ' (b + 11) 4 = μ (b + 11) 6 ∧ κ' (q + 7) 30 = κ q 30 ∧ ((μ' (b + 11) 7 = μ (b + 11) 7 ∧ μ' (b + 11) 10 = μ (b + 11) 10 ∧ κ' (q + 7) 31 = κ (q + 7) 31) ∨ (μ' (b + 11) 7 = 1 ∧ μ' (b + 11) 10 = 0 ∧ κ' (q + 7) 31 = 1 ∧ κ' (q + 7) 43 = -1)) := by
    intro x1 x2
    refine ⟨_, _, rfl, rfl, ((fC.rf.put _ (by decide)).put _ (by decide)).put _ (by decide), ((((fM.rf.p7 _ (by decide)).p7 _ (by decide)).p7 _ (by decide)).p7 _ (by decide)).p7 _ (by decide), ?_, ?_, Or.inr ⟨?_, ?_, ?_, ?_⟩⟩
    · simp (disch := omega) only [zgh, zgk]
    · simp (disch := omega) only [zgh, zgr]
    all_goals simp (disch := omega) only [zgh, zgk]
  -- what is wanted
  have key : ∀ (X : Bool) (_ : X = (if κ (q + 7) 15 ≤ 0 then false else if κ (q + 7) 15 ≤ κ (q + 7) 32 then true else false)) (Y : Bool) (_ : Y = (if κ (q + 7) 16 ≤ 0 then false else if κ (q + 7) 30 * (100 - κ (q + 7) 16) ≤ μ (b + 11) 6 * 100 then false else true)), E_Follower_wantsScan b μ ν = some (if (X || Y) = true then 1 else 0, μ, ν) ∧ ∃ x1 x2, e_M_follows_112 q κ τ = if (X || Y) = true then e_M_follows_202 q x1 x2 κ τ else e_M_follows_206 q x1 x2 κ τ := by
    intro X hX Y hY
    have w26 : ∀ y2, e_Follower_wantsScan_26 b y2 (κ (q + 7) 16) μ ν = some (if Y = true then 1 else 0, μ, ν) := by
      intro y2
      rw [e_Follower_wantsScan_26, hl, hY]
      by_cases c : κ (q + 7) 16 ≤ 0
      · rw [if_pos c, if_pos c]; rfl
      · rw [if_neg c, if_neg c]
        by_cases d : κ (q + 7) 30 * (100 - κ (q + 7) 16) ≤ μ (b + 11) 6 * 100
        · rw [if_pos d, if_pos d]; rfl
        · rw [if_neg d, if_neg d]; rfl
    have w144 : ∀ s0 : Int32, e_M_follows_144 q s0 κ τ = e_M_follows_193 q s0 (if Y = true then 1 else 0) κ τ := by
      intro s0
      rw [e_M_follows_144, hY, v1]
      by_cases c : κ (q + 7) 16 ≤ 0
      · rw [if_pos c, if_pos c]; rfl
      · rw [if_neg c, if_neg c]
        by_cases d : κ (q + 7) 30 * (100 - κ (q + 7) 16) ≤ μ (b + 11) 6 * 100
        · rw [if_pos d, if_pos (hc.mpr d)]; rfl
        · rw [if_neg d, if_neg (fun g => d (hc.mp g))]; rfl
    rw [E_Follower_wantsScan, e_Follower_wantsScan_0, ob_eq Tg15, zlet_eq, ob_eq Tg16, zlet_eq]
    simp only [t15, t16, hs]
    rw [e_M_follows_112]
    by_cases c : κ (q + 7) 15 ≤ 0
    · rw [if_pos c] at hX
      subst hX
      rw [if_pos c, if_pos c, w26, e_M_follows_143, w144, e_M_follows_193, if_pos rfl]
      refine ⟨by rw [Bool.false_or], 0, (if Y = true then 1 else 0), ?_⟩
      rw [Bool.false_or]
      cases Y
      · simp
      · rw [if_pos rfl, if_neg (by decide), if_pos rfl]
    · rw [if_neg c] at hX
      rw [if_neg c, if_neg c]
      by_cases d : κ (q + 7) 15 ≤ κ (q + 7) 32
      · rw [if_pos d] at hX
        subst hX
        rw [if_pos d, if_neg (Int32.not_lt.mpr d), w144, e_M_follows_193, if_neg one_ne_0]
        exact ⟨rfl, 1, (if Y = true then 1 else 0), rfl⟩
      · rw [if_neg d] at hX
        subst hX
        rw [if_neg d, if_pos (Int32.not_le.mp d), w26, e_M_follows_143, w144, e_M_follows_193, if_pos rfl]
        refine ⟨by rw [Bool.false_or], 0, (if Y = true then 1 else 0), ?_⟩
        rw [Bool.false_or]
        cases Y
        · simp
        · rw [if_pos rfl, if_neg (by decide), if_pos rfl]
  obtain ⟨k1, x1, x2, k2⟩ := key _ rfl _ rfl
  rw [e_Follower_seek_85, ob_eq k1, k2]
  dsimp only
  by_cases c : ((if κ (q + 7) 15 ≤ 0 then false else if κ (q + 7) 15 ≤ κ (q + 7) 32 then true else false) || if κ (q + 7) 16 ≤ 0 then false else if κ (q + 7) 30 * (100 - κ (q + 7) 16) ≤ μ (b + 11) 6 * 100 then false else true) = true
  · rw [if_pos c, if_neg one_ne_0, if_pos c]
    exact yes x1 x2
  · rw [if_neg c, if_pos rfl, if_neg c]
    exact no x1 x2
/-- what the two hold alike of a scan that goes on -/
def RN (b q : Nat) (μ κ : zI) : Prop := (μ (b + 11) 10 = 0 ∧ κ (q + 7) 43 = -1) ∨ (μ (b + 11) 10 = 1 ∧ κ (q + 7) 43 = κ (q + 7) 26 ∧ μ (b + 11) 12 = κ (q + 7) 44 ∧ ∃ z, z < 1000 ∧ μ (b + 11) 11 = nI z ∧ κ (q + 7) 45 = nI z)
theorem RP.moveN {b q n : Nat} {μ κ : zI} {ν : zJ} (h : RP b q n μ κ) {t : Nat} (ht : t < 1000) : E_Follower_moveTo b (nI t) μ ν = some (zu (zu μ (b + 11) 0 (nI t)) (b + 11) 6 (pwr q n κ t), ν) := by
  obtain ⟨y, hy, e1, e2⟩ := h.move (ν := ν) (nI t)
  have t' := e2 κ ν
  rw [E_M_within, e_M_within_0, if_pos (nI_pos' (by omega)), if_pos (show nI t ≤ 999 from nI_le (b := 999) (by omega) (by decide))] at t'
  have t2 : nI y = nI t := (Option.some.inj (congrArg (fun o => o.map Prod.fst) t')).symm
  have ey : y = t := (nI_eq (by omega) (by omega)).mp t2
  rw [e1, ey]
theorem sim_scan {b q n : Nat} {μ κ : zI} {ν τ : zJ} (h : RP b q n μ κ) (hG : RG b q μ κ) (hN : RN b q μ κ) (hl : μ (b + 11) 4 = κ (q + 7) 30) (l0 : 0 ≤ (κ (q + 7) 30).toInt) (l9 : (κ (q + 7) 30).toInt ≤ 598801) (hs : μ (b + 11) 5 = κ (q + 7) 32) (h7 : μ (b + 11) 7 = 1) (h31 : κ (q + 7) 31 = 1) (t12 : μ (b + 2) 12 = κ (q + 7) 12) (t12a : 1 ≤ (κ (q + 7) 12).toInt) (t12b : (κ (q + 7) 12).toInt ≤ 64) (t14 : μ (b + 2) 14 = κ (q + 7) 14) (g0 : 10 ≤ (κ (q + 7) 14).toInt) (g9 : (κ (q + 7) 14).toInt ≤ 200) : ∃ μ' κ' τ', E_Follower_scanOn b μ ν = some (μ', ν) ∧ E_M_scans q κ τ = some (κ', τ') ∧ fC (b + 11) [0, 1, 2, 3, 4, 5, 6, 7, 8, 9, 10, 11, 12] μ μ' ∧ fM q [30] [26, 27, 28, 29, 30, 31, 32, 43, 44, 45] κ κ' ∧ RG b q μ' κ' ∧ RV b q μ' κ' ∧ (μ' (b + 11) 4 = κ' (q + 7) 30 ∧ 0 ≤ (κ' (q + 7) 30).toInt ∧ (κ' (q + 7) 30).toInt ≤ 598801) ∧ μ' (b + 11) 5 = κ' (q + 7) 32 ∧ μ' (b + 11) 8 = 1 ∧ μ' (b + 11) 7 = κ' (q + 7) 31 ∧ ((κ' (q + 7) 31 = 1 ∧ RN b q μ' κ' ∧ μ' (b + 11) 9 = 0 ∧ μ' (b + 11) 10 = 1 ∧ τ' = τ) ∨ (κ' (q + 7) 31 = 0 ∧ μ' (b + 11) 9 = 1 ∧ μ' (b + 11) 10 = 1 ∧ τ' = zul τ (q + 9) 7 (τ (q + 9) 7 + 1))) := by
  obtain ⟨⟨x, hx, x1, x2⟩, ⟨d1, d2⟩, ⟨p1, p2, p3⟩, s1⟩ := hG
  -- where it goes
  obtain ⟨t, tb, eC, eM, tm⟩ : ∃ t, t < 1200 ∧ (if μ (b + 11) 10 = 0 then (0 : Int32) else μ (b + 11) 0 + μ (b + 2) 14) = nI t ∧ (if κ (q + 7) 43 = -1 then (0 : Int32) else κ (q + 7) 43 + κ (q + 7) 14) = nI t ∧ (1000 ≤ t → μ (b + 11) 10 = 1) := by
    rcases hN with ⟨a, c⟩ | ⟨a, c, -⟩
    · exact ⟨0, by omega, by rw [if_pos a]; rfl, by rw [if_pos c]; rfl, fun g => absurd g (by omega)⟩
    · obtain ⟨g, hg, eg⟩ := nI_of2 (M := 200) (n := 200) rfl (x := κ (q + 7) 14) (fun g => by have := ilt.mp g; rw [show (0 : Int32).toInt = 0 from rfl] at this; omega) (ile.mpr (by rw [show (200 : Int32).toInt = 200 from rfl]; omega))
      refine ⟨x + g, by omega, ?_, ?_, fun _ => a⟩
      · rw [if_neg (by rw [a]; decide), x1, t14, eg, nI_add]
      · rw [if_neg (by rw [c, x2]; exact nI_nm1 (by omega)), c, x2, eg, nI_add]
  obtain ⟨A, hA⟩ : ∃ A, A = zu (zu μ (b + 11) 8 1) (b + 11) 9 0 := ⟨_, rfl⟩
  have fA : fC (b + 11) [8, 9] μ A := by rw [hA]; exact (fC.rf.put _ (by decide)).put _ (by decide)
  have A8 : A (b + 11) 8 = 1 := by rw [hA]; simp (disch := omega) only [zgh, zgk]
  have A9 : A (b + 11) 9 = 0 := by rw [hA]; simp (disch := omega) only [zgh, zgk]
  have hPA : RP b q n A κ := h.ff fA (fM.rf (l := []) (l' := [])) (by decide) (by decide)
  have kC : E_Follower_scanOn b μ ν = e_Follower_scanOn_32 b (nI t) A ν := by
    rw [E_Follower_scanOn, e_Follower_scanOn_0, zlet_eq, zlet_eq, ← hA, fA.2 10 (by decide), ← eC]
    by_cases c : μ (b + 11) 10 = 0
    · rw [if_pos c, if_pos c]
    · rw [if_neg c, if_neg c, ob_eq Tg14, fA.2 0 (by decide), fA.1 (b + 2) (by omega)]
  have kM : E_M_scans q κ τ = e_M_scans_30 q (nI t) κ τ := by
    rw [E_M_scans, e_M_scans_0, ← eM]
    by_cases c : κ (q + 7) 43 = -1
    · rw [if_pos c, if_pos c]
    · rw [if_neg c, if_neg c]
  rw [kC, kM]
  by_cases ct : t < 1000
  · -- it goes on
    have vb := h.pwb ct
    have em := h.mp (τ := τ) (fM.rf.p7 (l := []) (l' := [26]) (κ := κ) (k := 26) (nI t) (by decide)) (by decide) (by decide) ct
    have eC2 := hPA.moveN (ν := ν) ct
    generalize hv : pwr q n κ t = v at vb em eC2
    obtain ⟨A1, hA1⟩ : ∃ A1, A1 = zu (zu A (b + 11) 0 (nI t)) (b + 11) 6 v := ⟨_, rfl⟩
    obtain ⟨B1, hB1⟩ : ∃ B1, B1 = zu (zu κ (q + 7) 26 (nI t)) q 30 v := ⟨_, rfl⟩
    have fA1 : fC (b + 11) [0, 6, 8, 9] μ A1 := by rw [hA1]; exact ((fA.wk (by decide)).put _ (by decide)).put _ (by decide)
    have fB1 : fM q [30] [26] κ B1 := by rw [hB1]; exact (fM.rf.p7 _ (by decide)).pq _ (by decide)
    have a0 : A1 (b + 11) 0 = nI t := by rw [hA1]; simp (disch := omega) only [zgh, zgk]
    have a6 : A1 (b + 11) 6 = v := by rw [hA1, zgh]
    have a8 : A1 (b + 11) 8 = 1 := by rw [hA1]; simp (disch := omega) only [zgk, A8]
    have a9 : A1 (b + 11) 9 = 0 := by rw [hA1]; simp (disch := omega) only [zgk, A9]
    have b26 : B1 (q + 7) 26 = nI t := by rw [hB1]; simp (disch := omega) only [zgh, zgr]
    have b30 : B1 q 30 = v := by rw [hB1, zgh]
    have kC2 : e_Follower_scanOn_32 b (nI t) A ν = if μ (b + 11) 10 = 0 then e_Follower_scanOn_71 b (nI t) A1 ν else if v ≤ μ (b + 11) 12 then e_Follower_scanOn_87 b (nI t) A1 ν else e_Follower_scanOn_71 b (nI t) A1 ν := by
      rw [e_Follower_scanOn_32, if_pos (show nI t ≤ 999 from nI_le (b := 999) (by omega) (by decide)), ob_eq eC2, ← hA1]
      simp only [fA1.2 10 (by decide), a6, fA1.2 12 (by decide)]
    have kM2 : e_M_scans_30 q (nI t) κ τ = if κ (q + 7) 43 = -1 then e_M_scans_80 q (nI t) B1 τ else if v ≤ κ (q + 7) 44 then e_M_scans_99 q (nI t) B1 τ else e_M_scans_80 q (nI t) B1 τ := by
      rw [e_M_scans_30, if_neg (lge (c := 1000) (k := t) 1000 rfl ct (by decide)), zlet_eq, ob_eq em, zlet_eq, ← hB1, fB1.2.2 43 (by decide), b30, fB1.2.2 44 (by decide)]
    rw [kC2, kM2]
    have new : ∃ μ' κ' τ', e_Follower_scanOn_71 b (nI t) A1 ν = some (μ', ν) ∧ e_M_scans_80 q (nI t) B1 τ = some (κ', τ') ∧ fC (b + 11) [0, 1, 2, 3, 4, 5, 6, 7, 8, 9, 10, 11, 12] μ μ' ∧ fM q [30] [26, 27, 28, 29, 30, 31, 32, 43, 44, 45] κ κ' ∧ RG b q μ' κ' ∧ RV b q μ' κ' ∧ (μ' (b + 11) 4 = κ' (q + 7) 30 ∧ 0 ≤ (κ' (q + 7) 30).toInt ∧ (κ' (q + 7) 30).toInt ≤ 598801) ∧ μ' (b + 11) 5 = κ' (q + 7) 32 ∧ μ' (b + 11) 8 = 1 ∧ μ' (b + 11) 7 = κ' (q + 7) 31 ∧ ((κ' (q + 7) 31 = 1 ∧ RN b q μ' κ' ∧ μ' (b + 11) 9 = 0 ∧ μ' (b + 11) 10 = 1 ∧ τ' = τ) ∨ (κ' (q + 7) 31 = 0 ∧ μ' (b + 11) 9 = 1 ∧ μ' (b + 11) 10 = 1 ∧ τ' = zul τ (q + 9) 7 (τ (q + 9) 7 + 1))) := by
      obtain ⟨K, hK⟩ : ∃ K, K = zu (zu (zu A1 (b + 11) 11 (nI t)) (b + 11) 12 v) (b + 11) 10 1 := ⟨_, rfl⟩
      obtain ⟨L, hL⟩ : ∃ L, L = zu (zu (zu B1 (q + 7) 44 v) (q + 7) 45 (nI t)) (q + 7) 43 (nI t) := ⟨_, rfl⟩
      have fK : fC (b + 11) [10, 11, 12] A1 K := by rw [hK]; exact ((fC.rf.put _ (by decide)).put _ (by decide)).put _ (by decide)
      have fL : fM q [] [43, 44, 45] B1 L := by rw [hL]; exact ((fM.rf.p7 _ (by decide)).p7 _ (by decide)).p7 _ (by decide)
      have r1 : e_Follower_scanOn_71 b (nI t) A1 ν = some (K, ν) := by
        rw [e_Follower_scanOn_71, zlet_eq, zlet_eq, zgk (by decide), a0, a6, e_Follower_scanOn_87, zlet_eq, hK]
      have r2 : e_M_scans_80 q (nI t) B1 τ = some (L, τ) := by
        rw [e_M_scans_80, zlet_eq, zlet_eq, b30, e_M_scans_99, zlet_eq, hL]
      refine ⟨K, L, τ, r1, r2, fA1.tr fK (by decide) (by decide), fB1.tr fL (by decide) (by decide) (by decide) (by decide), ⟨⟨t, ct, ?_, ?_⟩, ⟨?_, ?_⟩, ⟨?_, ?_, ?_⟩, ?_⟩, ⟨?_, ?_⟩, ⟨?_, ?_, ?_⟩, ?_, ?_, ?_, Or.inl ⟨?_, Or.inr ⟨?_, ?_, ?_, t, ct, ?_, ?_⟩, ?_, ?_, rfl⟩⟩
      · rw [fK.2 0 (by decide), a0]
      · rw [fL.2.2 26 (by decide), b26]
      · rw [fK.2 1 (by decide), fL.2.2 27 (by decide), fA1.2 1 (by decide), fB1.2.2 27 (by decide)]; exact d1
      · rw [fL.2.2 27 (by decide), fB1.2.2 27 (by decide)]; exact d2
      · rw [fK.2 2 (by decide), fL.2.2 28 (by decide), fA1.2 2 (by decide), fB1.2.2 28 (by decide)]; exact p1
      · rw [fL.2.2 28 (by decide), fB1.2.2 28 (by decide)]; exact p2
      · rw [fL.2.2 28 (by decide), fB1.2.2 28 (by decide)]; exact p3
      · rw [fK.2 3 (by decide), fL.2.2 29 (by decide), fA1.2 3 (by decide), fB1.2.2 29 (by decide)]; exact s1
      · rw [fL.2.1 30 (by decide), fK.2 6 (by decide), a6, b30]
      · rw [fK.2 6 (by decide), a6, fK.1 (b + 3) (by omega), fA1.1 (b + 3) (by omega)]; exact vb
      · rw [fK.2 4 (by decide), fL.2.2 30 (by decide), fA1.2 4 (by decide), fB1.2.2 30 (by decide)]; exact hl
      · rw [fL.2.2 30 (by decide), fB1.2.2 30 (by decide)]; exact l0
      · rw [fL.2.2 30 (by decide), fB1.2.2 30 (by decide)]; exact l9
      · rw [fK.2 5 (by decide), fL.2.2 32 (by decide), fA1.2 5 (by decide), fB1.2.2 32 (by decide)]; exact hs
      · rw [fK.2 8 (by decide), a8]
      · rw [fK.2 7 (by decide), fL.2.2 31 (by decide), fA1.2 7 (by decide), fB1.2.2 31 (by decide), h7, h31]
      · rw [fL.2.2 31 (by decide), fB1.2.2 31 (by decide), h31]
      · rw [hK, zgh]
      · rw [fL.2.2 26 (by decide), b26, hL, zgh]
      · rw [hK, hL]; simp (disch := omega) only [zgk, zgh]
      · rw [hK]; simp (disch := omega) only [zgk, zgh]
      · rw [hL]; simp (disch := omega) only [zgk, zgh]
      · rw [fK.2 9 (by decide), a9]
      · rw [hK, zgh]
    have old : μ (b + 11) 10 = 1 → μ (b + 11) 12 = κ (q + 7) 44 → (∃ z, z < 1000 ∧ μ (b + 11) 11 = nI z ∧ κ (q + 7) 45 = nI z) → ∃ μ' κ' τ', e_Follower_scanOn_87 b (nI t) A1 ν = some (μ', ν) ∧ e_M_scans_99 q (nI t) B1 τ = some (κ', τ') ∧ fC (b + 11) [0, 1, 2, 3, 4, 5, 6, 7, 8, 9, 10, 11, 12] μ μ' ∧ fM q [30] [26, 27, 28, 29, 30, 31, 32, 43, 44, 45] κ κ' ∧ RG b q μ' κ' ∧ RV b q μ' κ' ∧ (μ' (b + 11) 4 = κ' (q + 7) 30 ∧ 0 ≤ (κ' (q + 7) 30).toInt ∧ (κ' (q + 7) 30).toInt ≤ 598801) ∧ μ' (b + 11) 5 = κ' (q + 7) 32 ∧ μ' (b + 11) 8 = 1 ∧ μ' (b + 11) 7 = κ' (q + 7) 31 ∧ ((κ' (q + 7) 31 = 1 ∧ RN b q μ' κ' ∧ μ' (b + 11) 9 = 0 ∧ μ' (b + 11) 10 = 1 ∧ τ' = τ) ∨ (κ' (q + 7) 31 = 0 ∧ μ' (b + 11) 9 = 1 ∧ μ' (b + 11) 10 = 1 ∧ τ' = zul τ (q + 9) 7 (τ (q + 9) 7 + 1))) := by
      rintro z10 z12 ⟨z, hz, z1, z2⟩
      have fK : fC (b + 11) [10] A1 (zu A1 (b + 11) 10 1) := fC.rf.put _ (by decide)
      have fL : fM q [] [43] B1 (zu B1 (q + 7) 43 (nI t)) := fM.rf.p7 _ (by decide)
      refine ⟨_, _, τ, rfl, rfl, fA1.tr fK (by decide) (by decide), fB1.tr fL (by decide) (by decide) (by decide) (by decide), ⟨⟨t, ct, ?_, ?_⟩, ⟨?_, ?_⟩, ⟨?_, ?_, ?_⟩, ?_⟩, ⟨?_, ?_⟩, ⟨?_, ?_, ?_⟩, ?_, ?_, ?_, Or.inl ⟨?_, Or.inr ⟨?_, ?_, ?_, z, hz, ?_, ?_⟩, ?_, ?_, rfl⟩⟩
      · rw [fK.2 0 (by decide), a0]
      · rw [fL.2.2 26 (by decide), b26]
      · rw [fK.2 1 (by decide), fL.2.2 27 (by decide), fA1.2 1 (by decide), fB1.2.2 27 (by decide)]; exact d1
      · rw [fL.2.2 27 (by decide), fB1.2.2 27 (by decide)]; exact d2
      · rw [fK.2 2 (by decide), fL.2.2 28 (by decide), fA1.2 2 (by decide), fB1.2.2 28 (by decide)]; exact p1
      · rw [fL.2.2 28 (by decide), fB1.2.2 28 (by decide)]; exact p2
      · rw [fL.2.2 28 (by decide), fB1.2.2 28 (by decide)]; exact p3
      · rw [fK.2 3 (by decide), fL.2.2 29 (by decide), fA1.2 3 (by decide), fB1.2.2 29 (by decide)]; exact s1
      · rw [fL.2.1 30 (by decide), fK.2 6 (by decide), a6, b30]
      · rw [fK.2 6 (by decide), a6, fK.1 (b + 3) (by omega), fA1.1 (b + 3) (by omega)]; exact vb
      · rw [fK.2 4 (by decide), fL.2.2 30 (by decide), fA1.2 4 (by decide), fB1.2.2 30 (by decide)]; exact hl
      · rw [fL.2.2 30 (by decide), fB1.2.2 30 (by decide)]; exact l0
      · rw [fL.2.2 30 (by decide), fB1.2.2 30 (by decide)]; exact l9
      · rw [fK.2 5 (by decide), fL.2.2 32 (by decide), fA1.2 5 (by decide), fB1.2.2 32 (by decide)]; exact hs
      · rw [fK.2 8 (by decide), a8]
      · rw [fK.2 7 (by decide), fL.2.2 31 (by decide), fA1.2 7 (by decide), fB1.2.2 31 (by decide), h7, h31]
      · rw [fL.2.2 31 (by decide), fB1.2.2 31 (by decide), h31]
      · exact zgh
      · rw [fL.2.2 26 (by decide), b26, zgh]
      · rw [fK.2 12 (by decide), fL.2.2 44 (by decide), fA1.2 12 (by decide), fB1.2.2 44 (by decide)]; exact z12
      · rw [fK.2 11 (by decide), fA1.2 11 (by decide)]; exact z1
      · rw [fL.2.2 45 (by decide), fB1.2.2 45 (by decide)]; exact z2
      · rw [fK.2 9 (by decide), a9]
      · exact zgh
    rcases hN with ⟨n1, n2⟩ | ⟨n1, n2, n3, n4⟩
    · rw [if_pos n1, if_pos n2]
      exact new
    · rw [if_neg (show ¬ μ (b + 11) 10 = 0 by rw [n1]; decide), if_neg (show ¬ κ (q + 7) 43 = -1 by rw [n2, x2]; exact nI_nm1 (by omega)), n3]
      by_cases c : v ≤ κ (q + 7) 44
      · rw [if_pos c, if_pos c]
        exact old n1 n3 n4
      · rw [if_neg c, if_neg c]
        exact new
  · -- it ends
    have n10' := tm (by omega)
    obtain ⟨z, hz, z1, z2⟩ : ∃ z, z < 1000 ∧ μ (b + 11) 11 = nI z ∧ κ (q + 7) 45 = nI z := by
      rcases hN with ⟨a, -⟩ | ⟨-, -, -, z⟩
      · rw [a] at n10'; exact absurd n10' (by decide)
      · exact z
    have vb := h.pwb hz
    have em := h.mp (τ := τ) ((fM.rf.p7 (l := []) (l' := [26, 31]) (κ := κ) (k := 31) 0 (by decide)).p7 (k := 26) (nI z) (by decide)) (by decide) (by decide) hz
    have eC2 := hPA.moveN (ν := ν) hz
    generalize hv : pwr q n κ z = v at vb em eC2
    obtain ⟨K, hK⟩ : ∃ K, K = zu (zu (zu (zu (zu (zu (zu (zu (zu A (b + 11) 0 (nI z)) (b + 11) 6 v) (b + 11) 2 (κ (q + 7) 12)) (b + 11) 3 0) (b + 11) 1 1) (b + 11) 5 0) (b + 11) 4 v) (b + 11) 7 0) (b + 11) 9 1 := ⟨_, rfl⟩
    obtain ⟨L, hL⟩ : ∃ L, L = zu (zu (zu (zu (zu (zu (zu (zu κ (q + 7) 31 0) (q + 7) 26 (nI z)) q 30 v) (q + 7) 28 (κ (q + 7) 12)) (q + 7) 29 0) (q + 7) 27 1) (q + 7) 32 0) (q + 7) 30 v := ⟨_, rfl⟩
    have fK : fC (b + 11) [0, 1, 2, 3, 4, 5, 6, 7, 8, 9, 10, 11, 12] μ K := by
      rw [hK]
      exact (((((((((fA.wk (l := [0, 1, 2, 3, 4, 5, 6, 7, 8, 9, 10, 11, 12]) (by decide)).put _ (by decide)).put _ (by decide)).put _ (by decide)).put _ (by decide)).put _ (by decide)).put _ (by decide)).put _ (by decide)).put _ (by decide)).put _ (by decide)
    have fL : fM q [30] [26, 27, 28, 29, 30, 31, 32, 43, 44, 45] κ L := by
      rw [hL]
      exact (((((((fM.rf.p7 _ (by decide)).p7 _ (by decide)).pq _ (by decide)).p7 _ (by decide)).p7 _ (by decide)).p7 _ (by decide)).p7 _ (by decide)).p7 _ (by decide)
    have r1 : e_Follower_scanOn_32 b (nI t) A ν = some (K, ν) := by
      have ee : E_Follower_endScan b A ν = some (K, ν) := by
        rw [E_Follower_endScan, e_Follower_endScan_0, fA.2 11 (by decide), z1, ob_eq eC2, ob_eq Tg12]
        dsimp only
        rw [zlet_eq, zlet_eq, zlet_eq, zlet_eq, zlet_eq, zlet_eq, zlet_eq, hK]
        rw [show zu (zu A (b + 11) 0 (nI z)) (b + 11) 6 v (b + 2) 12 = κ (q + 7) 12 by rw [zgr (by omega), zgr (by omega), fA.1 _ (by omega)]; exact t12]
        rw [show zu (zu (zu (zu (zu (zu A (b + 11) 0 (nI z)) (b + 11) 6 v) (b + 11) 2 (κ (q + 7) 12)) (b + 11) 3 0) (b + 11) 1 1) (b + 11) 5 0 (b + 11) 6 = v by simp (disch := omega) only [zgk, zgh]]
      rw [e_Follower_scanOn_32, if_neg (show ¬ nI t ≤ 999 from nI_ge (a := 999) (by omega) (by omega)), ob_eq ee]
    have r2 : e_M_scans_30 q (nI t) κ τ = some (L, zul τ (q + 9) 7 (τ (q + 9) 7 + 1)) := by
      rw [e_M_scans_30, if_pos (show (1000 : Int32) ≤ nI t from nI_le (a := 1000) (by omega) (by omega)), zlet_eq, zlet_eq, zgk (show (45 : Nat) ≠ 31 by decide), z2, zgh, ob_eq em]
      dsimp only
      rw [zlet_eq, zlet_eq, zlet_eq, zlet_eq, zlet_eq, zlet_eq, zlet_eq, hL]
      rw [show zu (zu (zu κ (q + 7) 31 0) (q + 7) 26 (nI z)) q 30 v (q + 7) 12 = κ (q + 7) 12 by rw [zgr (by omega), zgk (by decide), zgk (by decide)]]
      rw [show zu (zu (zu (zu (zu (zu (zu κ (q + 7) 31 0) (q + 7) 26 (nI z)) q 30 v) (q + 7) 28 (κ (q + 7) 12)) (q + 7) 29 0) (q + 7) 27 1) (q + 7) 32 0 q 30 = v by simp (disch := omega) only [zgr, zgh]]
    refine ⟨K, L, _, r1, r2, fK, fL, ⟨⟨z, hz, ?_, ?_⟩, ⟨?_, Or.inl ?_⟩, ⟨?_, ?_, ?_⟩, ?_⟩, ⟨?_, ?_⟩, ⟨?_, ?_, ?_⟩, ?_, ?_, ?_, Or.inr ⟨?_, ?_, ?_, rfl⟩⟩
    · rw [hK]; simp (disch := omega) only [zgk, zgh]
    · rw [hL]; simp (disch := omega) only [zgk, zgr, zgh]
    · rw [hK, hL]; simp (disch := omega) only [zgk, zgr, zgh]
    · rw [hL]; simp (disch := omega) only [zgk, zgr, zgh]
    · rw [hK, hL]; simp (disch := omega) only [zgk, zgr, zgh]
    · rw [hL]; simp (disch := omega) only [zgk, zgr, zgh, t12a]
    · rw [hL]; simp (disch := omega) only [zgk, zgr, zgh]; exact t12b
    · rw [hK, hL]; simp (disch := omega) only [zgk, zgr, zgh]
    · rw [hK, hL]; simp (disch := omega) only [zgk, zgr, zgh]
    · rw [hK]; simp (disch := omega) only [zgk, zgr, zgh]; rw [fA.1 (b + 3) (by omega)]; exact vb
    · rw [hK, hL]; simp (disch := omega) only [zgk, zgr, zgh]
    · rw [hL]; simp (disch := omega) only [zgh, vb]
    · rw [hL]; simp (disch := omega) only [zgh, vb]
    · rw [hK, hL]; simp (disch := omega) only [zgk, zgr, zgh]
    · rw [hK]; simp (disch := omega) only [zgk, zgr, zgh, A8]
    · rw [hK, hL]; simp (disch := omega) only [zgk, zgr, zgh]
    · rw [hL]; simp (disch := omega) only [zgk, zgr, zgh]
    · rw [hK]; simp (disch := omega) only [zgk, zgr, zgh]
    · rw [hK]; simp (disch := omega) only [zgk, zgr]; rw [fA.2 10 (by decide)]; exact n10'
