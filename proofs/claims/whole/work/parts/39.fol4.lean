/-! The follower's tick side by side. -/
def tLO : List Int := [1000, 0, 1100, 1100, 0, 1, 0, 1, 1, 0, 1, 1, 1, 1, 10, 0, 0, 0, 1]
def tHI : List Int := [99999, 999, 2000, 2000, 100, 200, 99999, 5000, 20, 1000, 99, 99999, 64, 9, 200, 500, 100, 2, 99]
/-- what was told, the same and in its bounds -/
def RTo (b q : Nat) (μ κ : zI) : Prop := ∀ k, k < 19 → μ (b + 2) k = κ (q + 7) k ∧ tLO.getD k 0 ≤ (κ (q + 7) k).toInt ∧ (κ (q + 7) k).toInt ≤ tHI.getD k 0
def RF (b q : Nat) (μ κ : zI) : Prop := RG b q μ κ ∧ (μ (b + 11) 4 = κ (q + 7) 30 ∧ 0 ≤ (κ (q + 7) 30).toInt ∧ (κ (q + 7) 30).toInt ≤ 598801) ∧ μ (b + 11) 5 = κ (q + 7) 32 ∧ (μ (b + 11) 7 = κ (q + 7) 31 ∧ (κ (q + 7) 31 = 0 ∨ κ (q + 7) 31 = 1)) ∧ (κ (q + 7) 31 = 1 → RN b q μ κ) ∧ (μ (b + 11) 8 = 0 ∨ μ (b + 11) 8 = 1) ∧ (μ (b + 11) 9 = 0 ∨ μ (b + 11) 9 = 1) ∧ (μ (b + 11) 10 = 0 ∨ μ (b + 11) 10 = 1)
theorem RG.ff {b q : Nat} {μ μ' κ κ' : zI} {l l1 l2 : List Nat} (h : RG b q μ κ) (f : fC (b + 11) l μ μ') (g : fM q l1 l2 κ κ') (c : 0 ∉ l ∧ 1 ∉ l ∧ 2 ∉ l ∧ 3 ∉ l) (d : 26 ∉ l2 ∧ 27 ∉ l2 ∧ 28 ∉ l2 ∧ 29 ∉ l2) : RG b q μ' κ' := by
  unfold RG
  rw [f.2 0 c.1, f.2 1 c.2.1, f.2 2 c.2.2.1, f.2 3 c.2.2.2, g.2.2 26 d.1, g.2.2 27 d.2.1, g.2.2 28 d.2.2.1, g.2.2 29 d.2.2.2]
  exact h
theorem RTo.fr {b q : Nat} {μ μ' κ κ' : zI} (h : RTo b q μ κ) (f : μ' (b + 2) = μ (b + 2)) (g : ∀ k, k < 19 → κ' (q + 7) k = κ (q + 7) k) : RTo b q μ' κ' := fun k hk => by rw [f, g k hk]; exact h k hk
abbrev fL : List Nat := [0, 1, 2, 3, 4, 5, 6, 7, 8, 9, 10, 11, 12]
abbrev fK : List Nat := [26, 27, 28, 29, 30, 31, 32, 43, 44, 45]
theorem sim_follow {b q n : Nat} {μ κ : zI} {ν τ : zJ} (hP : RP b q n μ κ) (hT : RTo b q μ κ) (hF : RF b q μ κ) : ∃ μ' κ' τ', (if μ (b + 11) 7 = 0 then E_Follower_seek b μ ν else E_Follower_scanOn b μ ν) = some (μ', ν) ∧ E_M_follows q κ τ = some (κ', τ') ∧ fC (b + 11) fL μ μ' ∧ fM q [30, 31] fK κ κ' ∧ RF b q μ' κ' ∧ RV b q μ' κ' ∧ κ' q 31 = μ' (b + 11) 8 ∧ (μ' (b + 11) 9 = 0 → τ' = τ) ∧ (¬ μ' (b + 11) 9 = 0 → τ' = zul τ (q + 9) 7 (τ (q + 9) 7 + 1)) := by
  obtain ⟨hG, ⟨hl, l0, l9⟩, hs, ⟨h7, s01⟩, hN, z8, z9, z10⟩ := hF
  have T12a : 1 ≤ (κ (q + 7) 12).toInt := (hT 12 (by decide)).2.1
  have T12b : (κ (q + 7) 12).toInt ≤ 64 := (hT 12 (by decide)).2.2
  have T14a : 10 ≤ (κ (q + 7) 14).toInt := (hT 14 (by decide)).2.1
  have T14b : (κ (q + 7) 14).toInt ≤ 200 := (hT 14 (by decide)).2.2
  have T16a : 0 ≤ (κ (q + 7) 16).toInt := (hT 16 (by decide)).2.1
  have T16b : (κ (q + 7) 16).toInt ≤ 100 := (hT 16 (by decide)).2.2
  have T18a : 1 ≤ (κ (q + 7) 18).toInt := (hT 18 (by decide)).2.1
  have T18b : (κ (q + 7) 18).toInt ≤ 99 := (hT 18 (by decide)).2.2
  rcases s01 with s | s
  · -- without a scan
    rw [if_pos (h7.trans s)]
    obtain ⟨A, hA⟩ : ∃ A, A = zu (zu (zu μ (b + 11) 8 0) (b + 11) 9 0) (b + 11) 5 (κ (q + 7) 32 + 1) := ⟨_, rfl⟩
    obtain ⟨B, hB⟩ : ∃ B, B = zu (zu κ q 31 0) (q + 7) 32 (κ (q + 7) 32 + 1) := ⟨_, rfl⟩
    have fA : fC (b + 11) [5, 8, 9] μ A := by rw [hA]; exact ((fC.rf.put _ (by decide)).put _ (by decide)).put _ (by decide)
    have fB : fM q [31] [32] κ B := by rw [hB]; exact (fM.rf.pq _ (by decide)).p7 _ (by decide)
    have A5 : A (b + 11) 5 = κ (q + 7) 32 + 1 := by rw [hA, zgh]
    have A8 : A (b + 11) 8 = 0 := by rw [hA]; simp (disch := omega) only [zgh, zgk]
    have A9 : A (b + 11) 9 = 0 := by rw [hA]; simp (disch := omega) only [zgh, zgk]
    have A2 : A (b + 2) = μ (b + 2) := fA.1 _ (by omega)
    have B32 : B (q + 7) 32 = κ (q + 7) 32 + 1 := by rw [hB, zgh]
    have B31 : B q 31 = 0 := by rw [hB]; simp (disch := omega) only [zgh, zgr]
    have PA : RP b q n A B := hP.ff fA fB (by decide) (by decide)
    have GA : RG b q A B := hG.ff fA fB (by decide) (by decide)
    have kC : E_Follower_seek b μ ν = if κ (q + 7) 17 = 1 then Option.bind (E_Follower_goUphill b A ν) fun ty7 => e_Follower_seek_85 b ty7.1 ty7.2 else (if κ (q + 7) 17 = 2 then Option.bind (E_Panel_pointOfShare b (κ (q + 7) 18) A ν) fun ty9 => Option.bind (E_Follower_moveTo b ty9.1 ty9.2.1 ty9.2.2) fun ty10 => e_Follower_seek_85 b ty10.1 ty10.2 else Option.bind (E_Follower_climb b A ν) fun ty11 => e_Follower_seek_85 b ty11.1 ty11.2) := by
      rw [E_Follower_seek, e_Follower_seek_0, zlet_eq, zlet_eq, zlet_eq]
      rw [show zu (zu μ (b + 11) 8 0) (b + 11) 9 0 (b + 11) 5 = κ (q + 7) 32 by rw [zgk (by decide), zgk (by decide), hs], ← hA, ob_eq Tg17]
      simp only [A2, (hT 17 (by decide)).1, Tg18, (hT 18 (by decide)).1, Option.bind_some]
    have kM : E_M_follows q κ τ = if κ (q + 7) 17 = 2 then Option.bind (E_M_shared q (κ (q + 7) 18) B τ) fun ty9 => zlet (zu ty9.2.1 (q + 7) 26 ty9.1) fun μy10 => Option.bind (E_M_powerAt q (μy10 (q + 7) 26) μy10 ty9.2.2) fun ty11 => zlet (zu ty11.2.1 q 30 ty11.1) fun μy12 => e_M_follows_112 q μy12 ty11.2.2 else (if κ (q + 7) 17 = 1 then Option.bind (E_M_slopes q B τ) fun ty8 => e_M_follows_112 q ty8.1 ty8.2 else Option.bind (E_M_climbs q B τ) fun ty7 => e_M_follows_112 q ty7.1 ty7.2) := by
      rw [E_M_follows, e_M_follows_0, if_neg (by rw [s]; decide), e_M_follows_17, if_pos (show zb 0 = true from rfl), zlet_eq, if_pos zgh, zlet_eq]
      rw [show zu κ q 31 0 (q + 7) 32 = κ (q + 7) 32 by rw [zgr (by omega)], ← hB, fB.2.2 17 (by decide), fB.2.2 18 (by decide)]
    have fin : ∀ μ1 κ1, fC (b + 11) [0, 1, 2, 3, 6] A μ1 → fM q [30] [26, 27, 28, 29] B κ1 → RG b q μ1 κ1 → RV b q μ1 κ1 → E_Follower_seek b μ ν = e_Follower_seek_85 b μ1 ν → E_M_follows q κ τ = e_M_follows_112 q κ1 τ → ∃ μ' κ' τ', E_Follower_seek b μ ν = some (μ', ν) ∧ E_M_follows q κ τ = some (κ', τ') ∧ fC (b + 11) fL μ μ' ∧ fM q [30, 31] fK κ κ' ∧ RF b q μ' κ' ∧ RV b q μ' κ' ∧ κ' q 31 = μ' (b + 11) 8 ∧ (μ' (b + 11) 9 = 0 → τ' = τ) ∧ (¬ μ' (b + 11) 9 = 0 → τ' = zul τ (q + 9) 7 (τ (q + 9) 7 + 1)) := by
      intro μ1 κ1 f1 g1 G1 V1 e1 e2
      have m4 : μ1 (b + 11) 4 = κ1 (q + 7) 30 := by rw [f1.2 4 (by decide), g1.2.2 30 (by decide), fA.2 4 (by decide), fB.2.2 30 (by decide)]; exact hl
      have m30 : κ1 (q + 7) 30 = κ (q + 7) 30 := by rw [g1.2.2 30 (by decide), fB.2.2 30 (by decide)]
      obtain ⟨μ', κ', t1, t2, t3, t4, t5, t6, t7⟩ := sim_tail (b := b) (q := q) (μ := μ1) (κ := κ1) (ν := ν) (τ := τ) V1 m4 (by rw [m30]; exact l0) (by rw [m30]; exact l9) (by rw [f1.2 5 (by decide), g1.2.2 32 (by decide), A5, B32]) (by rw [f1.1 _ (by omega), A2, g1.2.2 15 (by decide), fB.2.2 15 (by decide)]; exact (hT 15 (by decide)).1) (by rw [f1.1 _ (by omega), A2, g1.2.2 16 (by decide), fB.2.2 16 (by decide)]; exact (hT 16 (by decide)).1) (by rw [g1.2.2 16 (by decide), fB.2.2 16 (by decide)]; exact T16a) (by rw [g1.2.2 16 (by decide), fB.2.2 16 (by decide)]; exact T16b)
      have n7 : μ1 (b + 11) 7 = 0 := by rw [f1.2 7 (by decide), fA.2 7 (by decide), h7, s]
      have n31 : κ1 (q + 7) 31 = 0 := by rw [g1.2.2 31 (by decide), fB.2.2 31 (by decide), s]
      have V' : RV b q μ' κ' := by
        unfold RV
        rw [t3.2 6 (by decide), t4.2.1 30 (by decide), t3.1 (b + 3) (by omega)]
        exact V1
      refine ⟨μ', κ', τ, e1.trans t1, e2.trans t2, (fA.tr f1 (l := fL) (by decide) (by decide)).tr t3 (fun _ h => h) (by decide), (fB.tr g1 (l := [30, 31]) (l' := fK) (by decide) (by decide) (by decide) (by decide)).tr t4 (fun _ h => h) (fun _ h => h) (by decide) (by decide), ⟨G1.ff t3 t4 (by decide) (by decide), ⟨?_, ?_, ?_⟩, ?_, ?_, ?_, ?_, ?_, ?_⟩, V', ?_, fun _ => rfl, fun g => absurd ?_ g⟩
      · rw [t5, t6]; exact V1.1.symm
      · rw [t6, V1.1]; exact V1.2.1
      · rw [t6, V1.1]; exact V1.2.2.1
      · rw [t3.2 5 (by decide), t4.2.2 32 (by decide), f1.2 5 (by decide), g1.2.2 32 (by decide), A5, B32]
      · rcases t7 with ⟨u1, u2, u3⟩ | ⟨u1, u2, u3, u4⟩
        · rw [u1, u3, n7, n31]; exact ⟨rfl, Or.inl rfl⟩
        · rw [u1, u3]; exact ⟨rfl, Or.inr rfl⟩
      · intro hh
        rcases t7 with ⟨u1, u2, u3⟩ | ⟨u1, u2, u3, u4⟩
        · rw [u3, n31] at hh; exact absurd hh (by decide)
        · exact Or.inl ⟨u2, u4⟩
      · rw [t3.2 8 (by decide), f1.2 8 (by decide), A8]; exact Or.inl rfl
      · rw [t3.2 9 (by decide), f1.2 9 (by decide), A9]; exact Or.inl rfl
      · rcases t7 with ⟨u1, u2, u3⟩ | ⟨u1, u2, u3, u4⟩
        · rw [u2, f1.2 10 (by decide), fA.2 10 (by decide)]; exact z10
        · exact Or.inl u2
      · rw [t4.2.1 31 (by decide), g1.2.1 31 (by decide), B31, t3.2 8 (by decide), f1.2 8 (by decide), A8]
      · rw [t3.2 9 (by decide), f1.2 9 (by decide), A9]
    have T13 : A (b + 2) 13 = B (q + 7) 13 := by rw [A2, fB.2.2 13 (by decide)]; exact (hT 13 (by decide)).1
    by_cases w1 : κ (q + 7) 17 = 1
    · obtain ⟨μ1, κ1, r1, r2, r3, r4, r5, r6⟩ := sim_slope2 (ν := ν) (τ := τ) PA GA T13
      exact fin μ1 κ1 r3 r4 r5 r6 (by rw [kC, if_pos w1, ob_eq r1]) (by rw [kM, if_neg (by rw [w1]; decide), if_pos w1, ob_eq r2])
    · by_cases w2 : κ (q + 7) 17 = 2
      · obtain ⟨pb, r1, r2⟩ := PA.share (ν := ν) (τ := τ) (x := κ (q + 7) 18) (by omega) T18b
        generalize ptS q n B (κ (q + 7) 18) = p at pb r1 r2
        have mv := PA.moveN (ν := ν) pb
        have em := PA.mp (τ := τ) (fM.rf.p7 (l := []) (l' := [26]) (κ := B) (k := 26) (nI p) (by decide)) (by decide) (by decide) pb
        have vb := PA.pwb pb
        generalize pwr q n B p = v at mv em vb
        refine fin (zu (zu A (b + 11) 0 (nI p)) (b + 11) 6 v) (zu (zu B (q + 7) 26 (nI p)) q 30 v) ((fC.rf.put _ (by decide)).put _ (by decide)) ((fM.rf.p7 _ (by decide)).pq _ (by decide)) ?_ ?_ (by rw [kC, if_neg w1, if_pos w2, ob_eq r1, ob_eq mv]) (by rw [kM, if_pos w2, ob_eq r2, zlet_eq, zgh, ob_eq em, zlet_eq])
        · obtain ⟨-, g2, g3, g4⟩ := GA
          refine ⟨⟨p, pb, ?_, ?_⟩, ?_, ?_, ?_⟩
          · simp (disch := omega) only [zgh, zgk]
          · simp (disch := omega) only [zgh, zgr]
          · simp (disch := omega) only [zgk, zgr]; exact g2
          · simp (disch := omega) only [zgk, zgr]; exact g3
          · simp (disch := omega) only [zgk, zgr]; exact g4
        · refine ⟨?_, ?_⟩
          · rw [zgh, zgh]
          · rw [zgh, zgr (show b + 3 ≠ b + 11 by omega), zgr (show b + 3 ≠ b + 11 by omega)]; exact vb
      · obtain ⟨μ1, κ1, r1, r2, r3, r4, r5, r6⟩ := sim_climb (ν := ν) (τ := τ) PA GA (by rw [fA.2 4 (by decide), fB.2.2 30 (by decide)]; exact hl) T13
        exact fin μ1 κ1 r3 r4 r5 r6 (by rw [kC, if_neg w1, if_neg w2, ob_eq r1]) (by rw [kM, if_neg w2, if_neg w1, ob_eq r2])
  · -- a scan goes on
    rw [if_neg (by rw [h7, s]; decide)]
    have fB : fM q [31] [] κ (zu κ q 31 1) := fM.rf.pq _ (by decide)
    have PB : RP b q n μ (zu κ q 31 1) := hP.ff (fC.rf (l := [])) fB (by decide) (by decide)
    have e7 : ∀ k, zu κ q 31 1 (q + 7) k = κ (q + 7) k := fun k => fB.2.2 k (by simp)
    have NB : RN b q μ (zu κ q 31 1) := by
      unfold RN
      rw [e7, e7, e7, e7]
      exact hN s
    obtain ⟨μ', κ', τ', t1, t2, t3, t4, t5, t6, t7, t8, t9, t10, t11⟩ := sim_scan (ν := ν) (τ := τ) PB (hG.ff (fC.rf (l := [])) fB (by decide) (by decide)) NB (by rw [e7]; exact hl) (by rw [e7]; exact l0) (by rw [e7]; exact l9) (by rw [e7]; exact hs) (h7.trans s) (by rw [e7]; exact s) (by rw [e7]; exact (hT 12 (by decide)).1) (by rw [e7]; exact T12a) (by rw [e7]; exact T12b) (by rw [e7]; exact (hT 14 (by decide)).1) (by rw [e7]; exact T14a) (by rw [e7]; exact T14b)
    have q31 : κ' q 31 = 1 := by rw [t4.2.1 31 (by decide), zgh]
    refine ⟨μ', κ', τ', t1, ?_, t3, fB.tr t4 (by decide) (by decide) (by decide) (fun _ h => h), ⟨t5, t7, t8, ?_, ?_, ?_, ?_, ?_⟩, t6, q31.trans t9.symm, ?_, ?_⟩
    · rw [E_M_follows, e_M_follows_0, if_pos s, e_M_follows_17, if_pos (show zb 1 = true from rfl), zlet_eq, if_neg (by rw [zgh]; decide), ob_eq t2]
    · rcases t11 with ⟨u, -⟩ | ⟨u, -⟩
      · exact ⟨t10, Or.inr u⟩
      · exact ⟨t10, Or.inl u⟩
    · intro hh
      rcases t11 with ⟨u, v, -⟩ | ⟨u, -⟩
      · exact v
      · rw [u] at hh; exact absurd hh (by decide)
    · exact Or.inr t9
    · rcases t11 with ⟨-, -, u, -⟩ | ⟨-, u, -⟩
      · exact Or.inl u
      · exact Or.inr u
    · rcases t11 with ⟨-, -, -, u, -⟩ | ⟨-, -, u, -⟩
      · exact Or.inr u
      · exact Or.inr u
    · intro g
      rcases t11 with ⟨-, -, -, -, u⟩ | ⟨-, u, -⟩
      · exact u
      · rw [u] at g; exact absurd g (by decide)
    · intro g
      rcases t11 with ⟨-, -, u, -⟩ | ⟨-, -, -, u⟩
      · exact absurd u g
      · exact u
