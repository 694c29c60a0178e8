/-! One tick, side by side. -/
def RSt (b q n c x : Nat) (μ κ : zI) : Prop := RP b q n μ κ ∧ RTo b q μ κ ∧ RF b q μ κ ∧ RB b q μ κ ∧ RI b q μ κ ∧ RS b q n c x μ κ ∧ μ b 0 = κ (q + 7) 25 ∧ (∀ j, j < c - x → (κ (q + 7) 25).toInt < (κ (q + 7) (47 + (4 * j + 0))).toInt) ∧ 0 ≤ (κ (q + 7) 25).toInt ∧ (μ (b + 13) 7 = 0 ∨ μ (b + 13) 7 = 1)
/-- what the reference does where nothing is tried -/
def tkN (q : Nat) (y : Int32) (κ : zI) (τ : zJ) : Option (zI × zJ) := Option.bind (E_M_bestNow q κ τ) fun ty12 => zlet (zul ty12.2.2 (q + 9) 1 ((τ (q + 9) 1) + (Int32.toInt64 ty12.1))) fun νy13 => Option.bind (E_M_notes q y ty12.2.1 νy13) fun ty14 => some (ty14.1, ty14.2)
theorem sim_tick1 {b q n c x : Nat} {μ κ : zI} {ν τ : zJ} (h : RSt b q n c x μ κ) (htb : (κ (q + 7) 25).toInt ≤ 1000000) : ∃ x' μ' κ' ν' τ', E_Station_advance b μ ν = some (μ', ν') ∧ E_M_ticksOnce q κ τ = (if κ q 29 = 0 then tkN q (μ' b 1) κ' τ' else some (κ', τ')) ∧ RSt b q n c x' μ' κ' ∧ RV b q μ' κ' ∧ κ' q 32 = μ' (b + 12) 4 ∧ κ' q 31 = μ' (b + 11) 8 ∧ (κ' (q + 7) 25).toInt = (κ (q + 7) 25).toInt + 1 ∧ (∀ r, r ≠ b + 14 → ν' r = ν r) ∧ (∀ k, k < 11 → ν' (b + 14) k = ν (b + 14) k + dC b μ' k) ∧ (∀ r, r ≠ q + 9 → τ' r = τ r) ∧ (∀ k, k < 11 → k ≠ 1 → τ' (q + 9) k = τ (q + 9) k + dC b μ' k) ∧ τ' (q + 9) 1 = τ (q + 9) 1 ∧ (∀ r, r < b ∨ b + 14 ≤ r → μ' r = μ r) ∧ (∀ r, r ≠ q → r ≠ q + 7 → κ' r = κ r) ∧ (∀ k, k ≠ 30 → k ≠ 31 → k ≠ 32 → κ' q k = κ q k) := by
  obtain ⟨hP, hT, hF, hB, hI, hS, ht, htk, ht0, hz⟩ := h
  have k1 : (1 : Int32).toInt = 1 := rfl
  have et : (κ (q + 7) 25 + 1).toInt = (κ (q + 7) 25).toInt + 1 := by rw [iad (by rw [k1]; omega) (by rw [k1]; omega), k1]
  -- the tick
  obtain ⟨μ0, hμ0⟩ : ∃ μ0, μ0 = zu μ b 0 (κ (q + 7) 25 + 1) := ⟨_, rfl⟩
  obtain ⟨κ0, hκ0⟩ : ∃ κ0, κ0 = zu κ (q + 7) 25 (κ (q + 7) 25 + 1) := ⟨_, rfl⟩
  have m0 : ∀ r, r ≠ b → μ0 r = μ r := fun r a => by rw [hμ0, zgr a]
  have c0 : ∀ r, r ≠ q + 7 → κ0 r = κ r := fun r a => by rw [hκ0, zgr a]
  have c07 : ∀ k, k ≠ 25 → κ0 (q + 7) k = κ (q + 7) k := fun k a => by rw [hκ0, zgk a]
  have c025 : κ0 (q + 7) 25 = κ (q + 7) 25 + 1 := by rw [hκ0, zgh]
  have P0 : RP b q n μ0 κ0 := hP.fr (fun r _ _ => m0 r (by omega)) (by rw [c0 _ (by omega)]) (c0 _ (by omega)) (c0 _ (by omega)) (fun i _ => c07 _ (by omega)) (fun k _ => c07 _ (by omega))
  have S0 : RS b q n c x μ0 κ0 := hS.fr (m0 _ (by omega)) (m0 _ (by omega)) (fun k _ _ => c07 _ (by omega))
  have I0 : RI b q μ0 κ0 := hI.fr (fun k _ => by rw [m0 _ (by omega)]) (fun k _ _ => c07 _ (by omega))
  obtain ⟨x', μ1, κ1, a1, a2, P1, S1, I1, T1, F1, G1⟩ := sim_arr (ν := ν) (τ := τ) S0 P0 I0 (by rw [hμ0, zgh, c025]) (fun j hj => by
    rw [c025, c07 _ (by omega), et]
    have := htk j hj
    omega)
  have e1 : ∀ r, r ≠ b → r ≠ b + 3 → r ≠ b + 6 → r ≠ b + 7 → r ≠ b + 8 → r ≠ b + 9 → r ≠ b + 13 → μ1 r = μ r := fun r a a3 a6 a7 a8 a9 a13 => (F1.1 r a3 a6 a7 a8 a9 a13).trans (m0 r a)
  have e1b : μ1 b = μ0 b := F1.1 b (by omega) (by omega) (by omega) (by omega) (by omega) (by omega)
  have g1 : ∀ k, (k < 19 ∨ (26 ≤ k ∧ k ≤ 36) ∨ (39 ≤ k ∧ k ≤ 45)) → κ1 (q + 7) k = κ (q + 7) k := fun k hk => (G1.2 k (by omega)).trans (c07 k (by omega))
  have g25 : κ1 (q + 7) 25 = κ (q + 7) 25 + 1 := (G1.2 25 (by omega)).trans c025
  have gr : ∀ r, r ≠ q + 7 → κ1 r = κ r := fun r a => (G1.1 r a).trans (c0 r a)
  have To1 : RTo b q μ1 κ1 := hT.fr (e1 _ (by omega) (by omega) (by omega) (by omega) (by omega) (by omega) (by omega)) (fun k hk => g1 k (by omega))
  have Fo1 : RF b q μ1 κ1 := hF.fr (e1 _ (by omega) (by omega) (by omega) (by omega) (by omega) (by omega) (by omega)) (fun k hk => g1 k (by omega))
  have B1 : RB b q μ1 κ1 := hB.fr (e1 _ (by omega) (by omega) (by omega) (by omega) (by omega) (by omega) (by omega)) (fun k hk => g1 k (by omega))
  -- the follower
  obtain ⟨μ2, κ2, τ2, b1, b2, F2, G2, Fo2, V2, w31, w9, w9'⟩ := sim_follow (ν := ν) (τ := τ) P1 To1 Fo1
  have P2 : RP b q n μ2 κ2 := P1.ff F2 G2 (by decide) (by decide)
  have k2 : ∀ k, (k < 26 ∨ (33 ≤ k ∧ k ≤ 42) ∨ 46 ≤ k) → κ2 (q + 7) k = κ1 (q + 7) k := fun k hk => G2.2.2 k (by simp only [fK, List.mem_cons, List.not_mem_nil, or_false]; omega)
  have S2 : RS b q n c x' μ2 κ2 := S1.fr (F2.1 _ (by omega)) (F2.1 _ (by omega)) (fun k _ _ => k2 k (by omega))
  have I2 : RI b q μ2 κ2 := I1.fr (fun k _ => by rw [F2.1 _ (by omega)]) (fun k _ _ => k2 k (by omega))
  have To2 : RTo b q μ2 κ2 := To1.fr (F2.1 _ (by omega)) (fun k hk => k2 k (by omega))
  have B2 : RB b q μ2 κ2 := B1.fr (F2.1 _ (by omega)) (fun k hk => k2 k (by omega))
  -- the battery
  obtain ⟨μ3, κ3, N, d1, d2, d3, d4, d5, d6, B3, d8, d9, N4⟩ := sim_take (ν := ν) (τ := τ2) (g := μ2 (b + 11) 6) B2 (fun k hk => (To2 k hk).1) V2.1 V2.2.1 V2.2.2.1 (To2 0 (by decide)).2.1 (To2 0 (by decide)).2.2 (To2 1 (by decide)).2.1 (To2 4 (by decide)).2.1 (To2 4 (by decide)).2.2
  have P3 : RP b q n μ3 κ3 := P2.fr (fun r _ _ => d3 r (by omega)) (d5 9 (by decide)) (d4 _ (by omega) (by omega)) (d4 _ (by omega) (by omega)) (fun i _ => d6 _ (by omega) (by omega) (by omega)) (fun k _ => d6 k (by omega) (by omega) (by omega))
  have S3 : RS b q n c x' μ3 κ3 := S2.fr (d3 _ (by omega)) (d3 _ (by omega)) (fun k _ _ => d6 k (by omega) (by omega) (by omega))
  have I3 : RI b q μ3 κ3 := I2.fr (fun k _ => by rw [d3 _ (by omega)]) (fun k _ _ => d6 k (by omega) (by omega) (by omega))
  have To3 : RTo b q μ3 κ3 := To2.fr (d3 _ (by omega)) (fun k hk => d6 k (by omega) (by omega) (by omega))
  have Fo3 : RF b q μ3 κ3 := Fo2.fr (d3 _ (by omega)) (fun k hk => d6 k (by omega) (by omega) (by omega))
  -- the inverter
  have eleft : μ3 (b + 11) 6 - μ3 (b + 12) 4 = κ3 q 30 - κ3 q 32 := by rw [d3 (b + 11) (by omega), d8, d5 30 (by decide), V2.1]
  obtain ⟨bt1, bt2⟩ := btN_k (q := q) (τ := τ2) (D := Int32.toInt64 (μ3 (b + 12) 3)) N4
  generalize hσ : btN q (zul τ2 (q + 9) 5 (τ2 (q + 9) 5 + Int32.toInt64 (μ3 (b + 12) 3))) N = τ3 at d2 bt1 bt2
  obtain ⟨μ4, κ4, τ4, i1, i2, i3, i4, i5, I4, i7⟩ := sim_run (ν := ν) (τ := τ3) I3 (fun k hk => (To3 k hk).1) (To3 9 (by decide)).2.1 (To3 9 (by decide)).2.2 eleft
  have P4 : RP b q n μ4 κ4 := P3.fr (fun r _ _ => i3 r (by omega)) (by rw [i4 q (by omega)]) (i4 _ (by omega)) (i4 _ (by omega)) (fun i _ => i5 _ (by omega) (by omega) (by omega) (by omega) (by omega)) (fun k _ => i5 k (by omega) (by omega) (by omega) (by omega) (by omega))
  have S4 : RS b q n c x' μ4 κ4 := S3.fr (i3 _ (by omega)) (i3 _ (by omega)) (fun k _ _ => i5 k (by omega) (by omega) (by omega) (by omega) (by omega))
  have To4 : RTo b q μ4 κ4 := To3.fr (i3 _ (by omega)) (fun k hk => i5 k (by omega) (by omega) (by omega) (by omega) (by omega))
  have Fo4 : RF b q μ4 κ4 := Fo3.fr (i3 _ (by omega)) (fun k hk => i5 k (by omega) (by omega) (by omega) (by omega) (by omega))
  have B4 : RB b q μ4 κ4 := B3.fr (i3 _ (by omega)) (fun k hk => i5 k (by omega) (by omega) (by omega) (by omega) (by omega))
  have q4 : κ4 q = κ3 q := i4 q (by omega)
  have q30 : κ4 q 30 = μ2 (b + 11) 6 := by rw [q4, d5 30 (by decide)]; exact V2.1
  have q32 : κ4 q 32 = μ3 (b + 12) 4 := by rw [q4, d8]
  -- what is spilled
  obtain ⟨μ5, hμ5⟩ : ∃ μ5, μ5 = zu μ4 b 1 (μ3 (b + 11) 6 - μ3 (b + 12) 4 - μ4 (b + 13) 4) := ⟨_, rfl⟩
  have m5 : ∀ r, r ≠ b → μ5 r = μ4 r := fun r a => by rw [hμ5, zgr a]
  have P5 : RP b q n μ5 κ4 := P4.fr (fun r _ _ => m5 r (by omega)) rfl rfl rfl (fun _ _ => rfl) (fun _ _ => rfl)
  have S5 : RS b q n c x' μ5 κ4 := S4.fr (m5 _ (by omega)) (m5 _ (by omega)) (fun _ _ _ => rfl)
  have To5 : RTo b q μ5 κ4 := To4.fr (m5 _ (by omega)) (fun _ _ => rfl)
  have Fo5 : RF b q μ5 κ4 := Fo4.fr (m5 _ (by omega)) (fun _ _ => rfl)
  have B5 : RB b q μ5 κ4 := B4.fr (m5 _ (by omega)) (fun _ _ => rfl)
  have I5 : RI b q μ5 κ4 := I4.fr (fun k _ => by rw [m5 _ (by omega)]) (fun _ _ _ => rfl)
  obtain ⟨ν', j1, j2, j3⟩ := C_addUp (b := b) (μ := μ5) (ν := ν)
  have g411 : μ5 (b + 11) = μ2 (b + 11) := by rw [m5 _ (by omega), i3 _ (by omega), d3 _ (by omega)]
  have g412 : μ5 (b + 12) = μ3 (b + 12) := by rw [m5 _ (by omega), i3 _ (by omega)]
  have g413 : μ5 (b + 13) = μ4 (b + 13) := m5 _ (by omega)
  have e25 : κ4 (q + 7) 25 = κ (q + 7) 25 + 1 := by rw [i5 25 (by decide) (by decide) (by decide) (by decide) (by decide), d6 25 (by decide) (by decide) (by decide), k2 25 (by omega), g25]
  have o40 : μ4 (b + 13) 4 = κ4 (q + 7) 40 := I4.2.2.2.2.1
  have e51 : μ5 b 1 = κ4 q 30 - κ4 q 32 - κ4 (q + 7) 40 := by rw [hμ5, zgh, o40, q30, q32, d3 (b + 11) (by omega)]
  -- the reference's sums
  obtain ⟨τ5, hτ5⟩ : ∃ τ5, τ5 = zul (zul (zul (zul τ4 (q + 9) 0 (τ4 (q + 9) 0 + Int32.toInt64 (κ4 q 30))) (q + 9) 2 (τ4 (q + 9) 2 + Int32.toInt64 (κ4 q 32))) (q + 9) 3 (τ4 (q + 9) 3 + Int32.toInt64 (κ4 (q + 7) 40))) (q + 9) 4 (τ4 (q + 9) 4 + Int32.toInt64 (μ5 b 1)) := ⟨_, rfl⟩
  have s4 : (∀ r, r ≠ q + 9 → τ4 r = τ3 r) ∧ ∀ k, τ4 (q + 9) k = τ3 (q + 9) k + (if k = 6 then fJ (μ4 (b + 13) 7) else 0) := by
    rcases i7 with ⟨z, e⟩ | ⟨z, e⟩
    · rw [e, z]
      exact ⟨fun _ _ => rfl, fun k => by rw [show fJ 0 = 0 from rfl, ite_self, Int64.add_zero]⟩
    · rw [e, z]
      refine ⟨fun r a => zlr a, fun k => ?_⟩
      by_cases e : k = 6
      · rw [if_pos e, e, zlh]; rfl
      · rw [if_neg e, zlk e, Int64.add_zero]
  have s2 : (∀ r, r ≠ q + 9 → τ2 r = τ r) ∧ ∀ k, τ2 (q + 9) k = τ (q + 9) k + (if k = 7 then fJ (μ2 (b + 11) 9) else 0) := by
    by_cases z : μ2 (b + 11) 9 = 0
    · rw [w9 z, z]
      exact ⟨fun _ _ => rfl, fun k => by rw [show fJ 0 = 0 from rfl, ite_self, Int64.add_zero]⟩
    · rw [w9' z, fJ, if_neg z]
      refine ⟨fun r a => zlr a, fun k => ?_⟩
      by_cases e : k = 7
      · rw [if_pos e, e, zlh]
      · rw [if_neg e, zlk e, Int64.add_zero]
  have sall : ∀ k, τ4 (q + 9) k = τ (q + 9) k + (if k = 7 then fJ (μ2 (b + 11) 9) else 0) + (if k = 5 then Int32.toInt64 (μ3 (b + 12) 3) else if k = 8 then (if N = 1 then 1 else 0) else if k = 9 then (if N = 2 then 1 else 0) else if k = 10 then (if N = 0 then 1 else 0) else 0) + (if k = 6 then fJ (μ4 (b + 13) 7) else 0) := fun k => by rw [s4.2, bt2, s2.2]
  have s5r : ∀ r, r ≠ q + 9 → τ5 r = τ r := fun r a => by
    rw [hτ5, zlr a, zlr a, zlr a, zlr a, s4.1 r a, bt1 r a, s2.1 r a]
  refine ⟨x', μ5, κ4, ν', τ5, ?_, ?_, ⟨P5, To5, Fo5, B5, I5, S5, ?_, fun j hj => ?_, ?_, ?_⟩, ⟨?_, ?_⟩, ?_, ?_, ?_, j2, j3, s5r, fun k hk k1' => ?_, ?_, fun r hr => ?_, fun r a a7 => ?_, fun k a b' c' => ?_⟩
  · have adv57 : e_Station_advance_57 b μ2 ν = some (μ5, ν') := by
      rw [e_Station_advance_57, ob_eq d1, zlet_eq, ob_eq i1, zlet_eq]
      dsimp only
      rw [← hμ5, ob_eq j1]
    rw [E_Station_advance, e_Station_advance_0, zlet_eq, ht, ← hμ0, ob_eq a1]
    dsimp only
    by_cases z : μ1 (b + 11) 7 = 0
    · rw [if_pos z] at b1
      rw [if_pos z, ob_eq b1]
      exact adv57
    · rw [if_neg z] at b1
      rw [if_neg z, ob_eq b1]
      exact adv57
  · have q29 : κ4 q 29 = κ q 29 := by rw [q4, d5 29 (by decide), G2.2.1 29 (by decide), gr q (by omega)]
    rw [E_M_ticksOnce, e_M_ticksOnce_0, zlet_eq, ← hκ0, ob_eq a2, ob_eq b2, ob_eq d2, ob_eq i2, zlet_eq, zlet_eq, zlet_eq, zlet_eq, zlet_eq]
    dsimp only
    rw [← e51]
    simp (disch := omega) only [zlk]
    rw [← hτ5]
    have t51 : τ5 (q + 9) 1 = τ4 (q + 9) 1 := by
      rw [hτ5]
      simp (disch := omega) only [zlk]
    simp only [q29]
    rw [tkN, t51]
  · rw [hμ5, zgk (by decide), i3 b (by omega), d3 b (by omega), F2.1 b (by omega), e1b, hμ0, zgh, e25]
  · rw [i5 _ (by omega) (by omega) (by omega) (by omega) (by omega), d6 _ (by omega) (by omega) (by omega), k2 _ (by omega), i5 _ (by omega) (by omega) (by omega) (by omega) (by omega), d6 _ (by omega) (by omega) (by omega), k2 _ (by omega)]
    exact T1 j hj
  · rw [e25, et]; omega
  · rw [g413]
    rcases i7 with ⟨z, -⟩ | ⟨z, -⟩
    · exact Or.inl z
    · exact Or.inr z
  · rw [q30, g411]
  · rw [g411, m5 (b + 3) (by omega), i3 (b + 3) (by omega), d3 (b + 3) (by omega)]; exact V2.2
  · rw [q32, g412]
  · rw [q4, d5 31 (by decide), w31, g411]
  · rw [e25, et]
  · have hk' : k = 0 ∨ k = 2 ∨ k = 3 ∨ k = 4 ∨ k = 5 ∨ k = 6 ∨ k = 7 ∨ k = 8 ∨ k = 9 ∨ k = 10 := by omega
    have d95 : μ5 (b + 12) 5 = N := by rw [g412, d9]
    rw [hτ5]
    rcases hk' with rfl | rfl | rfl | rfl | rfl | rfl | rfl | rfl | rfl | rfl
    all_goals
      simp (disch := omega) only [zlk, zlh]
      rw [sall]
      simp only [dC, Nat.reduceEqDiff, if_false, if_true, Int64.add_zero, g411, g412, g413, q30, q32, d9, o40]
  · rw [hτ5]
    simp (disch := omega) only [zlk]
    rw [sall]
    simp only [Nat.reduceEqDiff, if_false, Int64.add_zero]
  · rw [hμ5, zgr (by omega), i3 r (by omega), d3 r (by omega), F2.1 r (by omega)]
    exact e1 r (by omega) (by omega) (by omega) (by omega) (by omega) (by omega) (by omega)
  · rw [i4 r a7, d4 r a a7, G2.1 r a a7, gr r a7]
  · rw [q4, d5 k c', G2.2.1 k (by simp only [List.mem_cons, List.not_mem_nil, or_false]; omega), gr q (by omega)]
