/-! The whole relation; a tick of the real one. -/
def RLg (q : Nat) (μ κ : zI) : Prop := ∃ m t, m ≤ 100 ∧ t < 100 ∧ μ 34 0 = nI m ∧ μ 34 1 = nI t ∧ κ q 28 = nI m ∧ (∀ i w, i < m → w < 10 → μ 35 ((t + 100 - i) % 100 * 10 + w) = κ (q + 11) (10 * i + w)) ∧ ∀ i, i < m → (0 ≤ (κ (q + 11) (10 * i + 1)).toInt ∧ (κ (q + 11) (10 * i + 1)).toInt ≤ 598801) ∧ 0 ≤ (κ (q + 11) (10 * i + 2)).toInt ∧ (κ (q + 11) (10 * i + 2)).toInt ≤ 598801 ∧ (κ (q + 11) (10 * i + 1)).toInt ≤ (κ (q + 11) (10 * i + 2)).toInt
def RTp (q : Nat) (μ κ : zI) : Prop := ∃ s, s ≤ 900 ∧ μ 1 1 = nI s ∧ κ q 2 = nI s ∧ ∀ i, i < s → μ 2 i &&& 255 = κ (q + 1) i ∧ 0 ≤ (κ (q + 1) i).toInt ∧ (κ (q + 1) i).toInt ≤ 255
def RRd (q : Nat) (μ κ : zI) : Prop := μ 3 0 = κ q 21 ∧ μ 3 1 = κ q 22
def RU (q : Nat) (ν τ : zJ) (κ : zI) : Prop := (∀ k, k < 11 → ν (4 + 14) k = τ (q + 9) k) ∧ 0 ≤ (τ (q + 9) 6).toInt ∧ (τ (q + 9) 6).toInt ≤ (κ (q + 7) 25).toInt
/-- class and reference alike -/
def RR (q n c x : Nat) (μ : zI) (ν : zJ) (κ : zI) (τ : zJ) : Prop := RSt 4 q n c x μ κ ∧ RLg q μ κ ∧ RU q ν τ κ ∧ κ q 29 = 0 ∧ (κ (q + 7) 25).toInt ≤ 9999 ∧ RTp q μ κ ∧ RRd q μ κ
theorem RSt.fr {b q n c x : Nat} {μ μ' κ κ' : zI} (h : RSt b q n c x μ κ) (hP : RP b q n μ' κ') (e : ∀ r, r = b ∨ r = b + 2 ∨ (b + 9 ≤ r ∧ r ≤ b + 13) → μ' r = μ r) (ek : ∀ k, k < 19 ∨ (25 ≤ k ∧ k ≤ 142) → κ' (q + 7) k = κ (q + 7) k) : RSt b q n c x μ' κ' := by
  obtain ⟨-, hT, hF, hB, hI, hS, ht, htk, ht0, hz⟩ := h
  refine ⟨hP, hT.fr (e _ (by omega)) (fun k hk => ek k (by omega)), hF.fr (e _ (by omega)) (fun k hk => ek k (by omega)), hB.fr (e _ (by omega)) (fun k hk => ek k (by omega)), hI.fr (fun k _ => by rw [e _ (by omega)]) (fun k h1 h2 => ek k (by omega)), hS.fr (e _ (by omega)) (e _ (by omega)) (fun k h1 h2 => ek k (by omega)), by rw [e b (by omega), ek 25 (by omega)]; exact ht, fun j hj => ?_, by rw [ek 25 (by omega)]; exact ht0, by rw [e _ (by omega)]; exact hz⟩
  have := hS.1
  rw [ek 25 (by omega), ek _ (by omega)]
  exact htk j hj
theorem dC_fr {b : Nat} {μ μ' : zI} (e : ∀ r, r = b ∨ r = b + 3 ∨ (b + 11 ≤ r ∧ r ≤ b + 13) → μ' r = μ r) : dC b μ' = dC b μ := by
  funext k
  unfold dC
  rw [e b (by omega), e (b + 3) (by omega), e (b + 11) (by omega), e (b + 12) (by omega), e (b + 13) (by omega)]
theorem fI_01 {v : Int32} (h : v = 0 ∨ v = 1) : fI v = v := by
  rcases h with rfl | rfl <;> rfl
theorem sim_tickR {q n c x : Nat} {μ κ : zI} {ν τ : zJ} (h : RSt 4 q n c x μ κ) (hL : RLg q μ κ) (h29 : κ q 29 = 0) (htb : (κ (q + 7) 25).toInt ≤ 1000000) : ∃ x' μ1 ν' μ' κ' τ', E_Station_advance 4 μ ν = some (μ1, ν') ∧ E_Log_add μ1 ν' = some (μ', ν') ∧ E_M_ticksOnce q κ τ = some (κ', τ') ∧ RSt 4 q n c x' μ' κ' ∧ RLg q μ' κ' ∧ κ' q 29 = 0 ∧ (κ' (q + 7) 25).toInt = (κ (q + 7) 25).toInt + 1 ∧ (∀ k, k < 11 → ν' (4 + 14) k = ν (4 + 14) k + dC 4 μ' k) ∧ (∀ k, k < 11 → τ' (q + 9) k = τ (q + 9) k + dC 4 μ' k) ∧ (∀ r, r < 4 → μ' r = μ r) ∧ (∀ r, r ≠ q → r ≠ q + 7 → r ≠ q + 11 → κ' r = κ r) ∧ (∀ k, k ≠ 28 → k ≠ 30 → k ≠ 31 → k ≠ 32 → κ' q k = κ q k) := by
  obtain ⟨x', μ1, κ1, ν', τ1, a1, a2, a3, a4, a5, a6, a7, a8, a9, a10, a11, a12, a13, a14, a15⟩ := sim_tick1 (ν := ν) (τ := τ) h htb
  obtain ⟨m, t, m9, t9, g1, g2, g3, g4, g5⟩ := hL
  obtain ⟨μ', l1, l2, l3, l4, l5, l6⟩ := C_logAdd (μ := μ1) (ν := ν') (t := t) (m := m) (by rw [a13 34 (by omega)]; exact g2) t9 (by rw [a13 34 (by omega)]; exact g1) m9
  rw [if_pos h29] at a2
  have P1 := a3.1
  obtain ⟨κ2, b1, b2, b3, b4, b5⟩ := M_bestNow_eq (τ := τ1) P1.2.2.1 P1.ok P1.2.2.2.2.2.2.2.2
  have eb : (pB (mLit q κ1) (κ1 (q + 5)) n 1000).1 = μ1 (4 + 3) 2 := P1.2.2.2.2.2.2.1.symm
  have P2 : RP 4 q n μ1 κ2 := mSame.rp P1 b2 (mKn.of b2 b3 b4)
  rw [eb] at b1
  obtain ⟨τ2, hτ2⟩ : ∃ τ2, τ2 = zul τ1 (q + 9) 1 (τ1 (q + 9) 1 + Int32.toInt64 (μ1 (4 + 3) 2)) := ⟨_, rfl⟩
  obtain ⟨κ3, n1, n2, n3, n4, n5, n6, n7, n8⟩ := sim_notes (τ := τ2) (y := μ1 4 1) P2
  have e7 : ∀ k, k < 143 → κ3 (q + 7) k = κ1 (q + 7) k := fun k hk => by rw [n5 k (by omega) (by omega) (by omega), b2.2 k (by omega) (by omega) (by omega)]
  have eq2 : κ2 q = κ1 q := b2.1 q (by omega)
  have ed : dC 4 μ' = dC 4 μ1 := dC_fr (fun r hr => l2 r (by omega) (by omega))
  have m28 : κ3 q 28 = nI (min 100 (m + 1)) := by
    rw [n6, eq2, a15 28 (by decide) (by decide) (by decide), g3]
    by_cases c : m < 100
    · rw [if_neg (show ¬ (100 : Int32) ≤ nI m from nI_ge (b := 100) c (by decide)), nI_1, Nat.min_eq_right (by omega)]
    · rw [if_pos (show (100 : Int32) ≤ nI m from nI_le (a := 100) (by omega) (by omega)), Nat.min_eq_left (by omega)]
      rfl
  -- the new rows are the same
  have row : ∀ w, w < 10 → cRow μ1 w = mRow q κ2 (μ1 4 1) (μ1 (4 + 3) 2) w := by
    obtain ⟨-, -, ⟨⟨⟨y, hy, y1, y2⟩, -⟩, -⟩, hB, hI, -⟩ := a3
    intro w hw
    unfold cRow mRow
    rw [eq2, b2.2 26 (by decide) (by decide) (by decide), b2.2 40 (by decide) (by decide) (by decide), b2.2 39 (by decide) (by decide) (by decide), b2.2 34 (by decide) (by decide) (by decide), b2.2 36 (by decide) (by decide) (by decide), y1, y2, a4.1, a5, hI.2.2.2.2.1, hI.2.2.2.1, hB.2.1, a6, hI.1.1, fI_01 hI.1.2]
  refine ⟨x', μ1, ν', μ', κ3, τ2, a1, l1, ?_, a3.fr ?_ (fun r hr => l2 r (by omega) (by omega)) (fun k hk => e7 k (by omega)), ?_, ?_, ?_, fun k hk => ?_, fun k hk => ?_, fun r hr => ?_, fun r r1 r7 r11 => ?_, fun k k28 k30 k31 k32 => ?_⟩
  · rw [a2, tkN, ob_eq b1, zlet_eq]
    dsimp only
    rw [← hτ2, ob_eq n1]
  · exact n2.fr (fun r _ _ => l2 r (by omega) (by omega)) rfl rfl rfl (fun _ _ => rfl) (fun _ _ => rfl)
  · have lt' : (t + 1) % 100 < 100 := Nat.mod_lt _ (by decide)
    have bb := pB_b P1.ok 1000 (by omega)
    rw [eb] at bb
    refine ⟨min 100 (m + 1), (t + 1) % 100, by omega, lt', l4, l3, m28, fun i w hi hw => ?_, fun i hi => ?_⟩
    · by_cases i0 : i = 0
      · subst i0
        rw [show (((t + 1) % 100 + 100 - 0) % 100) = (t + 1) % 100 by omega, l5 w hw, show 10 * 0 + w = w by omega, n7 w hw]
        exact row w hw
      · rw [l6 _ (by omega), a13 35 (by omega), n8 _ (by omega) (by omega), b2.1 (q + 11) (by omega), a14 _ (by omega) (by omega), show 10 * i + w - 10 = 10 * (i - 1) + w by omega, ← g4 (i - 1) w (by omega) hw, show ((t + 1) % 100 + 100 - i) % 100 = (t + 100 - (i - 1)) % 100 by omega]
    · by_cases i0 : i = 0
      · subst i0
        rw [show 10 * 0 + 1 = 1 by omega, show 10 * 0 + 2 = 2 by omega, n7 1 (by decide), n7 2 (by decide), ← row 1 (by decide), ← row 2 (by decide)]
        exact ⟨⟨a4.2.1, a4.2.2.1⟩, bb.1, bb.2.1, a4.2.2.2⟩
      · rw [n8 _ (by omega) (by omega), n8 _ (by omega) (by omega), b2.1 (q + 11) (by omega), a14 _ (by omega) (by omega), show 10 * i + 1 - 10 = 10 * (i - 1) + 1 by omega, show 10 * i + 2 - 10 = 10 * (i - 1) + 2 by omega]
        exact g5 (i - 1) (by omega)
  · rw [n4 29 (by decide), eq2, a15 29 (by decide) (by decide) (by decide), h29]
  · rw [e7 25 (by decide), a7]
  · rw [a9 k hk, ed]
  · by_cases k1 : k = 1
    · rw [k1, hτ2, zlh, a12, ed]
      rfl
    · rw [hτ2, zlk k1, a11 k hk k1, ed]
  · rw [l2 r (by omega) (by omega), a13 r (by omega)]
  · rw [n3 r r1 r7 r11, b2.1 r r7, a14 r r1 r7]
  · rw [n4 k k28, eq2, a15 k k30 k31 k32]
