/-! band. -/
theorem lmu {a b : Int64} (h1 : -9223372036854775808 ≤ a.toInt * b.toInt) (h2 : a.toInt * b.toInt < 9223372036854775808) : (a * b).toInt = a.toInt * b.toInt := by
  rw [Int64.toInt_mul]
  exact Int.bmod_eq_of_le (by omega) (by omega)
theorem lle {a b : Int64} : a ≤ b ↔ a.toInt ≤ b.toInt := Int64.le_iff_toInt_le
theorem i2t (x : Int32) : (Int32.toInt64 x).toInt = x.toInt := Int32.toInt_toInt64 x
theorem near_iff {p w B : Int32} (p0 : 0 ≤ p.toInt) (p9 : p.toInt ≤ 598801) (w1 : 1 ≤ w.toInt) (w9 : w.toInt ≤ 100) (b0 : 0 ≤ B.toInt) (b9 : B.toInt ≤ 598801) : (p * 100 < w * B) ↔ ¬ 0 ≤ lg_cmp (100 * Int32.toInt64 p) (Int32.toInt64 w * Int32.toInt64 B) := by
  have h100 : (100 : Int32).toInt = 100 := rfl
  have l100 : (100 : Int64).toInt = 100 := rfl
  have hb : 0 ≤ w.toInt * B.toInt := Int.mul_nonneg (by omega) b0
  have hb9 : w.toInt * B.toInt ≤ 100 * 598801 := Int.mul_le_mul w9 b9 b0 (by omega)
  rw [lg_cmp_ge, lle, ilt, imu (by rw [h100]; omega) (by rw [h100]; omega), imu (by omega) (by omega), lmu (by rw [i2t, i2t]; omega) (by rw [i2t, i2t]; omega), lmu (by rw [i2t, l100]; omega) (by rw [i2t, l100]; omega), i2t, i2t, i2t, h100, l100]
  omega
theorem S_near {p w B : Int32} {μ : zI} {ν : zJ} : E_S_isNear p w B μ ν = some (if p * 100 < w * B then 0 else 1, μ, ν) := by
  rw [E_S_isNear, e_S_isNear_0]
  by_cases c : p * 100 < w * B
  · rw [if_pos c, if_pos c, e_S_isNear_15, if_pos (show zb 0 = true from rfl)]
  · rw [if_neg c, if_neg c, e_S_isNear_15, if_pos (show zb 1 = true from rfl)]
theorem band_f {q n : Nat} {μ κ : zI} {ν τ : zJ} {w u : Int32} (h : RP 4 q n μ κ) (w1 : 1 ≤ w.toInt) (w9 : w.toInt ≤ 100) (hB : κ (q + 7) 144 = μ (4 + 3) 2) : ∀ (j x f g : Nat) (a b c : Int32), x + j = 1000 → j < f → j < g → ∃ r, f_S_band_48 f w u a b c (nI x) μ ν = some (r, μ, ν) ∧ f_M_band_48 q g w u a b c (nI x) κ τ = some (r, κ, τ) := by
  intro j
  induction j with
  | zero =>
    intro x f g a b c hx hf hg
    have : x = 1000 := by omega
    subst this
    obtain ⟨f, rfl⟩ : ∃ i, f = i + 1 := ⟨f - 1, by omega⟩
    obtain ⟨g, rfl⟩ : ∃ i, g = i + 1 := ⟨g - 1, by omega⟩
    rw [f_S_band_48, f_M_band_48, if_pos (show (1000 : Int32) ≤ nI 1000 by decide), if_pos (show (1000 : Int32) ≤ nI 1000 by decide)]
    by_cases u0 : u = 0
    · rw [if_pos u0, if_pos u0, e_S_band_130, e_M_band_131]; exact ⟨_, rfl, rfl⟩
    · rw [if_neg u0, if_neg u0]
      by_cases u1 : u = 1
      · rw [if_pos u1, if_pos u1, e_S_band_130, e_M_band_131]; exact ⟨_, rfl, rfl⟩
      · rw [if_neg u1, if_neg u1, e_S_band_130, e_M_band_131]; exact ⟨_, rfl, rfl⟩
  | succ j ih =>
    intro x f g a b c hx hf hg
    obtain ⟨f, rfl⟩ : ∃ i, f = i + 1 := ⟨f - 1, by omega⟩
    obtain ⟨g, rfl⟩ : ∃ i, g = i + 1 := ⟨g - 1, by omega⟩
    have hp := pP_b h.ok (x := nI x) (by rw [nIt (by omega)]; omega) (by rw [nIt (by omega)]; omega)
    have hb := pB_b h.ok 1000 (by omega)
    have hB2 : μ (4 + 3) 2 = (pB (mLit q κ) (κ (q + 5)) n 1000).1 := h.2.2.2.2.2.2.1
    have hn := near_iff hp.2.1 hp.2.2 w1 w9 hb.1 hb.2.1
    rw [f_S_band_48, f_M_band_48, if_neg (lge (c := 1000) (k := x) 1000 rfl (by omega) (by decide)), if_neg (lge (c := 1000) (k := x) 1000 rfl (by omega) (by decide)), ob_eq (h.pw (ν := ν) (τ := τ) (show x < 1000 by omega)).1, ob_eq (h.pw (ν := ν) (τ := τ) (show x < 1000 by omega)).2, ob_eq S_near]
    rw [← hB2] at hn
    generalize pP (mLit q κ) (κ (q + 5)) n (nI x) = p at *
    by_cases d : p * 100 < w * μ (4 + 3) 2
    · have d2 := hn.mp d
      rw [← hB] at d2
      rw [if_pos d, if_pos rfl, if_neg d2, e_S_band_104, e_M_band_105, nI_1]
      exact ih (x + 1) f g _ _ _ (by omega) (by omega) (by omega)
    · have d2 : 0 ≤ lg_cmp (100 * Int32.toInt64 p) (Int32.toInt64 w * Int32.toInt64 (μ (4 + 3) 2)) := Decidable.byContradiction fun z => d (hn.mpr z)
      rw [← hB] at d2
      rw [if_neg d, if_neg one_ne_0, if_pos d2]
      by_cases a1 : a = -1
      · rw [if_pos a1, if_pos a1, e_S_band_96, e_M_band_97, e_S_band_104, e_M_band_105, nI_1]
        exact ih (x + 1) f g _ _ _ (by omega) (by omega) (by omega)
      · rw [if_neg a1, if_neg a1, e_S_band_96, e_M_band_97, e_S_band_104, e_M_band_105, nI_1]
        exact ih (x + 1) f g _ _ _ (by omega) (by omega) (by omega)
theorem sim_band {q n : Nat} {μ κ : zI} {ν τ : zJ} (h : RP 4 q n μ κ) (w u : Int32) : ∃ r κ', E_S_band w u μ ν = some (r, μ, ν) ∧ E_M_band q w u κ τ = some (r, κ', τ) ∧ mQ q κ κ' ∧ mKn q n κ' := by
  have h0 : RP 4 q n μ (zu κ q 0 0) := h.th
  have hk0 := h0.2.2.2.2.2.2.2.2
  have hF := zFuel_1001
  rw [E_S_band, e_S_band_0, E_M_band, e_M_band_0, zlet_eq]
  by_cases c1 : w < 1
  · rw [ob_eq (S_out (Or.inl c1)), if_pos rfl, if_pos c1, e_S_band_19, e_M_band_25]
    exact ⟨_, _, rfl, rfl, mQ.th, hk0⟩
  · rw [if_neg c1]
    by_cases c2 : 100 < w
    · rw [ob_eq (S_out (Or.inr c2)), if_pos rfl, if_pos c2, e_S_band_19, e_M_band_25]
      exact ⟨_, _, rfl, rfl, mQ.th, hk0⟩
    · rw [if_neg c2, ob_eq (S_in c1 c2), if_neg one_ne_0]
      by_cases c3 : u < 0
      · rw [ob_eq (S_out (Or.inl c3)), if_pos rfl, if_pos c3, e_S_band_19, e_M_band_25]
        exact ⟨_, _, rfl, rfl, mQ.th, hk0⟩
      · rw [if_neg c3]
        by_cases c4 : u ≤ 2
        · rw [if_pos c4, ob_eq (S_in c3 (Int32.not_lt.mpr c4)), if_neg one_ne_0]
          obtain ⟨κ2, k1, k2, k3, k4, k5⟩ := M_bestNow_eq (τ := τ) h0.2.2.1 h0.ok hk0
          have hq : mQ q (zu κ q 0 0) κ2 := mQ.of k2
          have hk : mKn q n κ2 := fun _ => by
            rw [k2.lit, k2.1 (q + 5) (by omega)]
            exact ⟨k3, k4⟩
          have hr : RP 4 q n μ κ2 := h0.q hq hk
          have hB : κ2 (q + 7) 144 = μ (4 + 3) 2 := by rw [k3]; exact h0.2.2.2.2.2.2.1.symm
          rw [ob_eq k1, ← k3, hB]
          by_cases z : μ (4 + 3) 2 = 0
          · rw [if_pos z, if_pos z]
            exact ⟨_, κ2, rfl, rfl, mQ.th.tr hq, hk⟩
          · rw [if_neg z, if_neg z]
            obtain ⟨r, e1, e2⟩ := band_f (ν := ν) (τ := τ) (u := u) hr (ile.mp (Int32.not_lt.mp c1)) (ile.mp (Int32.not_lt.mp c2)) hB 1000 0 zFuel zFuel (-1) (-1) 0 (by omega) (by omega) (by omega)
            exact ⟨r, κ2, e1, e2, mQ.th.tr hq, hk⟩
        · rw [if_neg c4, ob_eq (S_out (Or.inr (Int32.not_le.mp c4))), if_pos rfl, e_S_band_19, e_M_band_25]
          exact ⟨_, _, rfl, rfl, mQ.th, hk0⟩
