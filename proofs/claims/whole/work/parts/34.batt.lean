/-! Reading what was written; the battery side by side. -/
theorem zgh {μ : zI} {r k : Nat} {v : Int32} : zu μ r k v r k = v := by rw [zu_eq, if_pos ⟨rfl, rfl⟩]
theorem zgk {μ : zI} {r k : Nat} {v : Int32} {r' k' : Nat} (h : k' ≠ k) : zu μ r k v r' k' = μ r' k' := by rw [zu_eq, if_neg (fun e => h e.2)]
theorem zgr {μ : zI} {r k : Nat} {v : Int32} {r' : Nat} (h : r' ≠ r) : zu μ r k v r' = μ r' := zu_off _ _ _ _ h
theorem zlh {ν : zJ} {r k : Nat} {v : Int64} : zul ν r k v r k = v := by rw [zul_eq, if_pos ⟨rfl, rfl⟩]
theorem zlk {ν : zJ} {r k : Nat} {v : Int64} {r' k' : Nat} (h : k' ≠ k) : zul ν r k v r' k' = ν r' k' := by rw [zul_eq, if_neg (fun e => h e.2)]
theorem zlr {ν : zJ} {r k : Nat} {v : Int64} {r' : Nat} (h : r' ≠ r) : zul ν r k v r' = ν r' := zul_off _ _ _ _ h
theorem n20 : ((2 : Int32) = 0) = False := eq_false (by decide)
theorem n21 : ((2 : Int32) = 1) = False := eq_false (by decide)
theorem n01 : ((0 : Int32) = 1) = False := eq_false (by decide)
theorem n12 : ((1 : Int32) = 2) = False := eq_false (by decide)
theorem n02 : ((0 : Int32) = 2) = False := eq_false (by decide)
theorem nm1 : ((-1 : Int32) = 1) = False := eq_false (by decide)
theorem nm0 : ((-1 : Int32) = 0) = False := eq_false (by decide)
theorem nm2 : ((-1 : Int32) = 2) = False := eq_false (by decide)
theorem n1m : ((1 : Int32) = -1) = False := eq_false (by decide)
theorem n0m : ((0 : Int32) = -1) = False := eq_false (by decide)
theorem n2m : ((2 : Int32) = -1) = False := eq_false (by decide)
section TG
variable {b : Nat} {μ : zI} {ν : zJ}
theorem Tg0 : E_Told_get b 0 μ ν = some (μ (b + 2) 0, μ, ν) := Tg (k := 0) (by decide)
theorem Tg1 : E_Told_get b 1 μ ν = some (μ (b + 2) 1, μ, ν) := Tg (k := 1) (by decide)
theorem Tg2 : E_Told_get b 2 μ ν = some (μ (b + 2) 2, μ, ν) := Tg (k := 2) (by decide)
theorem Tg3 : E_Told_get b 3 μ ν = some (μ (b + 2) 3, μ, ν) := Tg (k := 3) (by decide)
theorem Tg4 : E_Told_get b 4 μ ν = some (μ (b + 2) 4, μ, ν) := Tg (k := 4) (by decide)
theorem Tg5 : E_Told_get b 5 μ ν = some (μ (b + 2) 5, μ, ν) := Tg (k := 5) (by decide)
theorem Tg6 : E_Told_get b 6 μ ν = some (μ (b + 2) 6, μ, ν) := Tg (k := 6) (by decide)
theorem Tg9 : E_Told_get b 9 μ ν = some (μ (b + 2) 9, μ, ν) := Tg (k := 9) (by decide)
theorem Tg12 : E_Told_get b 12 μ ν = some (μ (b + 2) 12, μ, ν) := Tg (k := 12) (by decide)
theorem Tg13 : E_Told_get b 13 μ ν = some (μ (b + 2) 13, μ, ν) := Tg (k := 13) (by decide)
theorem Tg14 : E_Told_get b 14 μ ν = some (μ (b + 2) 14, μ, ν) := Tg (k := 14) (by decide)
theorem Tg15 : E_Told_get b 15 μ ν = some (μ (b + 2) 15, μ, ν) := Tg (k := 15) (by decide)
theorem Tg16 : E_Told_get b 16 μ ν = some (μ (b + 2) 16, μ, ν) := Tg (k := 16) (by decide)
theorem Tg17 : E_Told_get b 17 μ ν = some (μ (b + 2) 17, μ, ν) := Tg (k := 17) (by decide)
theorem Tg18 : E_Told_get b 18 μ ν = some (μ (b + 2) 18, μ, ν) := Tg (k := 18) (by decide)
end TG
theorem zMin_t (x w : Int32) : (zMin x w).toInt = if w.toInt < x.toInt then w.toInt else x.toInt := by
  unfold zMin
  by_cases c : w < x
  · rw [if_pos c, if_pos (ilt.mp c)]
  · rw [if_neg c, if_neg (fun h => c (ilt.mpr h))]
theorem lad {a b : Int64} (h1 : -9223372036854775808 ≤ a.toInt + b.toInt) (h2 : a.toInt + b.toInt < 9223372036854775808) : (a + b).toInt = a.toInt + b.toInt := by
  rw [Int64.toInt_add]
  exact Int.bmod_eq_of_le (by omega) (by omega)
theorem ldv {a b : Int64} (h1 : 0 ≤ a.toInt) (h2 : 0 < b.toInt) : (a / b).toInt = a.toInt / b.toInt := by
  have hb : b ≠ -1 := by
    intro e
    rw [e] at h2
    exact absurd h2 (by decide)
  rw [Int64.toInt_div_of_ne_right a b hb, Int.tdiv_eq_ediv_of_nonneg h1]
theorem base_eq {c a : Int32} (c0 : 0 ≤ c.toInt) (c9 : c.toInt ≤ 99999) (a0 : 1000 ≤ a.toInt) : Int64.toInt32 ((300 * Int32.toInt64 c) / Int32.toInt64 a) = 300 * c / a := by
  have h3 : (300 : Int32).toInt = 300 := rfl
  have l3 : (300 : Int64).toInt = 300 := rfl
  have e1 : (300 * c).toInt = 300 * c.toInt := by rw [imu (by rw [h3]; omega) (by rw [h3]; omega), h3]
  have e2 : (300 * Int32.toInt64 c).toInt = 300 * c.toInt := by rw [lmu (by rw [i2t, l3]; omega) (by rw [i2t, l3]; omega), l3, i2t]
  have e3 : (300 * Int32.toInt64 c / Int32.toInt64 a).toInt = 300 * c.toInt / a.toInt := by rw [ldv (by rw [e2]; omega) (by rw [i2t]; omega), e2, i2t]
  have e4 : (300 * c / a).toInt = 300 * c.toInt / a.toInt := by rw [idv (by rw [e1]; omega) (by omega), e1]
  have b1 : 0 ≤ 300 * c.toInt / a.toInt := Int.ediv_nonneg (by omega) (by omega)
  have b2 : 300 * c.toInt / a.toInt ≤ 300 * c.toInt := Int.ediv_le_self _ (by omega)
  apply Int32.toInt_inj.mp
  rw [Int64.toInt_toInt32, e3, e4]
  exact Int.bmod_eq_of_le (by omega) (by omega)
theorem lcmp2 {x u v : Int32} (h1 : -2147483648 ≤ x.toInt * 100) (h2 : x.toInt * 100 < 2147483648) (h3 : -2147483648 ≤ u.toInt * v.toInt) (h4 : u.toInt * v.toInt < 2147483648) : 0 ≤ lg_cmp (100 * Int32.toInt64 x) (Int32.toInt64 u * Int32.toInt64 v) ↔ u * v ≤ x * 100 := by
  have h100 : (100 : Int32).toInt = 100 := rfl
  have l100 : (100 : Int64).toInt = 100 := rfl
  rw [lg_cmp_ge, lle, ile, imu (a := u) (b := v) (by omega) (by omega), imu (a := x) (b := 100) (by rw [h100]; omega) (by rw [h100]; omega), lmu (a := Int32.toInt64 u) (b := Int32.toInt64 v) (by rw [i2t, i2t]; omega) (by rw [i2t, i2t]; omega), lmu (a := 100) (b := Int32.toInt64 x) (by rw [i2t, l100]; omega) (by rw [i2t, l100]; omega), i2t, i2t, i2t, h100, l100]
  omega
/-- what is wanted; which stage begins -/
def bW (st g base hi lo : Int32) : Int32 := if st = 0 then g else zMax 0 (zMin g (20 * ((if st = 1 then hi else lo) - base) + 19))
def bN (st g base T C cap hi taper hold back l1 : Int32) : Int32 := if st = 0 then (if base + T / 20 < hi then (if C = cap then 1 else -1) else 1) else if st = 1 then (if taper ≤ T then (if l1 < hold then -1 else 2) else if g < taper then (if l1 < hold then -1 else 2) else 2) else if back * cap ≤ C * 100 then -1 else 0
theorem C_wanted {b : Nat} {μ : zI} {ν : zJ} {x1 x2 : Int32} : E_Battery_wanted b x1 x2 μ ν = some (bW (μ (b + 12) 1) x1 x2 (μ (b + 2) 2) (μ (b + 2) 3), μ, ν) := by
  rw [E_Battery_wanted, e_Battery_wanted_0, bW]
  by_cases c : μ (b + 12) 1 = 0
  · simp only [if_pos c]
  · by_cases d : μ (b + 12) 1 = 1
    · simp only [if_neg c, if_pos d, e_Battery_wanted_23, Tg2, Option.bind_some, zlet_eq]
    · simp only [if_neg c, if_neg d, e_Battery_wanted_23, Tg3, Option.bind_some, zlet_eq]
theorem C_next {b : Nat} {μ : zI} {ν : zJ} {x1 x2 st : Int32} (hs : μ (b + 12) 1 = st) (h3 : st = 0 ∨ st = 1 ∨ st = 2) : E_Battery_nextStage b x1 x2 μ ν = some (bN st x1 x2 (μ (b + 12) 4) (μ (b + 12) 0) (μ (b + 2) 0) (μ (b + 2) 2) (μ (b + 2) 6) (μ (b + 2) 5) (μ (b + 2) 4) (μ (b + 12) 2 + 1), if st = 1 then zu μ (b + 12) 2 (μ (b + 12) 2 + 1) else μ, ν) := by
  have hr : b + 2 ≠ b + 12 := by omega
  rcases h3 with rfl | rfl | rfl
  · simp only [E_Battery_nextStage, e_Battery_nextStage_0, Tg0, Tg2, Option.bind_some, zlet_eq, hs, bN, if_true, n01, if_false, e_Battery_nextStage_36, e_Battery_nextStage_52, e_Battery_nextStage_57, n10]
    by_cases c : x2 + μ (b + 12) 4 / 20 < μ (b + 2) 2
    · simp only [if_pos c]
      split <;> rfl
    · simp only [if_neg c]
  · simp (disch := omega) only [E_Battery_nextStage, e_Battery_nextStage_0, Tg0, Tg6, Option.bind_some, zlet_eq, hs, bN, if_true, n10, if_false, e_Battery_nextStage_103, e_Battery_nextStage_104, e_Battery_nextStage_123, e_Battery_nextStage_128, Tg5, zgh, zgk, zgr]
    by_cases c : μ (b + 2) 6 ≤ μ (b + 12) 4
    · simp only [if_pos c]
      split <;> rfl
    · simp only [if_neg c]
      by_cases d : x1 < μ (b + 2) 6
      · simp only [if_pos d]
        split <;> rfl
      · simp only [if_neg d]
  · simp only [E_Battery_nextStage, e_Battery_nextStage_0, Tg0, Tg4, Option.bind_some, zlet_eq, hs, bN, n20, n21, if_false, e_Battery_nextStage_152]
    split <;> rfl
theorem C_take {b : Nat} {μ : zI} {ν : zJ} {g st D base T N : Int32} (hs : μ (b + 12) 1 = st) (h3 : st = 0 ∨ st = 1 ∨ st = 2) (hD : D = zMin (μ (b + 12) 0) (μ (b + 2) 1)) (hc : ¬ μ (b + 2) 0 ≤ 0) (hB : base = 1100 + 300 * (μ (b + 12) 0 - D) / μ (b + 2) 0) (hT : T = zMin (bW st g base (μ (b + 2) 2) (μ (b + 2) 3)) (μ (b + 2) 0 - (μ (b + 12) 0 - D))) (hN : N = bN st g base T (μ (b + 12) 0 - D + T) (μ (b + 2) 0) (μ (b + 2) 2) (μ (b + 2) 6) (μ (b + 2) 5) (μ (b + 2) 4) (μ (b + 12) 2 + 1)) : ∃ μ', E_Battery_take b g μ ν = some (μ', ν) ∧ (∀ r, r ≠ b + 12 → μ' r = μ r) ∧ μ' (b + 12) 0 = μ (b + 12) 0 - D + T ∧ μ' (b + 12) 1 = (if N = -1 then st else N) ∧ μ' (b + 12) 2 = (if N = 1 then 0 else if st = 1 then μ (b + 12) 2 + 1 else μ (b + 12) 2) ∧ μ' (b + 12) 3 = D ∧ μ' (b + 12) 4 = T ∧ μ' (b + 12) 5 = N := by
  have hz : ¬ μ (b + 2) 0 = 0 := fun e => hc (by rw [e]; decide)
  generalize hA : zu (zu μ (b + 12) 3 D) (b + 12) 0 (μ (b + 12) 0 - D) = A
  have a2 : ∀ k, A (b + 2) k = μ (b + 2) k := fun k => by rw [← hA]; simp (disch := omega) only [zgr]
  have a0 : A (b + 12) 0 = μ (b + 12) 0 - D := by rw [← hA, zgh]
  have a1 : A (b + 12) 1 = st := by rw [← hA, ← hs]; simp (disch := omega) only [zgk]
  have ac2 : A (b + 12) 2 = μ (b + 12) 2 := by rw [← hA]; simp (disch := omega) only [zgk]
  have ac3 : A (b + 12) 3 = D := by rw [← hA]; simp (disch := omega) only [zgk, zgh]
  have ar : ∀ r, r ≠ b + 12 → A r = μ r := fun r h => by rw [← hA]; simp (disch := omega) only [zgr]
  have key : E_Battery_take b g μ ν = e_Battery_take_56 b g (μ (b + 2) 0) 1100 (300 * (μ (b + 12) 0 - D) / μ (b + 2) 0) A ν := by
    rw [E_Battery_take, e_Battery_take_0, ob_eq Tg0, zlet_eq, ob_eq Tg1, zlet_eq, zlet_eq]
    dsimp only
    rw [if_neg hc, if_neg hz, ← hD]
    simp (disch := omega) only [zgh, zgk]
    rw [hA]
  generalize hG : zu (zu A (b + 12) 4 T) (b + 12) 0 (μ (b + 12) 0 - D + T) = G
  have g2 : ∀ k, G (b + 2) k = μ (b + 2) k := fun k => by rw [← hG, ← a2]; simp (disch := omega) only [zgr]
  have g0 : G (b + 12) 0 = μ (b + 12) 0 - D + T := by rw [← hG, zgh]
  have g1 : G (b + 12) 1 = st := by rw [← hG, ← a1]; simp (disch := omega) only [zgk]
  have gc2 : G (b + 12) 2 = μ (b + 12) 2 := by rw [← hG, ← ac2]; simp (disch := omega) only [zgk]
  have gc3 : G (b + 12) 3 = D := by rw [← hG, ← ac3]; simp (disch := omega) only [zgk]
  have gc4 : G (b + 12) 4 = T := by rw [← hG]; simp (disch := omega) only [zgk, zgh]
  have gr : ∀ r, r ≠ b + 12 → G r = μ r := fun r h => by rw [← hG, ← ar r h]; simp (disch := omega) only [zgr]
  generalize hL : (if st = 1 then zu G (b + 12) 2 (μ (b + 12) 2 + 1) else G) = K
  have l2 : K (b + 12) 2 = if st = 1 then μ (b + 12) 2 + 1 else μ (b + 12) 2 := by
    rw [← hL]
    split
    · rw [zgh]
    · exact gc2
  have lk : ∀ k, k ≠ 2 → K (b + 12) k = G (b + 12) k := fun k h => by
    rw [← hL]
    split
    · rw [zgk h]
    · rfl
  have lr : ∀ r, r ≠ b + 12 → K r = μ r := fun r h => by
    rw [← hL, ← gr r h]
    split
    · rw [zgr h]
    · rfl
  have key2 : E_Battery_take b g μ ν = some (if N = -1 then (if N = 1 then zu (zu K (b + 12) 5 N) (b + 12) 2 0 else zu K (b + 12) 5 N) else zu (if N = 1 then zu (zu K (b + 12) 5 N) (b + 12) 2 0 else zu K (b + 12) 5 N) (b + 12) 1 N, ν) := by
    rw [key, e_Battery_take_56, zlet_eq, ← hB, ob_eq C_wanted, zlet_eq, zlet_eq]
    dsimp only
    rw [a1, a2, a2, a0, ← hT]
    rw [show zu A (b + 12) 4 T (b + 12) 0 = μ (b + 12) 0 - D by rw [zgk (by decide), a0], zgh, hG, ob_eq (C_next g1 h3)]
    dsimp only
    rw [gc4, g0, g2, g2, g2, g2, g2, gc2, ← hN, zlet_eq, hL, zgh]
    by_cases c : N = 1
    · rw [if_pos c, if_pos c, zlet_eq, e_Battery_take_118, e_Battery_take_134, zlet_eq, e_Battery_take_134, zgk (by decide), zgh]
      split <;> rfl
    · rw [if_neg c, if_neg c, e_Battery_take_118, e_Battery_take_134, zlet_eq, e_Battery_take_134, zgh]
      split <;> rfl
  refine ⟨_, key2, fun r h => ?_, ?_, ?_, ?_, ?_, ?_, ?_⟩
  · split <;> split <;> simp (disch := omega) only [zgr, lr]
  · split <;> split <;> simp (disch := omega) only [zgk, lk, g0]
  · split <;> split <;> simp (disch := omega) only [zgk, zgh, lk, g1]
  · by_cases c : N = -1
    · rw [if_pos c, if_neg (by rw [c]; decide), if_neg (by rw [c]; decide), zgk (by decide), l2]
    · rw [if_neg c, zgk (by decide)]
      by_cases d : N = 1
      · rw [if_pos d, if_pos d, zgh]
      · rw [if_neg d, if_neg d, zgk (by decide), l2]
  · split <;> split <;> simp (disch := omega) only [zgk, lk, gc3]
  · split <;> split <;> simp (disch := omega) only [zgk, lk, gc4]
  · split <;> split <;> simp (disch := omega) only [zgk, zgh]
