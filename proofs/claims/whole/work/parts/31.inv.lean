/-! What was told; the inverter. -/
theorem Tg {b : Nat} {μ : zI} {ν : zJ} {k : Nat} (h : k < 19) : E_Told_get b (nI k) μ ν = some (μ (b + 2) k, μ, ν) := by
  rw [E_Told_get, e_Told_get_0, if_neg (nI_pos (by omega)), if_neg (lge (c := 19) (k := k) 19 rfl h (by decide)), if_pos (zin_nI h (by decide)), nI_clamp (by omega), e_Told_get_20]
def drI (x0 x1 x2 : Int32) : Int32 := if x0 + (x1 - x0) / 8 < 50000 then x0 + (x1 - x0) / 8 - x2 else x0 + (x1 - x0) / 8 + x2
theorem C_pushed {x0 x1 x2 : Int32} {μ : zI} {ν : zJ} : E_Inverter_pushed x0 x1 x2 μ ν = some (drI x0 x1 x2, μ, ν) := by
  rw [E_Inverter_pushed, e_Inverter_pushed_0, zlet_eq, drI]
  split <;> rw [e_Inverter_pushed_24]
theorem M_drifts {q : Nat} {x0 x1 x2 : Int32} {μ : zI} {ν : zJ} : E_M_drifts q x0 x1 x2 μ ν = some (drI x0 x1 x2, μ, ν) := by
  rw [E_M_drifts, e_M_drifts_0, zlet_eq, drI]
  split <;> rw [e_M_drifts_28]
theorem M_isFar_eq {q : Nat} {x : Int32} {κ : zI} {τ : zJ} : E_M_isFar q x κ τ = some (if κ (q + 7) 7 < x - 50000 then 1 else if 50000 - x ≤ κ (q + 7) 7 then 0 else 1, κ, τ) := by
  rw [E_M_isFar, e_M_isFar_0]
  by_cases c : κ (q + 7) 7 < x - 50000
  · rw [if_pos c, if_pos c, e_M_isFar_28, e_M_isFar_33, if_pos (show zb 1 = true from rfl)]
  · rw [if_neg c, if_neg c]
    by_cases d : 50000 - x ≤ κ (q + 7) 7
    · rw [if_pos d, if_pos d, e_M_isFar_33, if_pos (show zb 0 = true from rfl)]
    · rw [if_neg d, if_neg d, e_M_isFar_28, e_M_isFar_33, if_pos (show zb 1 = true from rfl)]
theorem C_isFar_eq {b : Nat} {x : Int32} {μ : zI} {ν : zJ} : E_Inverter_isFar b x μ ν = some (if zAbs (x - 50000) ≤ μ (b + 2) 7 then 0 else 1, μ, ν) := by
  rw [E_Inverter_isFar, e_Inverter_isFar_0, show (7 : Int32) = nI 7 from rfl, ob_eq (Tg (by omega))]
  by_cases c : zAbs (x - 50000) ≤ μ (b + 2) 7
  · rw [if_pos c, if_pos c, e_Inverter_isFar_21, if_pos (show zb 0 = true from rfl)]
  · rw [if_neg c, if_neg c, e_Inverter_isFar_21, if_pos (show zb 1 = true from rfl)]
theorem far_eq {x w : Int32} (h1 : -1000000 ≤ x.toInt) (h2 : x.toInt ≤ 1000000) : (if zAbs (x - 50000) ≤ w then (0 : Int32) else 1) = if w < x - 50000 then 1 else if 50000 - x ≤ w then 0 else 1 := by
  have h5 : (50000 : Int32).toInt = 50000 := rfl
  have h0 : (0 : Int32).toInt = 0 := rfl
  have e1 : (x - 50000).toInt = x.toInt - 50000 := by rw [isb (by rw [h5]; omega) (by rw [h5]; omega), h5]
  have e2 : (50000 - x).toInt = 50000 - x.toInt := by rw [isb (by rw [h5]; omega) (by rw [h5]; omega), h5]
  unfold zAbs
  by_cases c : 0 ≤ x - 50000
  · rw [if_pos c]
    have c' := ile.mp c
    rw [e1, h0] at c'
    by_cases d : x - 50000 ≤ w
    · have d' := ile.mp d
      rw [e1] at d'
      rw [if_pos d, if_neg (Int32.not_lt.mpr d), if_pos (ile.mpr (by rw [e2]; omega))]
    · rw [if_neg d, if_pos (Int32.not_le.mp d)]
  · rw [if_neg c]
    have c' : ¬ 0 ≤ x.toInt - 50000 := fun g => c (ile.mpr (by rw [e1, h0]; exact g))
    have e3 : 0 - (x - 50000) = 50000 - x := Int32.toInt_inj.mp (by rw [isb (by rw [e1, h0]; omega) (by rw [e1, h0]; omega), e1, e2, h0]; omega)
    rw [e3]
    by_cases d : 50000 - x ≤ w
    · have d' := ile.mp d
      rw [e2] at d'
      rw [if_pos d, if_neg (fun g => by have g' := ilt.mp g; rw [e1] at g'; omega)]
    · rw [if_neg d]
      split <;> rfl
