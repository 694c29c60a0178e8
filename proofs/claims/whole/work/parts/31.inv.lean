/-! What was told; the inverter. -/
theorem Tg {b : Nat} {μ : zI} {ν : zJ} {k : Nat} (h : k < 19) : E_Told_get b (nI k) μ ν = some (μ (b + 2) k, μ, ν) := by
  rw [E_Told_get, e_Told_get_0, if_neg (nI_pos (by omega)), if_neg (lge (c := 19) (k := k) 19 rfl h (by decide)), if_pos (zin_nI h (by decide)), nI_clamp (by omega), e_Told_get_20]
def drI (x0 x1 x2 : Int32) : Int32 := if x0 + (x1 - x0) / 8 < 50000 then x0 + (x1 - x0) / 8 - x2 else x0 + (x1 - x0) / 8 + x2
theorem C_pushed {x0 x1 x2 : Int32} {μ : zI} {ν : zJ} : E_Inverter_pushed x0 x1 x2 μ ν = some (drI x0 x1 x2, μ, ν) := by
  rw [E_Inverter_pushed, e_Inverter_pushed_0, zlet_eq, drI]
  split <;> rw [e_Inverter_pushed_24]
theorem M_drifts {q : Nat} {x0 x1 x2 : Int32} {μ : zI} {ν : zJ} : E_M_drifts q x0 x1 x2 μ ν = some (drI x0 x1 x2, μ, ν) := by
  rw [E_M_drifts, e_M_drifts_0, zlet_eq, drI]
  split <;> rw [e_M_drifts_28]
theorem M_isFar_eq {q : Nat} {x : Int32} {κ : zI} {τ : zJ} : E_M_isFar q x κ τ = some (if κ (q + 7) 7 < x - 50000 then 1 else if 50000 - x ≤ κ (q + 7) 7 then 0 else 1, κ, τ) := by
  rw [E_M_isFar, e_M_isFar_0]
  by_cases c : κ (q + 7) 7 < x - 50000
  · rw [if_pos c, if_pos c, e_M_isFar_28, e_M_isFar_33, if_pos (show zb 1 = true from rfl)]
  · rw [if_neg c, if_neg c]
    by_cases d : 50000 - x ≤ κ (q + 7) 7
    · rw [if_pos d, if_pos d, e_M_isFar_33, if_pos (show zb 0 = true from rfl)]
    · rw [if_neg d, if_neg d, e_M_isFar_28, e_M_isFar_33, if_pos (show zb 1 = true from rfl)]
theorem C_isFar_eq {b : Nat} {x : Int32} {μ : zI} {ν : zJ} : E_Inverter_isFar b x μ ν = some (if zAbs (x - 50000) ≤ μ (b + 2) 7 then 0 else 1, μ, ν) := by
  rw [E_Inverter_isFar, e_Inverter_isFar_0, show (7 : Int32) = nI 7 from rfl, ob_eq (Tg (by omega))]
  by_cases c : zAbs (x - 50000) ≤ μ (b + 2) 7
  · rw [if_pos c, if_pos c, e_Inverter_isFar_21, if_pos (show zb 0 = true from rfl)]
  · rw [if_neg c, if_neg c, e_Inverter_isFar_21, if_pos (show zb 1 = true from rfl)]
