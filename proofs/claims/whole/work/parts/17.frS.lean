theorem g_Told_renew_0 {b : Nat}   {μ : zI} {ν : zJ} {out : (zI × zJ)} (hF : e_Told_renew_0 b   μ ν = some out) : zFr (fun r => (b ≤ r ∧ r < b + 15)) (fun _ => False) μ ν out.1 out.2 := by
  unfold e_Told_renew_0 at hF
  have g0 := zFr.rf (fun r => (b ≤ r ∧ r < b + 15)) (fun _ => False) μ ν
  obtain ⟨hy1, hF⟩ := zh_if hF
  obtain ⟨hy2, hF⟩ := zh_if hF
  obtain ⟨μy3, hy3, hF⟩ := zh_let hF
  have gy3 := zFr.row g0 (r := (b + 2)) (by first | omega | (dsimp only; omega)) hy3
  cases hF
  exact gy3
theorem fr_Told_renew {b : Nat} {μ : zI} {ν : zJ} {out : (zI × zJ)} (hE : E_Told_renew b μ ν = some out) : zFr (fun r => (b ≤ r ∧ r < b + 15)) (fun _ => False) μ ν out.1 out.2 := (g_Told_renew_0 hE)
theorem g_Panel_renew_0 {b : Nat}   {μ : zI} {ν : zJ} {out : (zI × zJ)} (hF : e_Panel_renew_0 b   μ ν = some out) : zFr (fun r => (b ≤ r ∧ r < b + 15)) (fun _ => False) μ ν out.1 out.2 := by
  unfold e_Panel_renew_0 at hF
  have g0 := zFr.rf (fun r => (b ≤ r ∧ r < b + 15)) (fun _ => False) μ ν
  obtain ⟨μy1, hy1, hF⟩ := zh_let hF
  have gy1 := zFr.put g0 (r := (b + 3)) (by first | omega | (dsimp only; omega)) hy1
  cases hF
  exact gy1
theorem fr_Panel_renew {b : Nat} {μ : zI} {ν : zJ} {out : (zI × zJ)} (hE : E_Panel_renew b μ ν = some out) : zFr (fun r => (b ≤ r ∧ r < b + 15)) (fun _ => False) μ ν out.1 out.2 := (g_Panel_renew_0 hE)
theorem g_Schedule_renew_0 {b : Nat}   {μ : zI} {ν : zJ} {out : (zI × zJ)} (hF : e_Schedule_renew_0 b   μ ν = some out) : zFr (fun r => (b ≤ r ∧ r < b + 15)) (fun _ => False) μ ν out.1 out.2 := by
  unfold e_Schedule_renew_0 at hF
  have g0 := zFr.rf (fun r => (b ≤ r ∧ r < b + 15)) (fun _ => False) μ ν
  obtain ⟨μy1, hy1, hF⟩ := zh_let hF
  have gy1 := zFr.put g0 (r := (b + 9)) (by first | omega | (dsimp only; omega)) hy1
  obtain ⟨μy2, hy2, hF⟩ := zh_let hF
  have gy2 := zFr.put gy1 (r := (b + 9)) (by first | omega | (dsimp only; omega)) hy2
  cases hF
  exact gy2
theorem fr_Schedule_renew {b : Nat} {μ : zI} {ν : zJ} {out : (zI × zJ)} (hE : E_Schedule_renew b μ ν = some out) : zFr (fun r => (b ≤ r ∧ r < b + 15)) (fun _ => False) μ ν out.1 out.2 := (g_Schedule_renew_0 hE)
theorem g_Follower_renew_0 {b : Nat}   {μ : zI} {ν : zJ} {out : (zI × zJ)} (hF : e_Follower_renew_0 b   μ ν = some out) : zFr (fun r => (b ≤ r ∧ r < b + 15)) (fun _ => False) μ ν out.1 out.2 := by
  unfold e_Follower_renew_0 at hF
  have g0 := zFr.rf (fun r => (b ≤ r ∧ r < b + 15)) (fun _ => False) μ ν
  obtain ⟨μy1, hy1, hF⟩ := zh_let hF
  have gy1 := zFr.put g0 (r := (b + 11)) (by first | omega | (dsimp only; omega)) hy1
  obtain ⟨μy2, hy2, hF⟩ := zh_let hF
  have gy2 := zFr.put gy1 (r := (b + 11)) (by first | omega | (dsimp only; omega)) hy2
  obtain ⟨μy3, hy3, hF⟩ := zh_let hF
  have gy3 := zFr.put gy2 (r := (b + 11)) (by first | omega | (dsimp only; omega)) hy3
  obtain ⟨μy4, hy4, hF⟩ := zh_let hF
  have gy4 := zFr.put gy3 (r := (b + 11)) (by first | omega | (dsimp only; omega)) hy4
  obtain ⟨μy5, hy5, hF⟩ := zh_let hF
  have gy5 := zFr.put gy4 (r := (b + 11)) (by first | omega | (dsimp only; omega)) hy5
  obtain ⟨μy6, hy6, hF⟩ := zh_let hF
  have gy6 := zFr.put gy5 (r := (b + 11)) (by first | omega | (dsimp only; omega)) hy6
  obtain ⟨μy7, hy7, hF⟩ := zh_let hF
  have gy7 := zFr.put gy6 (r := (b + 11)) (by first | omega | (dsimp only; omega)) hy7
  obtain ⟨μy8, hy8, hF⟩ := zh_let hF
  have gy8 := zFr.put gy7 (r := (b + 11)) (by first | omega | (dsimp only; omega)) hy8
  obtain ⟨μy9, hy9, hF⟩ := zh_let hF
  have gy9 := zFr.put gy8 (r := (b + 11)) (by first | omega | (dsimp only; omega)) hy9
  obtain ⟨μy10, hy10, hF⟩ := zh_let hF
  have gy10 := zFr.put gy9 (r := (b + 11)) (by first | omega | (dsimp only; omega)) hy10
  obtain ⟨μy11, hy11, hF⟩ := zh_let hF
  have gy11 := zFr.put gy10 (r := (b + 11)) (by first | omega | (dsimp only; omega)) hy11
  obtain ⟨μy12, hy12, hF⟩ := zh_let hF
  have gy12 := zFr.put gy11 (r := (b + 11)) (by first | omega | (dsimp only; omega)) hy12
  obtain ⟨μy13, hy13, hF⟩ := zh_let hF
  have gy13 := zFr.put gy12 (r := (b + 11)) (by first | omega | (dsimp only; omega)) hy13
  cases hF
  exact gy13
theorem fr_Follower_renew {b : Nat} {μ : zI} {ν : zJ} {out : (zI × zJ)} (hE : E_Follower_renew b μ ν = some out) : zFr (fun r => (b ≤ r ∧ r < b + 15)) (fun _ => False) μ ν out.1 out.2 := (g_Follower_renew_0 hE)
theorem g_Battery_renew_0 {b : Nat}   {μ : zI} {ν : zJ} {out : (zI × zJ)} (hF : e_Battery_renew_0 b   μ ν = some out) : zFr (fun r => (b ≤ r ∧ r < b + 15)) (fun _ => False) μ ν out.1 out.2 := by
  unfold e_Battery_renew_0 at hF
  have g0 := zFr.rf (fun r => (b ≤ r ∧ r < b + 15)) (fun _ => False) μ ν
  obtain ⟨μy1, hy1, hF⟩ := zh_let hF
  have gy1 := zFr.put g0 (r := (b + 12)) (by first | omega | (dsimp only; omega)) hy1
  obtain ⟨μy2, hy2, hF⟩ := zh_let hF
  have gy2 := zFr.put gy1 (r := (b + 12)) (by first | omega | (dsimp only; omega)) hy2
  obtain ⟨μy3, hy3, hF⟩ := zh_let hF
  have gy3 := zFr.put gy2 (r := (b + 12)) (by first | omega | (dsimp only; omega)) hy3
  obtain ⟨μy4, hy4, hF⟩ := zh_let hF
  have gy4 := zFr.put gy3 (r := (b + 12)) (by first | omega | (dsimp only; omega)) hy4
  obtain ⟨μy5, hy5, hF⟩ := zh_let hF
  have gy5 := zFr.put gy4 (r := (b + 12)) (by first | omega | (dsimp only; omega)) hy5
  obtain ⟨μy6, hy6, hF⟩ := zh_let hF
  have gy6 := zFr.put gy5 (r := (b + 12)) (by first | omega | (dsimp only; omega)) hy6
  cases hF
  exact gy6
theorem fr_Battery_renew {b : Nat} {μ : zI} {ν : zJ} {out : (zI × zJ)} (hE : E_Battery_renew b μ ν = some out) : zFr (fun r => (b ≤ r ∧ r < b + 15)) (fun _ => False) μ ν out.1 out.2 := (g_Battery_renew_0 hE)
theorem g_Inverter_renew_0 {b : Nat}   {μ : zI} {ν : zJ} {out : (zI × zJ)} (hF : e_Inverter_renew_0 b   μ ν = some out) : zFr (fun r => (b ≤ r ∧ r < b + 15)) (fun _ => False) μ ν out.1 out.2 := by
  unfold e_Inverter_renew_0 at hF
  have g0 := zFr.rf (fun r => (b ≤ r ∧ r < b + 15)) (fun _ => False) μ ν
  obtain ⟨μy1, hy1, hF⟩ := zh_let hF
  have gy1 := zFr.put g0 (r := (b + 13)) (by first | omega | (dsimp only; omega)) hy1
  obtain ⟨μy2, hy2, hF⟩ := zh_let hF
  have gy2 := zFr.put gy1 (r := (b + 13)) (by first | omega | (dsimp only; omega)) hy2
  obtain ⟨μy3, hy3, hF⟩ := zh_let hF
  have gy3 := zFr.put gy2 (r := (b + 13)) (by first | omega | (dsimp only; omega)) hy3
  obtain ⟨μy4, hy4, hF⟩ := zh_let hF
  have gy4 := zFr.put gy3 (r := (b + 13)) (by first | omega | (dsimp only; omega)) hy4
  obtain ⟨μy5, hy5, hF⟩ := zh_let hF
  have gy5 := zFr.put gy4 (r := (b + 13)) (by first | omega | (dsimp only; omega)) hy5
  obtain ⟨μy6, hy6, hF⟩ := zh_let hF
  have gy6 := zFr.put gy5 (r := (b + 13)) (by first | omega | (dsimp only; omega)) hy6
  obtain ⟨μy7, hy7, hF⟩ := zh_let hF
  have gy7 := zFr.put gy6 (r := (b + 13)) (by first | omega | (dsimp only; omega)) hy7
  obtain ⟨μy8, hy8, hF⟩ := zh_let hF
  have gy8 := zFr.put gy7 (r := (b + 13)) (by first | omega | (dsimp only; omega)) hy8
  cases hF
  exact gy8
theorem fr_Inverter_renew {b : Nat} {μ : zI} {ν : zJ} {out : (zI × zJ)} (hE : E_Inverter_renew b μ ν = some out) : zFr (fun r => (b ≤ r ∧ r < b + 15)) (fun _ => False) μ ν out.1 out.2 := (g_Inverter_renew_0 hE)
theorem g_Station_clearSums_0 {b : Nat}   {μ : zI} {ν : zJ} {out : (zI × zJ)} (hF : e_Station_clearSums_0 b   μ ν = some out) : zFr (fun _ => False) (fun r => (b ≤ r ∧ r < b + 15)) μ ν out.1 out.2 := by
  unfold e_Station_clearSums_0 at hF
  have g0 := zFr.rf (fun _ => False) (fun r => (b ≤ r ∧ r < b + 15)) μ ν
  obtain ⟨νy1, hy1, hF⟩ := zh_let hF
  have gy1 := zFr.rowl g0 (r := (b + 14)) (by first | omega | (dsimp only; omega)) hy1
  cases hF
  exact gy1
theorem fr_Station_clearSums {b : Nat} {μ : zI} {ν : zJ} {out : (zI × zJ)} (hE : E_Station_clearSums b μ ν = some out) : zFr (fun _ => False) (fun r => (b ≤ r ∧ r < b + 15)) μ ν out.1 out.2 := (g_Station_clearSums_0 hE)
theorem g_Station_renew_0 {b : Nat}   {μ : zI} {ν : zJ} {out : (zI × zJ)} (hF : e_Station_renew_0 b   μ ν = some out) : zFr (fun r => (b ≤ r ∧ r < b + 15)) (fun r => (b ≤ r ∧ r < b + 15)) μ ν out.1 out.2 := by
  unfold e_Station_renew_0 at hF
  have g0 := zFr.rf (fun r => (b ≤ r ∧ r < b + 15)) (fun r => (b ≤ r ∧ r < b + 15)) μ ν
  obtain ⟨μy1, hy1, hF⟩ := zh_let hF
  have gy1 := zFr.put g0 (r := b) (by first | omega | (dsimp only; omega)) hy1
  obtain ⟨μy2, hy2, hF⟩ := zh_let hF
  have gy2 := zFr.put gy1 (r := b) (by first | omega | (dsimp only; omega)) hy2
  obtain ⟨ty3, hty3, hF⟩ := zh_bind hF
  have gty3 := zFr.tr gy2 (fr_Told_renew hty3) (fun r h => by first | exact h | exact h.elim | omega | (revert h; dsimp only; omega)) (fun r h => by first | exact h | exact h.elim | omega | (revert h; dsimp only; omega))
  obtain ⟨ty4, hty4, hF⟩ := zh_bind hF
  have gty4 := zFr.tr gty3 (fr_Panel_renew hty4) (fun r h => by first | exact h | exact h.elim | omega | (revert h; dsimp only; omega)) (fun r h => by first | exact h | exact h.elim | omega | (revert h; dsimp only; omega))
  obtain ⟨ty5, hty5, hF⟩ := zh_bind hF
  have gty5 := zFr.tr gty4 (fr_Schedule_renew hty5) (fun r h => by first | exact h | exact h.elim | omega | (revert h; dsimp only; omega)) (fun r h => by first | exact h | exact h.elim | omega | (revert h; dsimp only; omega))
  obtain ⟨ty6, hty6, hF⟩ := zh_bind hF
  have gty6 := zFr.tr gty5 (fr_Follower_renew hty6) (fun r h => by first | exact h | exact h.elim | omega | (revert h; dsimp only; omega)) (fun r h => by first | exact h | exact h.elim | omega | (revert h; dsimp only; omega))
  obtain ⟨ty7, hty7, hF⟩ := zh_bind hF
  have gty7 := zFr.tr gty6 (fr_Battery_renew hty7) (fun r h => by first | exact h | exact h.elim | omega | (revert h; dsimp only; omega)) (fun r h => by first | exact h | exact h.elim | omega | (revert h; dsimp only; omega))
  obtain ⟨ty8, hty8, hF⟩ := zh_bind hF
  have gty8 := zFr.tr gty7 (fr_Inverter_renew hty8) (fun r h => by first | exact h | exact h.elim | omega | (revert h; dsimp only; omega)) (fun r h => by first | exact h | exact h.elim | omega | (revert h; dsimp only; omega))
  obtain ⟨ty9, hty9, hF⟩ := zh_bind hF
  have gty9 := zFr.tr gty8 (fr_Station_clearSums hty9) (fun r h => by first | exact h | exact h.elim | omega | (revert h; dsimp only; omega)) (fun r h => by first | exact h | exact h.elim | omega | (revert h; dsimp only; omega))
  cases hF
  exact gty9
theorem fr_Station_renew {b : Nat} {μ : zI} {ν : zJ} {out : (zI × zJ)} (hE : E_Station_renew b μ ν = some out) : zFr (fun r => (b ≤ r ∧ r < b + 15)) (fun r => (b ≤ r ∧ r < b + 15)) μ ν out.1 out.2 := (g_Station_renew_0 hE)
theorem g_Panel_greatestLit_35 {b : Nat}  {x1 : Int32} {x2 : Int32} {μ : zI} {ν : zJ} {out : (Int32 × zI × zJ)} (hF : e_Panel_greatestLit_35 b  x1 x2 μ ν = some out) : zFr (fun _ => False) (fun _ => False) μ ν out.2.1 out.2.2 := by
  unfold e_Panel_greatestLit_35 at hF
  have g0 := zFr.rf (fun _ => False) (fun _ => False) μ ν
  cases hF
  exact g0
theorem g_Panel_greatestLit_4 {b : Nat}  {out : (Int32 × zI × zJ)} : ∀ (n : Nat) (x1 : Int32) (x2 : Int32) (μ : zI) (ν : zJ), f_Panel_greatestLit_4 b  n x1 x2 μ ν = some out → zFr (fun _ => False) (fun _ => False) μ ν out.2.1 out.2.2 := by
  intro n
  induction n with
  | zero => intro x1 x2 μ ν hF; cases hF
  | succ n ih =>
    intro x1 x2 μ ν hF
    dsimp only [f_Panel_greatestLit_4] at hF
    have g0 := zFr.rf (fun _ => False) (fun _ => False) μ ν
    rcases Decidable.em ((μ (b + 3) 0) ≤ x2) with cy1 | cy1
    · replace hF := zh_t cy1 hF
      exact zFr.tr g0 (g_Panel_greatestLit_35  hF) (fun _ h => h) (fun _ h => h)
    · replace hF := zh_f cy1 hF
      rcases Decidable.em (6 ≤ x2) with cy2 | cy2
      · replace hF := zh_t cy2 hF
        exact zFr.tr g0 (g_Panel_greatestLit_35  hF) (fun _ h => h) (fun _ h => h)
      · replace hF := zh_f cy2 hF
        obtain ⟨hy3, hF⟩ := zh_if hF
        obtain ⟨y4, hy4, hF⟩ := zh_let hF
        exact zFr.tr g0 (ih _ _ _ _ hF) (fun _ h => h) (fun _ h => h)
theorem g_Panel_greatestLit_0 {b : Nat}   {μ : zI} {ν : zJ} {out : (Int32 × zI × zJ)} (hF : e_Panel_greatestLit_0 b   μ ν = some out) : zFr (fun _ => False) (fun _ => False) μ ν out.2.1 out.2.2 := by
  unfold e_Panel_greatestLit_0 at hF
  have g0 := zFr.rf (fun _ => False) (fun _ => False) μ ν
  exact zFr.tr g0 (g_Panel_greatestLit_4  zFuel _ _ _ _ hF) (fun _ h => h) (fun _ h => h)
theorem fr_Panel_greatestLit {b : Nat} {μ : zI} {ν : zJ} {out : (Int32 × zI × zJ)} (hE : E_Panel_greatestLit b μ ν = some out) : zFr (fun _ => False) (fun _ => False) μ ν out.2.1 out.2.2 := (g_Panel_greatestLit_0 hE)
theorem g_Panel_voltsAt_67 {b : Nat} {r4 : Int32 → Int32 → Int32 → zI → zJ → Option (Int32 × zI × zJ)} {x1 : Int32} {x2 : Int32} {x3 : Int32} {x4 : Int32} {μ : zI} {ν : zJ} {out : (Int32 × zI × zJ)} (hr4 : ∀ (x1 : Int32) (x2 : Int32) (x3 : Int32) (μ : zI) (ν : zJ), r4 x1 x2 x3 μ ν = some out → zFr (fun _ => False) (fun _ => False) μ ν out.2.1 out.2.2) (hF : e_Panel_voltsAt_67 b r4 x1 x2 x3 x4 μ ν = some out) : zFr (fun _ => False) (fun _ => False) μ ν out.2.1 out.2.2 := by
  unfold e_Panel_voltsAt_67 at hF
  have g0 := zFr.rf (fun _ => False) (fun _ => False) μ ν
  exact zFr.tr g0 (hr4 _ _ _ _ _ hF) (fun _ h => h) (fun _ h => h)
theorem g_Panel_voltsAt_73 {b : Nat}  {x1 : Int32} {x2 : Int32} {x3 : Int32} {μ : zI} {ν : zJ} {out : (Int32 × zI × zJ)} (hF : e_Panel_voltsAt_73 b  x1 x2 x3 μ ν = some out) : zFr (fun _ => False) (fun _ => False) μ ν out.2.1 out.2.2 := by
  unfold e_Panel_voltsAt_73 at hF
  have g0 := zFr.rf (fun _ => False) (fun _ => False) μ ν
  cases hF
  exact g0
theorem g_Panel_voltsAt_4 {b : Nat}  {out : (Int32 × zI × zJ)} : ∀ (n : Nat) (x1 : Int32) (x2 : Int32) (x3 : Int32) (μ : zI) (ν : zJ), f_Panel_voltsAt_4 b  n x1 x2 x3 μ ν = some out → zFr (fun _ => False) (fun _ => False) μ ν out.2.1 out.2.2 := by
  intro n
  induction n with
  | zero => intro x1 x2 x3 μ ν hF; cases hF
  | succ n ih =>
    intro x1 x2 x3 μ ν hF
    dsimp only [f_Panel_voltsAt_4] at hF
    have g0 := zFr.rf (fun _ => False) (fun _ => False) μ ν
    rcases Decidable.em ((μ (b + 3) 0) ≤ x3) with cy1 | cy1
    · replace hF := zh_t cy1 hF
      exact zFr.tr g0 (g_Panel_voltsAt_73  hF) (fun _ h => h) (fun _ h => h)
    · replace hF := zh_f cy1 hF
      rcases Decidable.em (6 ≤ x3) with cy2 | cy2
      · replace hF := zh_t cy2 hF
        exact zFr.tr g0 (g_Panel_voltsAt_73  hF) (fun _ h => h) (fun _ h => h)
      · replace hF := zh_f cy2 hF
        obtain ⟨hy3, hF⟩ := zh_if hF
        obtain ⟨hy4, hF⟩ := zh_if hF
        obtain ⟨y5, hy5, hF⟩ := zh_let hF
        obtain ⟨hy6, hF⟩ := zh_if hF
        rcases Decidable.em ((μ (b + 7) (Int32.toNatClampNeg x3)) ≤ x1) with cy7 | cy7
        · replace hF := zh_t cy7 hF
          exact zFr.tr g0 (g_Panel_voltsAt_67 (fun a0 a1 a2 a3 a4 => ih a0 a1 a2 a3 a4) hF) (fun _ h => h) (fun _ h => h)
        · replace hF := zh_f cy7 hF
          rcases Decidable.em (y5 ≤ 0) with cy8 | cy8
          · replace hF := zh_t cy8 hF
            exact zFr.tr g0 (g_Panel_voltsAt_67 (fun a0 a1 a2 a3 a4 => ih a0 a1 a2 a3 a4) hF) (fun _ h => h) (fun _ h => h)
          · replace hF := zh_f cy8 hF
            obtain ⟨hy9, hF⟩ := zh_if hF
            obtain ⟨hy10, hF⟩ := zh_ne hF
            obtain ⟨y11, hy11, hF⟩ := zh_let hF
            exact zFr.tr g0 (g_Panel_voltsAt_67 (fun a0 a1 a2 a3 a4 => ih a0 a1 a2 a3 a4) hF) (fun _ h => h) (fun _ h => h)
theorem g_Panel_voltsAt_0 {b : Nat}  {x1 : Int32} {μ : zI} {ν : zJ} {out : (Int32 × zI × zJ)} (hF : e_Panel_voltsAt_0 b  x1 μ ν = some out) : zFr (fun _ => False) (fun _ => False) μ ν out.2.1 out.2.2 := by
  unfold e_Panel_voltsAt_0 at hF
  have g0 := zFr.rf (fun _ => False) (fun _ => False) μ ν
  exact zFr.tr g0 (g_Panel_voltsAt_4  zFuel _ _ _ _ _ hF) (fun _ h => h) (fun _ h => h)
theorem fr_Panel_voltsAt {b : Nat} {x1 : Int32} {μ : zI} {ν : zJ} {out : (Int32 × zI × zJ)} (hE : E_Panel_voltsAt b x1 μ ν = some out) : zFr (fun _ => False) (fun _ => False) μ ν out.2.1 out.2.2 := (g_Panel_voltsAt_0 hE)
theorem g_Panel_reckon_81 {b : Nat} {r25 : Int32 → Int32 → zI → zJ → Option (zI × zJ)} {x1 : Int32} {x2 : Int32} {μ : zI} {ν : zJ} {out : (zI × zJ)} (hr25 : ∀ (x1 : Int32) (x2 : Int32) (μ : zI) (ν : zJ), r25 x1 x2 μ ν = some out → zFr (fun r => (b ≤ r ∧ r < b + 15)) (fun _ => False) μ ν out.1 out.2) (hF : e_Panel_reckon_81 b r25 x1 x2 μ ν = some out) : zFr (fun r => (b ≤ r ∧ r < b + 15)) (fun _ => False) μ ν out.1 out.2 := by
  unfold e_Panel_reckon_81 at hF
  have g0 := zFr.rf (fun r => (b ≤ r ∧ r < b + 15)) (fun _ => False) μ ν
  exact zFr.tr g0 (hr25 _ _ _ _ hF) (fun _ h => h) (fun _ h => h)
theorem g_Panel_reckon_87 {b : Nat}  {x1 : Int32} {x2 : Int32} {μ : zI} {ν : zJ} {out : (zI × zJ)} (hF : e_Panel_reckon_87 b  x1 x2 μ ν = some out) : zFr (fun r => (b ≤ r ∧ r < b + 15)) (fun _ => False) μ ν out.1 out.2 := by
  unfold e_Panel_reckon_87 at hF
  have g0 := zFr.rf (fun r => (b ≤ r ∧ r < b + 15)) (fun _ => False) μ ν
  cases hF
  exact g0
theorem g_Panel_reckon_25 {b : Nat}  {out : (zI × zJ)} : ∀ (n : Nat) (x1 : Int32) (x2 : Int32) (μ : zI) (ν : zJ), f_Panel_reckon_25 b  n x1 x2 μ ν = some out → zFr (fun r => (b ≤ r ∧ r < b + 15)) (fun _ => False) μ ν out.1 out.2 := by
  intro n
  induction n with
  | zero => intro x1 x2 μ ν hF; cases hF
  | succ n ih =>
    intro x1 x2 μ ν hF
    dsimp only [f_Panel_reckon_25] at hF
    have g0 := zFr.rf (fun r => (b ≤ r ∧ r < b + 15)) (fun _ => False) μ ν
    rcases Decidable.em (1000 ≤ x2) with cy1 | cy1
    · replace hF := zh_t cy1 hF
      exact zFr.tr g0 (g_Panel_reckon_87  hF) (fun _ h => h) (fun _ h => h)
    · replace hF := zh_f cy1 hF
      rcases Decidable.em (x1 ≤ x2) with cy2 | cy2
      · replace hF := zh_t cy2 hF
        exact zFr.tr g0 (g_Panel_reckon_87  hF) (fun _ h => h) (fun _ h => h)
      · replace hF := zh_f cy2 hF
        obtain ⟨ty3, hty3, hF⟩ := zh_bind hF
        have gty3 := zFr.tr g0 (fr_Panel_voltsAt hty3) (fun r h => by first | exact h | exact h.elim | omega | (revert h; dsimp only; omega)) (fun r h => by first | exact h | exact h.elim | omega | (revert h; dsimp only; omega))
        obtain ⟨hy4, hF⟩ := zh_if hF
        obtain ⟨μy5, hy5, hF⟩ := zh_let hF
        have gy5 := zFr.put gty3 (r := (b + 8)) (by first | omega | (dsimp only; omega)) hy5
        obtain ⟨hy6, hF⟩ := zh_if hF
        rcases Decidable.em ((μy5 (b + 8) (Int32.toNatClampNeg x2)) ≤ (μy5 (b + 3) 2)) with cy7 | cy7
        · replace hF := zh_t cy7 hF
          exact zFr.tr gy5 (g_Panel_reckon_81 (fun a0 a1 a2 a3 => ih a0 a1 a2 a3) hF) (fun _ h => h) (fun _ h => h)
        · replace hF := zh_f cy7 hF
          obtain ⟨hy8, hF⟩ := zh_if hF
          obtain ⟨μy9, hy9, hF⟩ := zh_let hF
          have gy9 := zFr.put gy5 (r := (b + 3)) (by first | omega | (dsimp only; omega)) hy9
          obtain ⟨μy10, hy10, hF⟩ := zh_let hF
          have gy10 := zFr.put gy9 (r := (b + 3)) (by first | omega | (dsimp only; omega)) hy10
          exact zFr.tr gy10 (g_Panel_reckon_81 (fun a0 a1 a2 a3 => ih a0 a1 a2 a3) hF) (fun _ h => h) (fun _ h => h)
theorem g_Panel_reckon_0 {b : Nat}   {μ : zI} {ν : zJ} {out : (zI × zJ)} (hF : e_Panel_reckon_0 b   μ ν = some out) : zFr (fun r => (b ≤ r ∧ r < b + 15)) (fun _ => False) μ ν out.1 out.2 := by
  unfold e_Panel_reckon_0 at hF
  have g0 := zFr.rf (fun r => (b ≤ r ∧ r < b + 15)) (fun _ => False) μ ν
  obtain ⟨ty1, hty1, hF⟩ := zh_bind hF
  have gty1 := zFr.tr g0 (fr_Panel_greatestLit hty1) (fun r h => by first | exact h | exact h.elim | omega | (revert h; dsimp only; omega)) (fun r h => by first | exact h | exact h.elim | omega | (revert h; dsimp only; omega))
  obtain ⟨y2, hy2, hF⟩ := zh_let hF
  obtain ⟨μy3, hy3, hF⟩ := zh_let hF
  have gy3 := zFr.put gty1 (r := (b + 3)) (by first | omega | (dsimp only; omega)) hy3
  obtain ⟨μy4, hy4, hF⟩ := zh_let hF
  have gy4 := zFr.put gy3 (r := (b + 3)) (by first | omega | (dsimp only; omega)) hy4
  obtain ⟨μy5, hy5, hF⟩ := zh_let hF
  have gy5 := zFr.row gy4 (r := (b + 8)) (by first | omega | (dsimp only; omega)) hy5
  exact zFr.tr gy5 (g_Panel_reckon_25  zFuel _ _ _ _ hF) (fun _ h => h) (fun _ h => h)
theorem fr_Panel_reckon {b : Nat} {μ : zI} {ν : zJ} {out : (zI × zJ)} (hE : E_Panel_reckon b μ ν = some out) : zFr (fun r => (b ≤ r ∧ r < b + 15)) (fun _ => False) μ ν out.1 out.2 := (g_Panel_reckon_0 hE)
theorem g_Told_get_20 {b : Nat}  {x1 : Int32} {s0 : Int32} {μ : zI} {ν : zJ} {out : (Int32 × zI × zJ)} (hF : e_Told_get_20 b  x1 s0 μ ν = some out) : zFr (fun _ => False) (fun _ => False) μ ν out.2.1 out.2.2 := by
  unfold e_Told_get_20 at hF
  have g0 := zFr.rf (fun _ => False) (fun _ => False) μ ν
  cases hF
  exact g0
theorem g_Told_get_19 {b : Nat}  {x1 : Int32} {μ : zI} {ν : zJ} {out : (Int32 × zI × zJ)} (hF : e_Told_get_19 b  x1 μ ν = some out) : zFr (fun _ => False) (fun _ => False) μ ν out.2.1 out.2.2 := by
  unfold e_Told_get_19 at hF
  have g0 := zFr.rf (fun _ => False) (fun _ => False) μ ν
  exact zFr.tr g0 (g_Told_get_20  hF) (fun _ h => h) (fun _ h => h)
theorem g_Told_get_0 {b : Nat}  {x1 : Int32} {μ : zI} {ν : zJ} {out : (Int32 × zI × zJ)} (hF : e_Told_get_0 b  x1 μ ν = some out) : zFr (fun _ => False) (fun _ => False) μ ν out.2.1 out.2.2 := by
  unfold e_Told_get_0 at hF
  have g0 := zFr.rf (fun _ => False) (fun _ => False) μ ν
  rcases Decidable.em (x1 < 0) with cy1 | cy1
  · replace hF := zh_t cy1 hF
    exact zFr.tr g0 (g_Told_get_19  hF) (fun _ h => h) (fun _ h => h)
  · replace hF := zh_f cy1 hF
    rcases Decidable.em (19 ≤ x1) with cy2 | cy2
    · replace hF := zh_t cy2 hF
      exact zFr.tr g0 (g_Told_get_19  hF) (fun _ h => h) (fun _ h => h)
    · replace hF := zh_f cy2 hF
      obtain ⟨hy3, hF⟩ := zh_if hF
      exact zFr.tr g0 (g_Told_get_20  hF) (fun _ h => h) (fun _ h => h)
theorem fr_Told_get {b : Nat} {x1 : Int32} {μ : zI} {ν : zJ} {out : (Int32 × zI × zJ)} (hE : E_Told_get b x1 μ ν = some out) : zFr (fun _ => False) (fun _ => False) μ ν out.2.1 out.2.2 := (g_Told_get_0 hE)
theorem g_Station_begin_0 {b : Nat}   {μ : zI} {ν : zJ} {out : (zI × zJ)} (hF : e_Station_begin_0 b   μ ν = some out) : zFr (fun r => (b ≤ r ∧ r < b + 15)) (fun _ => False) μ ν out.1 out.2 := by
  unfold e_Station_begin_0 at hF
  have g0 := zFr.rf (fun r => (b ≤ r ∧ r < b + 15)) (fun _ => False) μ ν
  obtain ⟨ty1, hty1, hF⟩ := zh_bind hF
  have gty1 := zFr.tr g0 (fr_Panel_reckon hty1) (fun r h => by first | exact h | exact h.elim | omega | (revert h; dsimp only; omega)) (fun r h => by first | exact h | exact h.elim | omega | (revert h; dsimp only; omega))
  obtain ⟨ty2, hty2, hF⟩ := zh_bind hF
  have gty2 := zFr.tr gty1 (fr_Told_get hty2) (fun r h => by first | exact h | exact h.elim | omega | (revert h; dsimp only; omega)) (fun r h => by first | exact h | exact h.elim | omega | (revert h; dsimp only; omega))
  obtain ⟨μy3, hy3, hF⟩ := zh_let hF
  have gy3 := zFr.put gty2 (r := (b + 11)) (by first | omega | (dsimp only; omega)) hy3
  cases hF
  exact gy3
theorem fr_Station_begin {b : Nat} {μ : zI} {ν : zJ} {out : (zI × zJ)} (hE : E_Station_begin b μ ν = some out) : zFr (fun r => (b ≤ r ∧ r < b + 15)) (fun _ => False) μ ν out.1 out.2 := (g_Station_begin_0 hE)
theorem g_Tape_hasRoomFor_17  {x1 : Int32} {s0 : Int32} {μ : zI} {ν : zJ} {out : (Int32 × zI × zJ)} (hF : e_Tape_hasRoomFor_17   x1 s0 μ ν = some out) : zFr (fun _ => False) (fun _ => False) μ ν out.2.1 out.2.2 := by
  unfold e_Tape_hasRoomFor_17 at hF
  have g0 := zFr.rf (fun _ => False) (fun _ => False) μ ν
  obtain ⟨hy1, hF⟩ := zh_if hF
  cases hF
  exact g0
theorem g_Tape_hasRoomFor_0  {x1 : Int32} {μ : zI} {ν : zJ} {out : (Int32 × zI × zJ)} (hF : e_Tape_hasRoomFor_0   x1 μ ν = some out) : zFr (fun _ => False) (fun _ => False) μ ν out.2.1 out.2.2 := by
  unfold e_Tape_hasRoomFor_0 at hF
  have g0 := zFr.rf (fun _ => False) (fun _ => False) μ ν
  rcases Decidable.em (900 < ((μ 1 1) + x1)) with cy1 | cy1
  · replace hF := zh_t cy1 hF
    exact zFr.tr g0 (g_Tape_hasRoomFor_17  hF) (fun _ h => h) (fun _ h => h)
  · replace hF := zh_f cy1 hF
    exact zFr.tr g0 (g_Tape_hasRoomFor_17  hF) (fun _ h => h) (fun _ h => h)
theorem fr_Tape_hasRoomFor {x1 : Int32} {μ : zI} {ν : zJ} {out : (Int32 × zI × zJ)} (hE : E_Tape_hasRoomFor x1 μ ν = some out) : zFr (fun _ => False) (fun _ => False) μ ν out.2.1 out.2.2 := (g_Tape_hasRoomFor_0 hE)
theorem g_Tape_addNumber_40 {r3 : Int32 → Int32 → zI → zJ → Option (zI × zJ)} {x1 : Int32} {x2 : Int32} {μ : zI} {ν : zJ} {out : (zI × zJ)} (hr3 : ∀ (x1 : Int32) (x2 : Int32) (μ : zI) (ν : zJ), r3 x1 x2 μ ν = some out → zFr (fun r => (1 ≤ r ∧ r < 1 + 1) ∨ (2 ≤ r ∧ r < 2 + 1)) (fun _ => False) μ ν out.1 out.2) (hF : e_Tape_addNumber_40  r3 x1 x2 μ ν = some out) : zFr (fun r => (1 ≤ r ∧ r < 1 + 1) ∨ (2 ≤ r ∧ r < 2 + 1)) (fun _ => False) μ ν out.1 out.2 := by
  unfold e_Tape_addNumber_40 at hF
  have g0 := zFr.rf (fun r => (1 ≤ r ∧ r < 1 + 1) ∨ (2 ≤ r ∧ r < 2 + 1)) (fun _ => False) μ ν
  exact zFr.tr g0 (hr3 _ _ _ _ hF) (fun _ h => h) (fun _ h => h)
theorem g_Tape_addNumber_3  {out : (zI × zJ)} : ∀ (n : Nat) (x1 : Int32) (x2 : Int32) (μ : zI) (ν : zJ), f_Tape_addNumber_3   n x1 x2 μ ν = some out → zFr (fun r => (1 ≤ r ∧ r < 1 + 1) ∨ (2 ≤ r ∧ r < 2 + 1)) (fun _ => False) μ ν out.1 out.2 := by
  intro n
  induction n with
  | zero => intro x1 x2 μ ν hF; cases hF
  | succ n ih =>
    intro x1 x2 μ ν hF
    dsimp only [f_Tape_addNumber_3] at hF
    have g0 := zFr.rf (fun r => (1 ≤ r ∧ r < 1 + 1) ∨ (2 ≤ r ∧ r < 2 + 1)) (fun _ => False) μ ν
    rcases Decidable.em (x2 < 0) with cy1 | cy1
    · replace hF := zh_t cy1 hF
      cases hF
      exact g0
    · replace hF := zh_f cy1 hF
      rcases Decidable.em (900 ≤ (μ 1 1)) with cy2 | cy2
      · replace hF := zh_t cy2 hF
        exact zFr.tr g0 (g_Tape_addNumber_40 (fun a0 a1 a2 a3 => ih a0 a1 a2 a3) hF) (fun _ h => h) (fun _ h => h)
      · replace hF := zh_f cy2 hF
        obtain ⟨hy3, hF⟩ := zh_if hF
        obtain ⟨μy4, hy4, hF⟩ := zh_let hF
        have gy4 := zFr.put g0 (r := 2) (by first | omega | (dsimp only; omega)) hy4
        obtain ⟨μy5, hy5, hF⟩ := zh_let hF
        have gy5 := zFr.put gy4 (r := 1) (by first | omega | (dsimp only; omega)) hy5
        exact zFr.tr gy5 (g_Tape_addNumber_40 (fun a0 a1 a2 a3 => ih a0 a1 a2 a3) hF) (fun _ h => h) (fun _ h => h)
theorem g_Tape_addNumber_0  {x1 : Int32} {μ : zI} {ν : zJ} {out : (zI × zJ)} (hF : e_Tape_addNumber_0   x1 μ ν = some out) : zFr (fun r => (1 ≤ r ∧ r < 1 + 1) ∨ (2 ≤ r ∧ r < 2 + 1)) (fun _ => False) μ ν out.1 out.2 := by
  unfold e_Tape_addNumber_0 at hF
  have g0 := zFr.rf (fun r => (1 ≤ r ∧ r < 1 + 1) ∨ (2 ≤ r ∧ r < 2 + 1)) (fun _ => False) μ ν
  exact zFr.tr g0 (g_Tape_addNumber_3  zFuel _ _ _ _ hF) (fun _ h => h) (fun _ h => h)
theorem fr_Tape_addNumber {x1 : Int32} {μ : zI} {ν : zJ} {out : (zI × zJ)} (hE : E_Tape_addNumber x1 μ ν = some out) : zFr (fun r => (1 ≤ r ∧ r < 1 + 1) ∨ (2 ≤ r ∧ r < 2 + 1)) (fun _ => False) μ ν out.1 out.2 := (g_Tape_addNumber_0 hE)
theorem g_S_feed_0  {x1 : Int32} {x2 : Int32} {x3 : Int32} {x4 : Int32} {x5 : Int32} {μ : zI} {ν : zJ} {out : (Int32 × zI × zJ)} (hF : e_S_feed_0   x1 x2 x3 x4 x5 μ ν = some out) : zFr (fun r => (1 ≤ r ∧ r < 1 + 1) ∨ (2 ≤ r ∧ r < 2 + 1)) (fun _ => False) μ ν out.2.1 out.2.2 := by
  unfold e_S_feed_0 at hF
  have g0 := zFr.rf (fun r => (1 ≤ r ∧ r < 1 + 1) ∨ (2 ≤ r ∧ r < 2 + 1)) (fun _ => False) μ ν
  obtain ⟨ty1, hty1, hF⟩ := zh_bind hF
  have gty1 := zFr.tr g0 (fr_Tape_hasRoomFor hty1) (fun r h => by first | exact h | exact h.elim | omega | (revert h; dsimp only; omega)) (fun r h => by first | exact h | exact h.elim | omega | (revert h; dsimp only; omega))
  rcases (Decidable.em (ty1.1 = 0)).symm with cy2 | cy2
  · replace hF := zh_f cy2 hF
    obtain ⟨ty3, hty3, hF⟩ := zh_bind hF
    have gty3 := zFr.tr gty1 (fr_Tape_addNumber hty3) (fun r h => by first | exact h | exact h.elim | omega | (revert h; dsimp only; omega)) (fun r h => by first | exact h | exact h.elim | omega | (revert h; dsimp only; omega))
    obtain ⟨ty4, hty4, hF⟩ := zh_bind hF
    have gty4 := zFr.tr gty3 (fr_Tape_addNumber hty4) (fun r h => by first | exact h | exact h.elim | omega | (revert h; dsimp only; omega)) (fun r h => by first | exact h | exact h.elim | omega | (revert h; dsimp only; omega))
    obtain ⟨ty5, hty5, hF⟩ := zh_bind hF
    have gty5 := zFr.tr gty4 (fr_Tape_addNumber hty5) (fun r h => by first | exact h | exact h.elim | omega | (revert h; dsimp only; omega)) (fun r h => by first | exact h | exact h.elim | omega | (revert h; dsimp only; omega))
    obtain ⟨ty6, hty6, hF⟩ := zh_bind hF
    have gty6 := zFr.tr gty5 (fr_Tape_addNumber hty6) (fun r h => by first | exact h | exact h.elim | omega | (revert h; dsimp only; omega)) (fun r h => by first | exact h | exact h.elim | omega | (revert h; dsimp only; omega))
    obtain ⟨ty7, hty7, hF⟩ := zh_bind hF
    have gty7 := zFr.tr gty6 (fr_Tape_addNumber hty7) (fun r h => by first | exact h | exact h.elim | omega | (revert h; dsimp only; omega)) (fun r h => by first | exact h | exact h.elim | omega | (revert h; dsimp only; omega))
    cases hF
    exact gty7
  · replace hF := zh_t cy2 hF
    cases hF
    exact gty1
theorem fr_S_feed {x1 : Int32} {x2 : Int32} {x3 : Int32} {x4 : Int32} {x5 : Int32} {μ : zI} {ν : zJ} {out : (Int32 × zI × zJ)} (hE : E_S_feed x1 x2 x3 x4 x5 μ ν = some out) : zFr (fun r => (1 ≤ r ∧ r < 1 + 1) ∨ (2 ≤ r ∧ r < 2 + 1)) (fun _ => False) μ ν out.2.1 out.2.2 := (g_S_feed_0 hE)
theorem g_S_isWithin_15  {x0 : Int32} {x1 : Int32} {x2 : Int32} {s0 : Int32} {μ : zI} {ν : zJ} {out : (Int32 × zI × zJ)} (hF : e_S_isWithin_15   x0 x1 x2 s0 μ ν = some out) : zFr (fun _ => False) (fun _ => False) μ ν out.2.1 out.2.2 := by
  unfold e_S_isWithin_15 at hF
  have g0 := zFr.rf (fun _ => False) (fun _ => False) μ ν
  obtain ⟨hy1, hF⟩ := zh_if hF
  cases hF
  exact g0
theorem g_S_isWithin_14  {x0 : Int32} {x1 : Int32} {x2 : Int32} {μ : zI} {ν : zJ} {out : (Int32 × zI × zJ)} (hF : e_S_isWithin_14   x0 x1 x2 μ ν = some out) : zFr (fun _ => False) (fun _ => False) μ ν out.2.1 out.2.2 := by
  unfold e_S_isWithin_14 at hF
  have g0 := zFr.rf (fun _ => False) (fun _ => False) μ ν
  exact zFr.tr g0 (g_S_isWithin_15  hF) (fun _ h => h) (fun _ h => h)
theorem g_S_isWithin_0  {x0 : Int32} {x1 : Int32} {x2 : Int32} {μ : zI} {ν : zJ} {out : (Int32 × zI × zJ)} (hF : e_S_isWithin_0   x0 x1 x2 μ ν = some out) : zFr (fun _ => False) (fun _ => False) μ ν out.2.1 out.2.2 := by
  unfold e_S_isWithin_0 at hF
  have g0 := zFr.rf (fun _ => False) (fun _ => False) μ ν
  rcases Decidable.em (x0 < x1) with cy1 | cy1
  · replace hF := zh_t cy1 hF
    exact zFr.tr g0 (g_S_isWithin_14  hF) (fun _ h => h) (fun _ h => h)
  · replace hF := zh_f cy1 hF
    rcases Decidable.em (x2 < x0) with cy2 | cy2
    · replace hF := zh_t cy2 hF
      exact zFr.tr g0 (g_S_isWithin_14  hF) (fun _ h => h) (fun _ h => h)
    · replace hF := zh_f cy2 hF
      exact zFr.tr g0 (g_S_isWithin_15  hF) (fun _ h => h) (fun _ h => h)
theorem fr_S_isWithin {x0 : Int32} {x1 : Int32} {x2 : Int32} {μ : zI} {ν : zJ} {out : (Int32 × zI × zJ)} (hE : E_S_isWithin x0 x1 x2 μ ν = some out) : zFr (fun _ => False) (fun _ => False) μ ν out.2.1 out.2.2 := (g_S_isWithin_0 hE)
theorem g_Reader_signAt_39  {x1 : Int32} {s0 : Int32} {μ : zI} {ν : zJ} {out : (Int32 × zI × zJ)} (hF : e_Reader_signAt_39   x1 s0 μ ν = some out) : zFr (fun _ => False) (fun _ => False) μ ν out.2.1 out.2.2 := by
  unfold e_Reader_signAt_39 at hF
  have g0 := zFr.rf (fun _ => False) (fun _ => False) μ ν
  cases hF
  exact g0
theorem g_Reader_signAt_38  {x1 : Int32} {μ : zI} {ν : zJ} {out : (Int32 × zI × zJ)} (hF : e_Reader_signAt_38   x1 μ ν = some out) : zFr (fun _ => False) (fun _ => False) μ ν out.2.1 out.2.2 := by
  unfold e_Reader_signAt_38 at hF
  have g0 := zFr.rf (fun _ => False) (fun _ => False) μ ν
  exact zFr.tr g0 (g_Reader_signAt_39  hF) (fun _ h => h) (fun _ h => h)
theorem g_Reader_signAt_0  {x1 : Int32} {μ : zI} {ν : zJ} {out : (Int32 × zI × zJ)} (hF : e_Reader_signAt_0   x1 μ ν = some out) : zFr (fun _ => False) (fun _ => False) μ ν out.2.1 out.2.2 := by
  unfold e_Reader_signAt_0 at hF
  have g0 := zFr.rf (fun _ => False) (fun _ => False) μ ν
  rcases Decidable.em (x1 < 0) with cy1 | cy1
  · replace hF := zh_t cy1 hF
    exact zFr.tr g0 (g_Reader_signAt_38  hF) (fun _ h => h) (fun _ h => h)
  · replace hF := zh_f cy1 hF
    rcases Decidable.em ((μ 1 1) ≤ x1) with cy2 | cy2
    · replace hF := zh_t cy2 hF
      exact zFr.tr g0 (g_Reader_signAt_38  hF) (fun _ h => h) (fun _ h => h)
    · replace hF := zh_f cy2 hF
      rcases Decidable.em (900 ≤ x1) with cy3 | cy3
      · replace hF := zh_t cy3 hF
        exact zFr.tr g0 (g_Reader_signAt_38  hF) (fun _ h => h) (fun _ h => h)
      · replace hF := zh_f cy3 hF
        obtain ⟨hy4, hF⟩ := zh_if hF
        exact zFr.tr g0 (g_Reader_signAt_39  hF) (fun _ h => h) (fun _ h => h)
theorem fr_Reader_signAt {x1 : Int32} {μ : zI} {ν : zJ} {out : (Int32 × zI × zJ)} (hE : E_Reader_signAt x1 μ ν = some out) : zFr (fun _ => False) (fun _ => False) μ ν out.2.1 out.2.2 := (g_Reader_signAt_0 hE)
theorem g_Reader_kindOf_12  {x0 : Int32} {μ : zI} {ν : zJ} {out : (Int32 × zI × zJ)} (hF : e_Reader_kindOf_12   x0 μ ν = some out) : zFr (fun _ => False) (fun _ => False) μ ν out.2.1 out.2.2 := by
  unfold e_Reader_kindOf_12 at hF
  have g0 := zFr.rf (fun _ => False) (fun _ => False) μ ν
  cases hF
  exact g0
theorem g_Reader_kindOf_53  {x0 : Int32} {s0 : Int32} {μ : zI} {ν : zJ} {out : (Int32 × zI × zJ)} (hF : e_Reader_kindOf_53   x0 s0 μ ν = some out) : zFr (fun _ => False) (fun _ => False) μ ν out.2.1 out.2.2 := by
  unfold e_Reader_kindOf_53 at hF
  have g0 := zFr.rf (fun _ => False) (fun _ => False) μ ν
  cases hF
  exact g0
theorem g_Reader_kindOf_42  {x0 : Int32} {μ : zI} {ν : zJ} {out : (Int32 × zI × zJ)} (hF : e_Reader_kindOf_42   x0 μ ν = some out) : zFr (fun _ => False) (fun _ => False) μ ν out.2.1 out.2.2 := by
  unfold e_Reader_kindOf_42 at hF
  have g0 := zFr.rf (fun _ => False) (fun _ => False) μ ν
  rcases (Decidable.em (x0 = 59)).symm with cy1 | cy1
  · replace hF := zh_f cy1 hF
    exact zFr.tr g0 (g_Reader_kindOf_53  hF) (fun _ h => h) (fun _ h => h)
  · replace hF := zh_t cy1 hF
    exact zFr.tr g0 (g_Reader_kindOf_53  hF) (fun _ h => h) (fun _ h => h)
theorem g_Reader_kindOf_28  {x0 : Int32} {μ : zI} {ν : zJ} {out : (Int32 × zI × zJ)} (hF : e_Reader_kindOf_28   x0 μ ν = some out) : zFr (fun _ => False) (fun _ => False) μ ν out.2.1 out.2.2 := by
  unfold e_Reader_kindOf_28 at hF
  have g0 := zFr.rf (fun _ => False) (fun _ => False) μ ν
  rcases Decidable.em (x0 < 48) with cy1 | cy1
  · replace hF := zh_t cy1 hF
    exact zFr.tr g0 (g_Reader_kindOf_42  hF) (fun _ h => h) (fun _ h => h)
  · replace hF := zh_f cy1 hF
    rcases Decidable.em (57 < x0) with cy2 | cy2
    · replace hF := zh_t cy2 hF
      exact zFr.tr g0 (g_Reader_kindOf_42  hF) (fun _ h => h) (fun _ h => h)
    · replace hF := zh_f cy2 hF
      cases hF
      exact g0
theorem g_Reader_kindOf_0  {x0 : Int32} {μ : zI} {ν : zJ} {out : (Int32 × zI × zJ)} (hF : e_Reader_kindOf_0   x0 μ ν = some out) : zFr (fun _ => False) (fun _ => False) μ ν out.2.1 out.2.2 := by
  unfold e_Reader_kindOf_0 at hF
  have g0 := zFr.rf (fun _ => False) (fun _ => False) μ ν
  rcases Decidable.em (x0 = 10) with cy1 | cy1
  · replace hF := zh_t cy1 hF
    exact zFr.tr g0 (g_Reader_kindOf_12  hF) (fun _ h => h) (fun _ h => h)
  · replace hF := zh_f cy1 hF
    rcases (Decidable.em (x0 = 32)).symm with cy2 | cy2
    · replace hF := zh_f cy2 hF
      rcases Decidable.em (x0 < 97) with cy3 | cy3
      · replace hF := zh_t cy3 hF
        exact zFr.tr g0 (g_Reader_kindOf_28  hF) (fun _ h => h) (fun _ h => h)
      · replace hF := zh_f cy3 hF
        rcases Decidable.em (122 < x0) with cy4 | cy4
        · replace hF := zh_t cy4 hF
          exact zFr.tr g0 (g_Reader_kindOf_28  hF) (fun _ h => h) (fun _ h => h)
        · replace hF := zh_f cy4 hF
          cases hF
          exact g0
    · replace hF := zh_t cy2 hF
      exact zFr.tr g0 (g_Reader_kindOf_12  hF) (fun _ h => h) (fun _ h => h)
theorem fr_Reader_kindOf {x0 : Int32} {μ : zI} {ν : zJ} {out : (Int32 × zI × zJ)} (hE : E_Reader_kindOf x0 μ ν = some out) : zFr (fun _ => False) (fun _ => False) μ ν out.2.1 out.2.2 := (g_Reader_kindOf_0 hE)
theorem g_Reader_nextToken_152   {μ : zI} {ν : zJ} {out : (zI × zJ)} (hF : e_Reader_nextToken_152    μ ν = some out) : zFr (fun r => (3 ≤ r ∧ r < 3 + 1)) (fun _ => False) μ ν out.1 out.2 := by
  unfold e_Reader_nextToken_152 at hF
  have g0 := zFr.rf (fun r => (3 ≤ r ∧ r < 3 + 1)) (fun _ => False) μ ν
  cases hF
  exact g0
theorem g_Reader_nextToken_110  {out : (zI × zJ)} : ∀ (n : Nat)  (μ : zI) (ν : zJ), f_Reader_nextToken_110   n  μ ν = some out → zFr (fun r => (3 ≤ r ∧ r < 3 + 1)) (fun _ => False) μ ν out.1 out.2 := by
  intro n
  induction n with
  | zero => intro  μ ν hF; cases hF
  | succ n ih =>
    intro  μ ν hF
    dsimp only [f_Reader_nextToken_110] at hF
    have g0 := zFr.rf (fun r => (3 ≤ r ∧ r < 3 + 1)) (fun _ => False) μ ν
    rcases Decidable.em ((μ 3 3) ≤ (μ 3 6)) with cy1 | cy1
    · replace hF := zh_t cy1 hF
      exact zFr.tr g0 (g_Reader_nextToken_152  hF) (fun _ h => h) (fun _ h => h)
    · replace hF := zh_f cy1 hF
      obtain ⟨ty2, hty2, hF⟩ := zh_bind hF
      have gty2 := zFr.tr g0 (fr_Reader_signAt hty2) (fun r h => by first | exact h | exact h.elim | omega | (revert h; dsimp only; omega)) (fun r h => by first | exact h | exact h.elim | omega | (revert h; dsimp only; omega))
      obtain ⟨ty3, hty3, hF⟩ := zh_bind hF
      have gty3 := zFr.tr gty2 (fr_Reader_kindOf hty3) (fun r h => by first | exact h | exact h.elim | omega | (revert h; dsimp only; omega)) (fun r h => by first | exact h | exact h.elim | omega | (revert h; dsimp only; omega))
      rcases (Decidable.em (ty3.1 = (ty3.2.1 3 4))).symm with cy4 | cy4
      · replace hF := zh_f cy4 hF
        exact zFr.tr gty3 (g_Reader_nextToken_152  hF) (fun _ h => h) (fun _ h => h)
      · replace hF := zh_t cy4 hF
        obtain ⟨μy5, hy5, hF⟩ := zh_let hF
        have gy5 := zFr.put gty3 (r := 3) (by first | omega | (dsimp only; omega)) hy5
        exact zFr.tr gy5 (ih  _ _ hF) (fun _ h => h) (fun _ h => h)
theorem g_Reader_nextToken_74  {s1 : Int32} {μ : zI} {ν : zJ} {out : (zI × zJ)} (hF : e_Reader_nextToken_74   s1 μ ν = some out) : zFr (fun r => (3 ≤ r ∧ r < 3 + 1)) (fun _ => False) μ ν out.1 out.2 := by
  unfold e_Reader_nextToken_74 at hF
  have g0 := zFr.rf (fun r => (3 ≤ r ∧ r < 3 + 1)) (fun _ => False) μ ν
  obtain ⟨μy1, hy1, hF⟩ := zh_let hF
  have gy1 := zFr.put g0 (r := 3) (by first | omega | (dsimp only; omega)) hy1
  obtain ⟨μy2, hy2, hF⟩ := zh_let hF
  have gy2 := zFr.put gy1 (r := 3) (by first | omega | (dsimp only; omega)) hy2
  rcases Decidable.em ((μy2 3 4) = 2) with cy3 | cy3
  · replace hF := zh_t cy3 hF
    exact zFr.tr gy2 (g_Reader_nextToken_110  zFuel  _ _ hF) (fun _ h => h) (fun _ h => h)
  · replace hF := zh_f cy3 hF
    rcases (Decidable.em ((μy2 3 4) = 3)).symm with cy4 | cy4
    · replace hF := zh_f cy4 hF
      exact zFr.tr gy2 (g_Reader_nextToken_152  hF) (fun _ h => h) (fun _ h => h)
    · replace hF := zh_t cy4 hF
      exact zFr.tr gy2 (g_Reader_nextToken_110  zFuel  _ _ hF) (fun _ h => h) (fun _ h => h)
theorem g_Reader_nextToken_47   {μ : zI} {ν : zJ} {out : (zI × zJ)} (hF : e_Reader_nextToken_47    μ ν = some out) : zFr (fun r => (3 ≤ r ∧ r < 3 + 1)) (fun _ => False) μ ν out.1 out.2 := by
  unfold e_Reader_nextToken_47 at hF
  have g0 := zFr.rf (fun r => (3 ≤ r ∧ r < 3 + 1)) (fun _ => False) μ ν
  rcases Decidable.em ((μ 3 3) ≤ (μ 3 5)) with cy1 | cy1
  · replace hF := zh_t cy1 hF
    exact zFr.tr g0 (g_Reader_nextToken_74  hF) (fun _ h => h) (fun _ h => h)
  · replace hF := zh_f cy1 hF
    obtain ⟨ty2, hty2, hF⟩ := zh_bind hF
    have gty2 := zFr.tr g0 (fr_Reader_signAt hty2) (fun r h => by first | exact h | exact h.elim | omega | (revert h; dsimp only; omega)) (fun r h => by first | exact h | exact h.elim | omega | (revert h; dsimp only; omega))
    obtain ⟨ty3, hty3, hF⟩ := zh_bind hF
    have gty3 := zFr.tr gty2 (fr_Reader_kindOf hty3) (fun r h => by first | exact h | exact h.elim | omega | (revert h; dsimp only; omega)) (fun r h => by first | exact h | exact h.elim | omega | (revert h; dsimp only; omega))
    exact zFr.tr gty3 (g_Reader_nextToken_74  hF) (fun _ h => h) (fun _ h => h)
theorem g_Reader_nextToken_8  {out : (zI × zJ)} : ∀ (n : Nat)  (μ : zI) (ν : zJ), f_Reader_nextToken_8   n  μ ν = some out → zFr (fun r => (3 ≤ r ∧ r < 3 + 1)) (fun _ => False) μ ν out.1 out.2 := by
  intro n
  induction n with
  | zero => intro  μ ν hF; cases hF
  | succ n ih =>
    intro  μ ν hF
    dsimp only [f_Reader_nextToken_8] at hF
    have g0 := zFr.rf (fun r => (3 ≤ r ∧ r < 3 + 1)) (fun _ => False) μ ν
    rcases Decidable.em ((μ 3 3) ≤ (μ 3 5)) with cy1 | cy1
    · replace hF := zh_t cy1 hF
      exact zFr.tr g0 (g_Reader_nextToken_47  hF) (fun _ h => h) (fun _ h => h)
    · replace hF := zh_f cy1 hF
      obtain ⟨ty2, hty2, hF⟩ := zh_bind hF
      have gty2 := zFr.tr g0 (fr_Reader_signAt hty2) (fun r h => by first | exact h | exact h.elim | omega | (revert h; dsimp only; omega)) (fun r h => by first | exact h | exact h.elim | omega | (revert h; dsimp only; omega))
      obtain ⟨ty3, hty3, hF⟩ := zh_bind hF
      have gty3 := zFr.tr gty2 (fr_Reader_kindOf hty3) (fun r h => by first | exact h | exact h.elim | omega | (revert h; dsimp only; omega)) (fun r h => by first | exact h | exact h.elim | omega | (revert h; dsimp only; omega))
      rcases (Decidable.em (ty3.1 = 1)).symm with cy4 | cy4
      · replace hF := zh_f cy4 hF
        exact zFr.tr gty3 (g_Reader_nextToken_47  hF) (fun _ h => h) (fun _ h => h)
      · replace hF := zh_t cy4 hF
        obtain ⟨μy5, hy5, hF⟩ := zh_let hF
        have gy5 := zFr.put gty3 (r := 3) (by first | omega | (dsimp only; omega)) hy5
        exact zFr.tr gy5 (ih  _ _ hF) (fun _ h => h) (fun _ h => h)
theorem g_Reader_nextToken_0   {μ : zI} {ν : zJ} {out : (zI × zJ)} (hF : e_Reader_nextToken_0    μ ν = some out) : zFr (fun r => (3 ≤ r ∧ r < 3 + 1)) (fun _ => False) μ ν out.1 out.2 := by
  unfold e_Reader_nextToken_0 at hF
  have g0 := zFr.rf (fun r => (3 ≤ r ∧ r < 3 + 1)) (fun _ => False) μ ν
  obtain ⟨μy1, hy1, hF⟩ := zh_let hF
  have gy1 := zFr.put g0 (r := 3) (by first | omega | (dsimp only; omega)) hy1
  exact zFr.tr gy1 (g_Reader_nextToken_8  zFuel  _ _ hF) (fun _ h => h) (fun _ h => h)
theorem fr_Reader_nextToken {μ : zI} {ν : zJ} {out : (zI × zJ)} (hE : E_Reader_nextToken  μ ν = some out) : zFr (fun r => (3 ≤ r ∧ r < 3 + 1)) (fun _ => False) μ ν out.1 out.2 := (g_Reader_nextToken_0 hE)
theorem g_Reader_isSpelt_20  {out : (Int32 × zI × zJ)} : ∀ (n : Nat) (u1 : Nat) (x2 : Int32) (μ : zI) (ν : zJ), f_Reader_isSpelt_20   n u1 x2 μ ν = some out → zFr (fun _ => False) (fun _ => False) μ ν out.2.1 out.2.2 := by
  intro n
  induction n with
  | zero => intro u1 x2 μ ν hF; cases hF
  | succ n ih =>
    intro u1 x2 μ ν hF
    dsimp only [f_Reader_isSpelt_20] at hF
    have g0 := zFr.rf (fun _ => False) (fun _ => False) μ ν
    obtain ⟨hy1, hF⟩ := zh_if hF
    rcases Decidable.em ((nI (zSl u1)) ≤ x2) with cy2 | cy2
    · replace hF := zh_t cy2 hF
      cases hF
      exact g0
    · replace hF := zh_f cy2 hF
      obtain ⟨hy3, hF⟩ := zh_if hF
      obtain ⟨hy4, hF⟩ := zh_if hF
      obtain ⟨ty5, hty5, hF⟩ := zh_bind hF
      have gty5 := zFr.tr g0 (fr_Reader_signAt hty5) (fun r h => by first | exact h | exact h.elim | omega | (revert h; dsimp only; omega)) (fun r h => by first | exact h | exact h.elim | omega | (revert h; dsimp only; omega))
      rcases Decidable.em ((zSc u1 x2) = ty5.1) with cy6 | cy6
      · replace hF := zh_t cy6 hF
        exact zFr.tr gty5 (ih _ _ _ _ hF) (fun _ h => h) (fun _ h => h)
      · replace hF := zh_f cy6 hF
        cases hF
        exact gty5
theorem g_Reader_isSpelt_0  {u1 : Nat} {μ : zI} {ν : zJ} {out : (Int32 × zI × zJ)} (hF : e_Reader_isSpelt_0   u1 μ ν = some out) : zFr (fun _ => False) (fun _ => False) μ ν out.2.1 out.2.2 := by
  unfold e_Reader_isSpelt_0 at hF
  have g0 := zFr.rf (fun _ => False) (fun _ => False) μ ν
  obtain ⟨hy1, hF⟩ := zh_if hF
  rcases Decidable.em ((nI (zSl u1)) = ((μ 3 6) - (μ 3 5))) with cy2 | cy2
  · replace hF := zh_t cy2 hF
    exact zFr.tr g0 (g_Reader_isSpelt_20  zFuel _ _ _ _ hF) (fun _ h => h) (fun _ h => h)
  · replace hF := zh_f cy2 hF
    cases hF
    exact g0
theorem fr_Reader_isSpelt {u1 : Nat} {μ : zI} {ν : zJ} {out : (Int32 × zI × zJ)} (hE : E_Reader_isSpelt u1 μ ν = some out) : zFr (fun _ => False) (fun _ => False) μ ν out.2.1 out.2.2 := (g_Reader_isSpelt_0 hE)
theorem g_Reader_wordHere_39 {r2 : Int32 → zI → zJ → Option (Nat × zI × zJ)} {x1 : Int32} {μ : zI} {ν : zJ} {out : (Nat × zI × zJ)} (hr2 : ∀ (x1 : Int32) (μ : zI) (ν : zJ), r2 x1 μ ν = some out → zFr (fun _ => False) (fun _ => False) μ ν out.2.1 out.2.2) (hF : e_Reader_wordHere_39  r2 x1 μ ν = some out) : zFr (fun _ => False) (fun _ => False) μ ν out.2.1 out.2.2 := by
  unfold e_Reader_wordHere_39 at hF
  have g0 := zFr.rf (fun _ => False) (fun _ => False) μ ν
  exact zFr.tr g0 (hr2 _ _ _ hF) (fun _ h => h) (fun _ h => h)
theorem g_Reader_wordHere_2  {out : (Nat × zI × zJ)} : ∀ (n : Nat) (x1 : Int32) (μ : zI) (ν : zJ), f_Reader_wordHere_2   n x1 μ ν = some out → zFr (fun _ => False) (fun _ => False) μ ν out.2.1 out.2.2 := by
  intro n
  induction n with
  | zero => intro x1 μ ν hF; cases hF
  | succ n ih =>
    intro x1 μ ν hF
    dsimp only [f_Reader_wordHere_2] at hF
    have g0 := zFr.rf (fun _ => False) (fun _ => False) μ ν
    rcases Decidable.em (11 ≤ x1) with cy1 | cy1
    · replace hF := zh_t cy1 hF
      cases hF
      exact g0
    · replace hF := zh_f cy1 hF
      rcases (Decidable.em ((μ 3 4) = 2)).symm with cy2 | cy2
      · replace hF := zh_f cy2 hF
        exact zFr.tr g0 (g_Reader_wordHere_39 (fun a0 a1 a2 => ih a0 a1 a2) hF) (fun _ h => h) (fun _ h => h)
      · replace hF := zh_t cy2 hF
        obtain ⟨hy3, hF⟩ := zh_if hF
        obtain ⟨hy4, hF⟩ := zh_if hF
        obtain ⟨ty5, hty5, hF⟩ := zh_bind hF
        have gty5 := zFr.tr g0 (fr_Reader_isSpelt hty5) (fun r h => by first | exact h | exact h.elim | omega | (revert h; dsimp only; omega)) (fun r h => by first | exact h | exact h.elim | omega | (revert h; dsimp only; omega))
        rcases Decidable.em (ty5.1 = 0) with cy6 | cy6
        · replace hF := zh_t cy6 hF
          exact zFr.tr gty5 (g_Reader_wordHere_39 (fun a0 a1 a2 => ih a0 a1 a2) hF) (fun _ h => h) (fun _ h => h)
        · replace hF := zh_f cy6 hF
          obtain ⟨hy7, hF⟩ := zh_if hF
          cases hF
          exact gty5
theorem g_Reader_wordHere_0   {μ : zI} {ν : zJ} {out : (Nat × zI × zJ)} (hF : e_Reader_wordHere_0    μ ν = some out) : zFr (fun _ => False) (fun _ => False) μ ν out.2.1 out.2.2 := by
  unfold e_Reader_wordHere_0 at hF
  have g0 := zFr.rf (fun _ => False) (fun _ => False) μ ν
  exact zFr.tr g0 (g_Reader_wordHere_2  zFuel _ _ _ hF) (fun _ h => h) (fun _ h => h)
theorem fr_Reader_wordHere {μ : zI} {ν : zJ} {out : (Nat × zI × zJ)} (hE : E_Reader_wordHere  μ ν = some out) : zFr (fun _ => False) (fun _ => False) μ ν out.2.1 out.2.2 := (g_Reader_wordHere_0 hE)
theorem g_Reader_refuse_20  {x1 : Int32} {μ : zI} {ν : zJ} {out : (zI × zJ)} (hF : e_Reader_refuse_20   x1 μ ν = some out) : zFr (fun r => (3 ≤ r ∧ r < 3 + 1)) (fun _ => False) μ ν out.1 out.2 := by
  unfold e_Reader_refuse_20 at hF
  have g0 := zFr.rf (fun r => (3 ≤ r ∧ r < 3 + 1)) (fun _ => False) μ ν
  cases hF
  exact g0
theorem g_Reader_refuse_0  {x1 : Int32} {μ : zI} {ν : zJ} {out : (zI × zJ)} (hF : e_Reader_refuse_0   x1 μ ν = some out) : zFr (fun r => (3 ≤ r ∧ r < 3 + 1)) (fun _ => False) μ ν out.1 out.2 := by
  unfold e_Reader_refuse_0 at hF
  have g0 := zFr.rf (fun r => (3 ≤ r ∧ r < 3 + 1)) (fun _ => False) μ ν
  rcases (Decidable.em ((μ 3 0) = 0)).symm with cy1 | cy1
  · replace hF := zh_f cy1 hF
    exact zFr.tr g0 (g_Reader_refuse_20  hF) (fun _ h => h) (fun _ h => h)
  · replace hF := zh_t cy1 hF
    obtain ⟨μy2, hy2, hF⟩ := zh_let hF
    have gy2 := zFr.put g0 (r := 3) (by first | omega | (dsimp only; omega)) hy2
    obtain ⟨μy3, hy3, hF⟩ := zh_let hF
    have gy3 := zFr.put gy2 (r := 3) (by first | omega | (dsimp only; omega)) hy3
    exact zFr.tr gy3 (g_Reader_refuse_20  hF) (fun _ h => h) (fun _ h => h)
theorem fr_Reader_refuse {x1 : Int32} {μ : zI} {ν : zJ} {out : (zI × zJ)} (hE : E_Reader_refuse x1 μ ν = some out) : zFr (fun r => (3 ≤ r ∧ r < 3 + 1)) (fun _ => False) μ ν out.1 out.2 := (g_Reader_refuse_0 hE)
theorem g_Reader_readNumber_75  {x1 : Int32} {x2 : Int32} {x3 : Int32} {x4 : Int32} {μ : zI} {ν : zJ} {out : (Int32 × zI × zJ)} (hF : e_Reader_readNumber_75   x1 x2 x3 x4 μ ν = some out) : zFr (fun r => (3 ≤ r ∧ r < 3 + 1)) (fun _ => False) μ ν out.2.1 out.2.2 := by
  unfold e_Reader_readNumber_75 at hF
  have g0 := zFr.rf (fun r => (3 ≤ r ∧ r < 3 + 1)) (fun _ => False) μ ν
  obtain ⟨ty1, hty1, hF⟩ := zh_bind hF
  have gty1 := zFr.tr g0 (fr_Reader_nextToken hty1) (fun r h => by first | exact h | exact h.elim | omega | (revert h; dsimp only; omega)) (fun r h => by first | exact h | exact h.elim | omega | (revert h; dsimp only; omega))
  cases hF
  exact gty1
theorem g_Reader_readNumber_70  {x1 : Int32} {x2 : Int32} {x3 : Int32} {x4 : Int32} {μ : zI} {ν : zJ} {out : (Int32 × zI × zJ)} (hF : e_Reader_readNumber_70   x1 x2 x3 x4 μ ν = some out) : zFr (fun r => (3 ≤ r ∧ r < 3 + 1)) (fun _ => False) μ ν out.2.1 out.2.2 := by
  unfold e_Reader_readNumber_70 at hF
  have g0 := zFr.rf (fun r => (3 ≤ r ∧ r < 3 + 1)) (fun _ => False) μ ν
  obtain ⟨ty1, hty1, hF⟩ := zh_bind hF
  have gty1 := zFr.tr g0 (fr_Reader_refuse hty1) (fun r h => by first | exact h | exact h.elim | omega | (revert h; dsimp only; omega)) (fun r h => by first | exact h | exact h.elim | omega | (revert h; dsimp only; omega))
  exact zFr.tr gty1 (g_Reader_readNumber_75  hF) (fun _ h => h) (fun _ h => h)
theorem g_Reader_readNumber_44  {x1 : Int32} {x2 : Int32} {x3 : Int32} {x4 : Int32} {μ : zI} {ν : zJ} {out : (Int32 × zI × zJ)} (hF : e_Reader_readNumber_44   x1 x2 x3 x4 μ ν = some out) : zFr (fun r => (3 ≤ r ∧ r < 3 + 1)) (fun _ => False) μ ν out.2.1 out.2.2 := by
  unfold e_Reader_readNumber_44 at hF
  have g0 := zFr.rf (fun r => (3 ≤ r ∧ r < 3 + 1)) (fun _ => False) μ ν
  rcases Decidable.em ((μ 3 4) = 3) with cy1 | cy1
  · replace hF := zh_t cy1 hF
    rcases Decidable.em (x3 < x1) with cy2 | cy2
    · replace hF := zh_t cy2 hF
      exact zFr.tr g0 (g_Reader_readNumber_70  hF) (fun _ h => h) (fun _ h => h)
    · replace hF := zh_f cy2 hF
      rcases Decidable.em (x3 ≤ x2) with cy3 | cy3
      · replace hF := zh_t cy3 hF
        exact zFr.tr g0 (g_Reader_readNumber_75  hF) (fun _ h => h) (fun _ h => h)
      · replace hF := zh_f cy3 hF
        exact zFr.tr g0 (g_Reader_readNumber_70  hF) (fun _ h => h) (fun _ h => h)
  · replace hF := zh_f cy1 hF
    obtain ⟨ty4, hty4, hF⟩ := zh_bind hF
    have gty4 := zFr.tr g0 (fr_Reader_refuse hty4) (fun r h => by first | exact h | exact h.elim | omega | (revert h; dsimp only; omega)) (fun r h => by first | exact h | exact h.elim | omega | (revert h; dsimp only; omega))
    exact zFr.tr gty4 (g_Reader_readNumber_75  hF) (fun _ h => h) (fun _ h => h)
theorem g_Reader_readNumber_8  {out : (Int32 × zI × zJ)} : ∀ (n : Nat) (x1 : Int32) (x2 : Int32) (x3 : Int32) (x4 : Int32) (μ : zI) (ν : zJ), f_Reader_readNumber_8   n x1 x2 x3 x4 μ ν = some out → zFr (fun r => (3 ≤ r ∧ r < 3 + 1)) (fun _ => False) μ ν out.2.1 out.2.2 := by
  intro n
  induction n with
  | zero => intro x1 x2 x3 x4 μ ν hF; cases hF
  | succ n ih =>
    intro x1 x2 x3 x4 μ ν hF
    dsimp only [f_Reader_readNumber_8] at hF
    have g0 := zFr.rf (fun r => (3 ≤ r ∧ r < 3 + 1)) (fun _ => False) μ ν
    rcases Decidable.em ((μ 3 6) ≤ x4) with cy1 | cy1
    · replace hF := zh_t cy1 hF
      exact zFr.tr g0 (g_Reader_readNumber_44  hF) (fun _ h => h) (fun _ h => h)
    · replace hF := zh_f cy1 hF
      rcases Decidable.em (1000000 ≤ x3) with cy2 | cy2
      · replace hF := zh_t cy2 hF
        exact zFr.tr g0 (g_Reader_readNumber_44  hF) (fun _ h => h) (fun _ h => h)
      · replace hF := zh_f cy2 hF
        obtain ⟨ty3, hty3, hF⟩ := zh_bind hF
        have gty3 := zFr.tr g0 (fr_Reader_signAt hty3) (fun r h => by first | exact h | exact h.elim | omega | (revert h; dsimp only; omega)) (fun r h => by first | exact h | exact h.elim | omega | (revert h; dsimp only; omega))
        obtain ⟨y4, hy4, hF⟩ := zh_let hF
        exact zFr.tr gty3 (ih _ _ _ _ _ _ hF) (fun _ h => h) (fun _ h => h)
theorem g_Reader_readNumber_0  {x1 : Int32} {x2 : Int32} {μ : zI} {ν : zJ} {out : (Int32 × zI × zJ)} (hF : e_Reader_readNumber_0   x1 x2 μ ν = some out) : zFr (fun r => (3 ≤ r ∧ r < 3 + 1)) (fun _ => False) μ ν out.2.1 out.2.2 := by
  unfold e_Reader_readNumber_0 at hF
  have g0 := zFr.rf (fun r => (3 ≤ r ∧ r < 3 + 1)) (fun _ => False) μ ν
  obtain ⟨y1, hy1, hF⟩ := zh_let hF
  exact zFr.tr g0 (g_Reader_readNumber_8  zFuel _ _ _ _ _ _ hF) (fun _ h => h) (fun _ h => h)
theorem fr_Reader_readNumber {x1 : Int32} {x2 : Int32} {μ : zI} {ν : zJ} {out : (Int32 × zI × zJ)} (hE : E_Reader_readNumber x1 x2 μ ν = some out) : zFr (fun r => (3 ≤ r ∧ r < 3 + 1)) (fun _ => False) μ ν out.2.1 out.2.2 := (g_Reader_readNumber_0 hE)
theorem g_Panel_addModule_60 {b : Nat}  {x1 : Int32} {x2 : Int32} {μ : zI} {ν : zJ} {out : (zI × zJ)} (hF : e_Panel_addModule_60 b  x1 x2 μ ν = some out) : zFr (fun r => (b ≤ r ∧ r < b + 15)) (fun _ => False) μ ν out.1 out.2 := by
  unfold e_Panel_addModule_60 at hF
  have g0 := zFr.rf (fun r => (b ≤ r ∧ r < b + 15)) (fun _ => False) μ ν
  cases hF
  exact g0
theorem g_Panel_addModule_0 {b : Nat}  {x1 : Int32} {x2 : Int32} {μ : zI} {ν : zJ} {out : (zI × zJ)} (hF : e_Panel_addModule_0 b  x1 x2 μ ν = some out) : zFr (fun r => (b ≤ r ∧ r < b + 15)) (fun _ => False) μ ν out.1 out.2 := by
  unfold e_Panel_addModule_0 at hF
  have g0 := zFr.rf (fun r => (b ≤ r ∧ r < b + 15)) (fun _ => False) μ ν
  rcases Decidable.em (6 ≤ (μ (b + 3) 0)) with cy1 | cy1
  · replace hF := zh_t cy1 hF
    exact zFr.tr g0 (g_Panel_addModule_60  hF) (fun _ h => h) (fun _ h => h)
  · replace hF := zh_f cy1 hF
    obtain ⟨hy2, hF⟩ := zh_if hF
    obtain ⟨μy3, hy3, hF⟩ := zh_let hF
    have gy3 := zFr.put g0 (r := (b + 4)) (by first | omega | (dsimp only; omega)) hy3
    obtain ⟨hy4, hF⟩ := zh_if hF
    obtain ⟨μy5, hy5, hF⟩ := zh_let hF
    have gy5 := zFr.put gy3 (r := (b + 5)) (by first | omega | (dsimp only; omega)) hy5
    obtain ⟨hy6, hF⟩ := zh_if hF
    obtain ⟨μy7, hy7, hF⟩ := zh_let hF
    have gy7 := zFr.put gy5 (r := (b + 6)) (by first | omega | (dsimp only; omega)) hy7
    obtain ⟨hy8, hF⟩ := zh_if hF
    obtain ⟨μy9, hy9, hF⟩ := zh_let hF
    have gy9 := zFr.put gy7 (r := (b + 7)) (by first | omega | (dsimp only; omega)) hy9
    obtain ⟨μy10, hy10, hF⟩ := zh_let hF
    have gy10 := zFr.put gy9 (r := (b + 3)) (by first | omega | (dsimp only; omega)) hy10
    exact zFr.tr gy10 (g_Panel_addModule_60  hF) (fun _ h => h) (fun _ h => h)
theorem fr_Panel_addModule {b : Nat} {x1 : Int32} {x2 : Int32} {μ : zI} {ν : zJ} {out : (zI × zJ)} (hE : E_Panel_addModule b x1 x2 μ ν = some out) : zFr (fun r => (b ≤ r ∧ r < b + 15)) (fun _ => False) μ ν out.1 out.2 := (g_Panel_addModule_0 hE)
theorem g_Reader_readModule_77  {x2 : Int32} {x3 : Int32} {μ : zI} {ν : zJ} {out : (zI × zJ)} (hF : e_Reader_readModule_77   x2 x3 μ ν = some out) : zFr (fun r => (19 ≤ r ∧ r < 19 + 15) ∨ (3 ≤ r ∧ r < 3 + 1)) (fun _ => False) μ ν out.1 out.2 := by
  unfold e_Reader_readModule_77 at hF
  have g0 := zFr.rf (fun r => (19 ≤ r ∧ r < 19 + 15) ∨ (3 ≤ r ∧ r < 3 + 1)) (fun _ => False) μ ν
  cases hF
  exact g0
theorem g_Reader_readModule_39   {μ : zI} {ν : zJ} {out : (zI × zJ)} (hF : e_Reader_readModule_39    μ ν = some out) : zFr (fun r => (19 ≤ r ∧ r < 19 + 15) ∨ (3 ≤ r ∧ r < 3 + 1)) (fun _ => False) μ ν out.1 out.2 := by
  unfold e_Reader_readModule_39 at hF
  have g0 := zFr.rf (fun r => (19 ≤ r ∧ r < 19 + 15) ∨ (3 ≤ r ∧ r < 3 + 1)) (fun _ => False) μ ν
  obtain ⟨ty1, hty1, hF⟩ := zh_bind hF
  have gty1 := zFr.tr g0 (fr_Reader_nextToken hty1) (fun r h => by first | exact h | exact h.elim | omega | (revert h; dsimp only; omega)) (fun r h => by first | exact h | exact h.elim | omega | (revert h; dsimp only; omega))
  obtain ⟨ty2, hty2, hF⟩ := zh_bind hF
  have gty2 := zFr.tr gty1 (fr_Reader_readNumber hty2) (fun r h => by first | exact h | exact h.elim | omega | (revert h; dsimp only; omega)) (fun r h => by first | exact h | exact h.elim | omega | (revert h; dsimp only; omega))
  obtain ⟨y3, hy3, hF⟩ := zh_let hF
  obtain ⟨ty4, hty4, hF⟩ := zh_bind hF
  have gty4 := zFr.tr gty2 (fr_Reader_readNumber hty4) (fun r h => by first | exact h | exact h.elim | omega | (revert h; dsimp only; omega)) (fun r h => by first | exact h | exact h.elim | omega | (revert h; dsimp only; omega))
  obtain ⟨y5, hy5, hF⟩ := zh_let hF
  rcases (Decidable.em ((ty4.2.1 3 0) = 0)).symm with cy6 | cy6
  · replace hF := zh_f cy6 hF
    exact zFr.tr gty4 (g_Reader_readModule_77  hF) (fun _ h => h) (fun _ h => h)
  · replace hF := zh_t cy6 hF
    obtain ⟨ty7, hty7, hF⟩ := zh_bind hF
    have gty7 := zFr.tr gty4 (fr_Panel_addModule hty7) (fun r h => by first | exact h | exact h.elim | omega | (revert h; dsimp only; omega)) (fun r h => by first | exact h | exact h.elim | omega | (revert h; dsimp only; omega))
    exact zFr.tr gty7 (g_Reader_readModule_77  hF) (fun _ h => h) (fun _ h => h)
theorem g_Reader_readModule_22   {μ : zI} {ν : zJ} {out : (zI × zJ)} (hF : e_Reader_readModule_22    μ ν = some out) : zFr (fun r => (19 ≤ r ∧ r < 19 + 15) ∨ (3 ≤ r ∧ r < 3 + 1)) (fun _ => False) μ ν out.1 out.2 := by
  unfold e_Reader_readModule_22 at hF
  have g0 := zFr.rf (fun r => (19 ≤ r ∧ r < 19 + 15) ∨ (3 ≤ r ∧ r < 3 + 1)) (fun _ => False) μ ν
  rcases Decidable.em ((μ (19 + 3) 0) < 6) with cy1 | cy1
  · replace hF := zh_t cy1 hF
    exact zFr.tr g0 (g_Reader_readModule_39  hF) (fun _ h => h) (fun _ h => h)
  · replace hF := zh_f cy1 hF
    obtain ⟨ty2, hty2, hF⟩ := zh_bind hF
    have gty2 := zFr.tr g0 (fr_Reader_refuse hty2) (fun r h => by first | exact h | exact h.elim | omega | (revert h; dsimp only; omega)) (fun r h => by first | exact h | exact h.elim | omega | (revert h; dsimp only; omega))
    exact zFr.tr gty2 (g_Reader_readModule_39  hF) (fun _ h => h) (fun _ h => h)
theorem g_Reader_readModule_17   {μ : zI} {ν : zJ} {out : (zI × zJ)} (hF : e_Reader_readModule_17    μ ν = some out) : zFr (fun r => (19 ≤ r ∧ r < 19 + 15) ∨ (3 ≤ r ∧ r < 3 + 1)) (fun _ => False) μ ν out.1 out.2 := by
  unfold e_Reader_readModule_17 at hF
  have g0 := zFr.rf (fun r => (19 ≤ r ∧ r < 19 + 15) ∨ (3 ≤ r ∧ r < 3 + 1)) (fun _ => False) μ ν
  obtain ⟨ty1, hty1, hF⟩ := zh_bind hF
  have gty1 := zFr.tr g0 (fr_Reader_refuse hty1) (fun r h => by first | exact h | exact h.elim | omega | (revert h; dsimp only; omega)) (fun r h => by first | exact h | exact h.elim | omega | (revert h; dsimp only; omega))
  exact zFr.tr gty1 (g_Reader_readModule_22  hF) (fun _ h => h) (fun _ h => h)
theorem g_Reader_readModule_0   {μ : zI} {ν : zJ} {out : (zI × zJ)} (hF : e_Reader_readModule_0    μ ν = some out) : zFr (fun r => (19 ≤ r ∧ r < 19 + 15) ∨ (3 ≤ r ∧ r < 3 + 1)) (fun _ => False) μ ν out.1 out.2 := by
  unfold e_Reader_readModule_0 at hF
  have g0 := zFr.rf (fun r => (19 ≤ r ∧ r < 19 + 15) ∨ (3 ≤ r ∧ r < 3 + 1)) (fun _ => False) μ ν
  rcases (Decidable.em ((μ 3 7) = 0)).symm with cy1 | cy1
  · replace hF := zh_f cy1 hF
    exact zFr.tr g0 (g_Reader_readModule_17  hF) (fun _ h => h) (fun _ h => h)
  · replace hF := zh_t cy1 hF
    rcases Decidable.em ((μ (19 + 9) 0) ≤ 0) with cy2 | cy2
    · replace hF := zh_t cy2 hF
      exact zFr.tr g0 (g_Reader_readModule_22  hF) (fun _ h => h) (fun _ h => h)
    · replace hF := zh_f cy2 hF
      exact zFr.tr g0 (g_Reader_readModule_17  hF) (fun _ h => h) (fun _ h => h)
theorem fr_Reader_readModule {μ : zI} {ν : zJ} {out : (zI × zJ)} (hE : E_Reader_readModule  μ ν = some out) : zFr (fun r => (19 ≤ r ∧ r < 19 + 15) ∨ (3 ≤ r ∧ r < 3 + 1)) (fun _ => False) μ ν out.1 out.2 := (g_Reader_readModule_0 hE)
theorem g_Told_mostOf_19  {x0 : Int32} {s0 : Int32} {μ : zI} {ν : zJ} {out : (Int32 × zI × zJ)} (hF : e_Told_mostOf_19   x0 s0 μ ν = some out) : zFr (fun _ => False) (fun _ => False) μ ν out.2.1 out.2.2 := by
  unfold e_Told_mostOf_19 at hF
  have g0 := zFr.rf (fun _ => False) (fun _ => False) μ ν
  cases hF
  exact g0
theorem g_Told_mostOf_18  {x0 : Int32} {μ : zI} {ν : zJ} {out : (Int32 × zI × zJ)} (hF : e_Told_mostOf_18   x0 μ ν = some out) : zFr (fun _ => False) (fun _ => False) μ ν out.2.1 out.2.2 := by
  unfold e_Told_mostOf_18 at hF
  have g0 := zFr.rf (fun _ => False) (fun _ => False) μ ν
  exact zFr.tr g0 (g_Told_mostOf_19  hF) (fun _ h => h) (fun _ h => h)
theorem g_Told_mostOf_0  {x0 : Int32} {μ : zI} {ν : zJ} {out : (Int32 × zI × zJ)} (hF : e_Told_mostOf_0   x0 μ ν = some out) : zFr (fun _ => False) (fun _ => False) μ ν out.2.1 out.2.2 := by
  unfold e_Told_mostOf_0 at hF
  have g0 := zFr.rf (fun _ => False) (fun _ => False) μ ν
  rcases Decidable.em (x0 < 0) with cy1 | cy1
  · replace hF := zh_t cy1 hF
    exact zFr.tr g0 (g_Told_mostOf_18  hF) (fun _ h => h) (fun _ h => h)
  · replace hF := zh_f cy1 hF
    rcases Decidable.em (19 ≤ x0) with cy2 | cy2
    · replace hF := zh_t cy2 hF
      exact zFr.tr g0 (g_Told_mostOf_18  hF) (fun _ h => h) (fun _ h => h)
    · replace hF := zh_f cy2 hF
      obtain ⟨hy3, hF⟩ := zh_if hF
      exact zFr.tr g0 (g_Told_mostOf_19  hF) (fun _ h => h) (fun _ h => h)
theorem fr_Told_mostOf {x0 : Int32} {μ : zI} {ν : zJ} {out : (Int32 × zI × zJ)} (hE : E_Told_mostOf x0 μ ν = some out) : zFr (fun _ => False) (fun _ => False) μ ν out.2.1 out.2.2 := (g_Told_mostOf_0 hE)
theorem g_Told_leastOf_19  {x0 : Int32} {s0 : Int32} {μ : zI} {ν : zJ} {out : (Int32 × zI × zJ)} (hF : e_Told_leastOf_19   x0 s0 μ ν = some out) : zFr (fun _ => False) (fun _ => False) μ ν out.2.1 out.2.2 := by
  unfold e_Told_leastOf_19 at hF
  have g0 := zFr.rf (fun _ => False) (fun _ => False) μ ν
  cases hF
  exact g0
theorem g_Told_leastOf_18  {x0 : Int32} {μ : zI} {ν : zJ} {out : (Int32 × zI × zJ)} (hF : e_Told_leastOf_18   x0 μ ν = some out) : zFr (fun _ => False) (fun _ => False) μ ν out.2.1 out.2.2 := by
  unfold e_Told_leastOf_18 at hF
  have g0 := zFr.rf (fun _ => False) (fun _ => False) μ ν
  exact zFr.tr g0 (g_Told_leastOf_19  hF) (fun _ h => h) (fun _ h => h)
theorem g_Told_leastOf_0  {x0 : Int32} {μ : zI} {ν : zJ} {out : (Int32 × zI × zJ)} (hF : e_Told_leastOf_0   x0 μ ν = some out) : zFr (fun _ => False) (fun _ => False) μ ν out.2.1 out.2.2 := by
  unfold e_Told_leastOf_0 at hF
  have g0 := zFr.rf (fun _ => False) (fun _ => False) μ ν
  rcases Decidable.em (x0 < 0) with cy1 | cy1
  · replace hF := zh_t cy1 hF
    exact zFr.tr g0 (g_Told_leastOf_18  hF) (fun _ h => h) (fun _ h => h)
  · replace hF := zh_f cy1 hF
    rcases Decidable.em (19 ≤ x0) with cy2 | cy2
    · replace hF := zh_t cy2 hF
      exact zFr.tr g0 (g_Told_leastOf_18  hF) (fun _ h => h) (fun _ h => h)
    · replace hF := zh_f cy2 hF
      obtain ⟨hy3, hF⟩ := zh_if hF
      exact zFr.tr g0 (g_Told_leastOf_19  hF) (fun _ h => h) (fun _ h => h)
theorem fr_Told_leastOf {x0 : Int32} {μ : zI} {ν : zJ} {out : (Int32 × zI × zJ)} (hE : E_Told_leastOf x0 μ ν = some out) : zFr (fun _ => False) (fun _ => False) μ ν out.2.1 out.2.2 := (g_Told_leastOf_0 hE)
theorem g_Told_put_17 {b : Nat}  {x1 : Int32} {x2 : Int32} {μ : zI} {ν : zJ} {out : (zI × zJ)} (hF : e_Told_put_17 b  x1 x2 μ ν = some out) : zFr (fun r => (b ≤ r ∧ r < b + 15)) (fun _ => False) μ ν out.1 out.2 := by
  unfold e_Told_put_17 at hF
  have g0 := zFr.rf (fun r => (b ≤ r ∧ r < b + 15)) (fun _ => False) μ ν
  cases hF
  exact g0
theorem g_Told_put_0 {b : Nat}  {x1 : Int32} {x2 : Int32} {μ : zI} {ν : zJ} {out : (zI × zJ)} (hF : e_Told_put_0 b  x1 x2 μ ν = some out) : zFr (fun r => (b ≤ r ∧ r < b + 15)) (fun _ => False) μ ν out.1 out.2 := by
  unfold e_Told_put_0 at hF
  have g0 := zFr.rf (fun r => (b ≤ r ∧ r < b + 15)) (fun _ => False) μ ν
  rcases Decidable.em (x1 < 0) with cy1 | cy1
  · replace hF := zh_t cy1 hF
    exact zFr.tr g0 (g_Told_put_17  hF) (fun _ h => h) (fun _ h => h)
  · replace hF := zh_f cy1 hF
    rcases Decidable.em (19 ≤ x1) with cy2 | cy2
    · replace hF := zh_t cy2 hF
      exact zFr.tr g0 (g_Told_put_17  hF) (fun _ h => h) (fun _ h => h)
    · replace hF := zh_f cy2 hF
      obtain ⟨hy3, hF⟩ := zh_if hF
      obtain ⟨μy4, hy4, hF⟩ := zh_let hF
      have gy4 := zFr.put g0 (r := (b + 2)) (by first | omega | (dsimp only; omega)) hy4
      exact zFr.tr gy4 (g_Told_put_17  hF) (fun _ h => h) (fun _ h => h)
theorem fr_Told_put {b : Nat} {x1 : Int32} {x2 : Int32} {μ : zI} {ν : zJ} {out : (zI × zJ)} (hE : E_Told_put b x1 x2 μ ν = some out) : zFr (fun r => (b ≤ r ∧ r < b + 15)) (fun _ => False) μ ν out.1 out.2 := (g_Told_put_0 hE)
theorem g_Reader_readSettings_130 {r66 : Nat → Int32 → Int32 → zI → zJ → Option (zI × zJ)} {n2 : Nat} {x3 : Int32} {x4 : Int32} {s0 : Int32} {μ : zI} {ν : zJ} {out : (zI × zJ)} (hr66 : ∀ (n2 : Nat) (x3 : Int32) (x4 : Int32) (μ : zI) (ν : zJ), r66 n2 x3 x4 μ ν = some out → zFr (fun r => (19 ≤ r ∧ r < 19 + 15) ∨ (3 ≤ r ∧ r < 3 + 1)) (fun _ => False) μ ν out.1 out.2) (hF : e_Reader_readSettings_130  r66 n2 x3 x4 s0 μ ν = some out) : zFr (fun r => (19 ≤ r ∧ r < 19 + 15) ∨ (3 ≤ r ∧ r < 3 + 1)) (fun _ => False) μ ν out.1 out.2 := by
  unfold e_Reader_readSettings_130 at hF
  have g0 := zFr.rf (fun r => (19 ≤ r ∧ r < 19 + 15) ∨ (3 ≤ r ∧ r < 3 + 1)) (fun _ => False) μ ν
  obtain ⟨ty1, hty1, hF⟩ := zh_bind hF
  have gty1 := zFr.tr g0 (fr_Told_leastOf hty1) (fun r h => by first | exact h | exact h.elim | omega | (revert h; dsimp only; omega)) (fun r h => by first | exact h | exact h.elim | omega | (revert h; dsimp only; omega))
  obtain ⟨ty2, hty2, hF⟩ := zh_bind hF
  have gty2 := zFr.tr gty1 (fr_Reader_readNumber hty2) (fun r h => by first | exact h | exact h.elim | omega | (revert h; dsimp only; omega)) (fun r h => by first | exact h | exact h.elim | omega | (revert h; dsimp only; omega))
  obtain ⟨ty3, hty3, hF⟩ := zh_bind hF
  have gty3 := zFr.tr gty2 (fr_Told_put hty3) (fun r h => by first | exact h | exact h.elim | omega | (revert h; dsimp only; omega)) (fun r h => by first | exact h | exact h.elim | omega | (revert h; dsimp only; omega))
  exact zFr.tr gty3 (hr66 _ _ _ _ _ hF) (fun _ h => h) (fun _ h => h)
theorem g_Reader_readSettings_108 {r66 : Nat → Int32 → Int32 → zI → zJ → Option (zI × zJ)} {n2 : Nat} {x3 : Int32} {x4 : Int32} {μ : zI} {ν : zJ} {out : (zI × zJ)} (hr66 : ∀ (n2 : Nat) (x3 : Int32) (x4 : Int32) (μ : zI) (ν : zJ), r66 n2 x3 x4 μ ν = some out → zFr (fun r => (19 ≤ r ∧ r < 19 + 15) ∨ (3 ≤ r ∧ r < 3 + 1)) (fun _ => False) μ ν out.1 out.2) (hF : e_Reader_readSettings_108  r66 n2 x3 x4 μ ν = some out) : zFr (fun r => (19 ≤ r ∧ r < 19 + 15) ∨ (3 ≤ r ∧ r < 3 + 1)) (fun _ => False) μ ν out.1 out.2 := by
  unfold e_Reader_readSettings_108 at hF
  have g0 := zFr.rf (fun r => (19 ≤ r ∧ r < 19 + 15) ∨ (3 ≤ r ∧ r < 3 + 1)) (fun _ => False) μ ν
  rcases (Decidable.em (x4 = 3)).symm with cy1 | cy1
  · replace hF := zh_f cy1 hF
    obtain ⟨ty2, hty2, hF⟩ := zh_bind hF
    have gty2 := zFr.tr g0 (fr_Told_mostOf hty2) (fun r h => by first | exact h | exact h.elim | omega | (revert h; dsimp only; omega)) (fun r h => by first | exact h | exact h.elim | omega | (revert h; dsimp only; omega))
    exact zFr.tr gty2 (g_Reader_readSettings_130 hr66 hF) (fun _ h => h) (fun _ h => h)
  · replace hF := zh_t cy1 hF
    obtain ⟨ty3, hty3, hF⟩ := zh_bind hF
    have gty3 := zFr.tr g0 (fr_Told_get hty3) (fun r h => by first | exact h | exact h.elim | omega | (revert h; dsimp only; omega)) (fun r h => by first | exact h | exact h.elim | omega | (revert h; dsimp only; omega))
    exact zFr.tr gty3 (g_Reader_readSettings_130 hr66 hF) (fun _ h => h) (fun _ h => h)
theorem g_Reader_readSettings_158  {n2 : Nat} {x3 : Int32} {x4 : Int32} {μ : zI} {ν : zJ} {out : (zI × zJ)} (hF : e_Reader_readSettings_158   n2 x3 x4 μ ν = some out) : zFr (fun r => (19 ≤ r ∧ r < 19 + 15) ∨ (3 ≤ r ∧ r < 3 + 1)) (fun _ => False) μ ν out.1 out.2 := by
  unfold e_Reader_readSettings_158 at hF
  have g0 := zFr.rf (fun r => (19 ≤ r ∧ r < 19 + 15) ∨ (3 ≤ r ∧ r < 3 + 1)) (fun _ => False) μ ν
  cases hF
  exact g0
theorem g_Reader_readSettings_66  {out : (zI × zJ)} : ∀ (n : Nat) (n2 : Nat) (x3 : Int32) (x4 : Int32) (μ : zI) (ν : zJ), f_Reader_readSettings_66   n n2 x3 x4 μ ν = some out → zFr (fun r => (19 ≤ r ∧ r < 19 + 15) ∨ (3 ≤ r ∧ r < 3 + 1)) (fun _ => False) μ ν out.1 out.2 := by
  intro n
  induction n with
  | zero => intro n2 x3 x4 μ ν hF; cases hF
  | succ n ih =>
    intro n2 x3 x4 μ ν hF
    dsimp only [f_Reader_readSettings_66] at hF
    have g0 := zFr.rf (fun r => (19 ≤ r ∧ r < 19 + 15) ∨ (3 ≤ r ∧ r < 3 + 1)) (fun _ => False) μ ν
    obtain ⟨hy1, hF⟩ := zh_if hF
    rcases Decidable.em ((((zWf.getD 2 ("", "", "", [])).2.2.2).getD n2 0) < x4) with cy2 | cy2
    · replace hF := zh_t cy2 hF
      exact zFr.tr g0 (g_Reader_readSettings_158  hF) (fun _ h => h) (fun _ h => h)
    · replace hF := zh_f cy2 hF
      rcases (Decidable.em ((μ 3 0) = 0)).symm with cy3 | cy3
      · replace hF := zh_f cy3 hF
        exact zFr.tr g0 (g_Reader_readSettings_158  hF) (fun _ h => h) (fun _ h => h)
      · replace hF := zh_t cy3 hF
        rcases (Decidable.em (x4 = 1)).symm with cy4 | cy4
        · replace hF := zh_f cy4 hF
          exact zFr.tr g0 (g_Reader_readSettings_108 (fun a0 a1 a2 a3 a4 => ih a0 a1 a2 a3 a4) hF) (fun _ h => h) (fun _ h => h)
        · replace hF := zh_t cy4 hF
          obtain ⟨ty5, hty5, hF⟩ := zh_bind hF
          have gty5 := zFr.tr g0 (fr_Told_get hty5) (fun r h => by first | exact h | exact h.elim | omega | (revert h; dsimp only; omega)) (fun r h => by first | exact h | exact h.elim | omega | (revert h; dsimp only; omega))
          obtain ⟨ty6, hty6, hF⟩ := zh_bind hF
          have gty6 := zFr.tr gty5 (fr_Reader_readNumber hty6) (fun r h => by first | exact h | exact h.elim | omega | (revert h; dsimp only; omega)) (fun r h => by first | exact h | exact h.elim | omega | (revert h; dsimp only; omega))
          obtain ⟨μy7, hy7, hF⟩ := zh_let hF
          have gy7 := zFr.put gty6 (r := (19 + 12)) (by first | omega | (dsimp only; omega)) hy7
          exact zFr.tr gy7 (g_Reader_readSettings_108 (fun a0 a1 a2 a3 a4 => ih a0 a1 a2 a3 a4) hF) (fun _ h => h) (fun _ h => h)
theorem g_Reader_readSettings_46  {n2 : Nat} {x3 : Int32} {μ : zI} {ν : zJ} {out : (zI × zJ)} (hF : e_Reader_readSettings_46   n2 x3 μ ν = some out) : zFr (fun r => (19 ≤ r ∧ r < 19 + 15) ∨ (3 ≤ r ∧ r < 3 + 1)) (fun _ => False) μ ν out.1 out.2 := by
  unfold e_Reader_readSettings_46 at hF
  have g0 := zFr.rf (fun r => (19 ≤ r ∧ r < 19 + 15) ∨ (3 ≤ r ∧ r < 3 + 1)) (fun _ => False) μ ν
  obtain ⟨μy1, hy1, hF⟩ := zh_let hF
  have gy1 := zFr.put g0 (r := 3) (by first | omega | (dsimp only; omega)) hy1
  obtain ⟨ty2, hty2, hF⟩ := zh_bind hF
  have gty2 := zFr.tr gy1 (fr_Reader_nextToken hty2) (fun r h => by first | exact h | exact h.elim | omega | (revert h; dsimp only; omega)) (fun r h => by first | exact h | exact h.elim | omega | (revert h; dsimp only; omega))
  obtain ⟨hy3, hF⟩ := zh_if hF
  obtain ⟨y4, hy4, hF⟩ := zh_let hF
  exact zFr.tr gty2 (g_Reader_readSettings_66  zFuel _ _ _ _ _ hF) (fun _ h => h) (fun _ h => h)
theorem g_Reader_readSettings_32  {n2 : Nat} {x3 : Int32} {μ : zI} {ν : zJ} {out : (zI × zJ)} (hF : e_Reader_readSettings_32   n2 x3 μ ν = some out) : zFr (fun r => (19 ≤ r ∧ r < 19 + 15) ∨ (3 ≤ r ∧ r < 3 + 1)) (fun _ => False) μ ν out.1 out.2 := by
  unfold e_Reader_readSettings_32 at hF
  have g0 := zFr.rf (fun r => (19 ≤ r ∧ r < 19 + 15) ∨ (3 ≤ r ∧ r < 3 + 1)) (fun _ => False) μ ν
  rcases Decidable.em (((μ 3 7) &&& x3) = 0) with cy1 | cy1
  · replace hF := zh_t cy1 hF
    exact zFr.tr g0 (g_Reader_readSettings_46  hF) (fun _ h => h) (fun _ h => h)
  · replace hF := zh_f cy1 hF
    obtain ⟨ty2, hty2, hF⟩ := zh_bind hF
    have gty2 := zFr.tr g0 (fr_Reader_refuse hty2) (fun r h => by first | exact h | exact h.elim | omega | (revert h; dsimp only; omega)) (fun r h => by first | exact h | exact h.elim | omega | (revert h; dsimp only; omega))
    exact zFr.tr gty2 (g_Reader_readSettings_46  hF) (fun _ h => h) (fun _ h => h)
theorem g_Reader_readSettings_27  {n2 : Nat} {x3 : Int32} {μ : zI} {ν : zJ} {out : (zI × zJ)} (hF : e_Reader_readSettings_27   n2 x3 μ ν = some out) : zFr (fun r => (19 ≤ r ∧ r < 19 + 15) ∨ (3 ≤ r ∧ r < 3 + 1)) (fun _ => False) μ ν out.1 out.2 := by
  unfold e_Reader_readSettings_27 at hF
  have g0 := zFr.rf (fun r => (19 ≤ r ∧ r < 19 + 15) ∨ (3 ≤ r ∧ r < 3 + 1)) (fun _ => False) μ ν
  obtain ⟨ty1, hty1, hF⟩ := zh_bind hF
  have gty1 := zFr.tr g0 (fr_Reader_refuse hty1) (fun r h => by first | exact h | exact h.elim | omega | (revert h; dsimp only; omega)) (fun r h => by first | exact h | exact h.elim | omega | (revert h; dsimp only; omega))
  exact zFr.tr gty1 (g_Reader_readSettings_32  hF) (fun _ h => h) (fun _ h => h)
theorem g_Reader_readSettings_0  {n2 : Nat} {μ : zI} {ν : zJ} {out : (zI × zJ)} (hF : e_Reader_readSettings_0   n2 μ ν = some out) : zFr (fun r => (19 ≤ r ∧ r < 19 + 15) ∨ (3 ≤ r ∧ r < 3 + 1)) (fun _ => False) μ ν out.1 out.2 := by
  unfold e_Reader_readSettings_0 at hF
  have g0 := zFr.rf (fun r => (19 ≤ r ∧ r < 19 + 15) ∨ (3 ≤ r ∧ r < 3 + 1)) (fun _ => False) μ ν
  obtain ⟨hy1, hF⟩ := zh_if hF
  obtain ⟨y2, hy2, hF⟩ := zh_let hF
  rcases Decidable.em ((μ (19 + 3) 0) = 0) with cy3 | cy3
  · replace hF := zh_t cy3 hF
    exact zFr.tr g0 (g_Reader_readSettings_27  hF) (fun _ h => h) (fun _ h => h)
  · replace hF := zh_f cy3 hF
    rcases Decidable.em ((μ (19 + 9) 0) ≤ 0) with cy4 | cy4
    · replace hF := zh_t cy4 hF
      exact zFr.tr g0 (g_Reader_readSettings_32  hF) (fun _ h => h) (fun _ h => h)
    · replace hF := zh_f cy4 hF
      exact zFr.tr g0 (g_Reader_readSettings_27  hF) (fun _ h => h) (fun _ h => h)
theorem fr_Reader_readSettings {n2 : Nat} {μ : zI} {ν : zJ} {out : (zI × zJ)} (hE : E_Reader_readSettings n2 μ ν = some out) : zFr (fun r => (19 ≤ r ∧ r < 19 + 15) ∨ (3 ≤ r ∧ r < 3 + 1)) (fun _ => False) μ ν out.1 out.2 := (g_Reader_readSettings_0 hE)
theorem g_Schedule_add_78 {b : Nat}  {x1 : Int32} {x2 : Int32} {x3 : Int32} {x4 : Int32} {x5 : Int32} {x6 : Int32} {μ : zI} {ν : zJ} {out : (zI × zJ)} (hF : e_Schedule_add_78 b  x1 x2 x3 x4 x5 x6 μ ν = some out) : zFr (fun r => (b ≤ r ∧ r < b + 15)) (fun _ => False) μ ν out.1 out.2 := by
  unfold e_Schedule_add_78 at hF
  have g0 := zFr.rf (fun r => (b ≤ r ∧ r < b + 15)) (fun _ => False) μ ν
  obtain ⟨hy1, hF⟩ := zh_if hF
  obtain ⟨μy2, hy2, hF⟩ := zh_let hF
  have gy2 := zFr.put g0 (r := (b + 10)) (by first | omega | (dsimp only; omega)) hy2
  obtain ⟨hy3, hF⟩ := zh_if hF
  obtain ⟨μy4, hy4, hF⟩ := zh_let hF
  have gy4 := zFr.put gy2 (r := (b + 10)) (by first | omega | (dsimp only; omega)) hy4
  obtain ⟨hy5, hF⟩ := zh_if hF
  obtain ⟨μy6, hy6, hF⟩ := zh_let hF
  have gy6 := zFr.put gy4 (r := (b + 10)) (by first | omega | (dsimp only; omega)) hy6
  obtain ⟨hy7, hF⟩ := zh_if hF
  obtain ⟨μy8, hy8, hF⟩ := zh_let hF
  have gy8 := zFr.put gy6 (r := (b + 10)) (by first | omega | (dsimp only; omega)) hy8
  obtain ⟨μy9, hy9, hF⟩ := zh_let hF
  have gy9 := zFr.put gy8 (r := (b + 9)) (by first | omega | (dsimp only; omega)) hy9
  cases hF
  exact gy9
theorem g_Schedule_add_22 {b : Nat}  {out : (zI × zJ)} : ∀ (n : Nat) (x1 : Int32) (x2 : Int32) (x3 : Int32) (x4 : Int32) (x5 : Int32) (x6 : Int32) (μ : zI) (ν : zJ), f_Schedule_add_22 b  n x1 x2 x3 x4 x5 x6 μ ν = some out → zFr (fun r => (b ≤ r ∧ r < b + 15)) (fun _ => False) μ ν out.1 out.2 := by
  intro n
  induction n with
  | zero => intro x1 x2 x3 x4 x5 x6 μ ν hF; cases hF
  | succ n ih =>
    intro x1 x2 x3 x4 x5 x6 μ ν hF
    dsimp only [f_Schedule_add_22] at hF
    have g0 := zFr.rf (fun r => (b ≤ r ∧ r < b + 15)) (fun _ => False) μ ν
    rcases Decidable.em (x6 ≤ 0) with cy1 | cy1
    · replace hF := zh_t cy1 hF
      exact zFr.tr g0 (g_Schedule_add_78  hF) (fun _ h => h) (fun _ h => h)
    · replace hF := zh_f cy1 hF
      obtain ⟨hy2, hF⟩ := zh_if hF
      rcases Decidable.em ((μ (b + 10) (Int32.toNatClampNeg (((x6 - 1) * 4) + 0))) ≤ x1) with cy3 | cy3
      · replace hF := zh_t cy3 hF
        exact zFr.tr g0 (g_Schedule_add_78  hF) (fun _ h => h) (fun _ h => h)
      · replace hF := zh_f cy3 hF
        obtain ⟨hy4, hF⟩ := zh_if hF
        obtain ⟨hy5, hF⟩ := zh_if hF
        obtain ⟨μy6, hy6, hF⟩ := zh_let hF
        have gy6 := zFr.row g0 (r := (b + 10)) (by first | omega | (dsimp only; omega)) hy6
        obtain ⟨y7, hy7, hF⟩ := zh_let hF
        exact zFr.tr gy6 (ih _ _ _ _ _ _ _ _ hF) (fun _ h => h) (fun _ h => h)
theorem g_Schedule_add_0 {b : Nat}  {x1 : Int32} {x2 : Int32} {x3 : Int32} {x4 : Int32} {μ : zI} {ν : zJ} {out : (zI × zJ)} (hF : e_Schedule_add_0 b  x1 x2 x3 x4 μ ν = some out) : zFr (fun r => (b ≤ r ∧ r < b + 15)) (fun _ => False) μ ν out.1 out.2 := by
  unfold e_Schedule_add_0 at hF
  have g0 := zFr.rf (fun r => (b ≤ r ∧ r < b + 15)) (fun _ => False) μ ν
  rcases Decidable.em ((μ (b + 9) 0) < 24) with cy1 | cy1
  · replace hF := zh_t cy1 hF
    obtain ⟨y2, hy2, hF⟩ := zh_let hF
    obtain ⟨y3, hy3, hF⟩ := zh_let hF
    exact zFr.tr g0 (g_Schedule_add_22  zFuel _ _ _ _ _ _ _ _ hF) (fun _ h => h) (fun _ h => h)
  · replace hF := zh_f cy1 hF
    cases hF
    exact g0
theorem fr_Schedule_add {b : Nat} {x1 : Int32} {x2 : Int32} {x3 : Int32} {x4 : Int32} {μ : zI} {ν : zJ} {out : (zI × zJ)} (hE : E_Schedule_add b x1 x2 x3 x4 μ ν = some out) : zFr (fun r => (b ≤ r ∧ r < b + 15)) (fun _ => False) μ ν out.1 out.2 := (g_Schedule_add_0 hE)
theorem g_Reader_addComing_20  {x2 : Int32} {x3 : Int32} {x4 : Int32} {x5 : Int32} {μ : zI} {ν : zJ} {out : (zI × zJ)} (hF : e_Reader_addComing_20   x2 x3 x4 x5 μ ν = some out) : zFr (fun r => (19 ≤ r ∧ r < 19 + 15)) (fun _ => False) μ ν out.1 out.2 := by
  unfold e_Reader_addComing_20 at hF
  have g0 := zFr.rf (fun r => (19 ≤ r ∧ r < 19 + 15)) (fun _ => False) μ ν
  cases hF
  exact g0
theorem g_Reader_addComing_0  {x2 : Int32} {x3 : Int32} {x4 : Int32} {x5 : Int32} {μ : zI} {ν : zJ} {out : (zI × zJ)} (hF : e_Reader_addComing_0   x2 x3 x4 x5 μ ν = some out) : zFr (fun r => (19 ≤ r ∧ r < 19 + 15)) (fun _ => False) μ ν out.1 out.2 := by
  unfold e_Reader_addComing_0 at hF
  have g0 := zFr.rf (fun r => (19 ≤ r ∧ r < 19 + 15)) (fun _ => False) μ ν
  rcases (Decidable.em ((μ 3 0) = 0)).symm with cy1 | cy1
  · replace hF := zh_f cy1 hF
    exact zFr.tr g0 (g_Reader_addComing_20  hF) (fun _ h => h) (fun _ h => h)
  · replace hF := zh_t cy1 hF
    obtain ⟨ty2, hty2, hF⟩ := zh_bind hF
    have gty2 := zFr.tr g0 (fr_Schedule_add hty2) (fun r h => by first | exact h | exact h.elim | omega | (revert h; dsimp only; omega)) (fun r h => by first | exact h | exact h.elim | omega | (revert h; dsimp only; omega))
    exact zFr.tr gty2 (g_Reader_addComing_20  hF) (fun _ h => h) (fun _ h => h)
theorem fr_Reader_addComing {x2 : Int32} {x3 : Int32} {x4 : Int32} {x5 : Int32} {μ : zI} {ν : zJ} {out : (zI × zJ)} (hE : E_Reader_addComing x2 x3 x4 x5 μ ν = some out) : zFr (fun r => (19 ≤ r ∧ r < 19 + 15)) (fun _ => False) μ ν out.1 out.2 := (g_Reader_addComing_0 hE)
theorem g_Reader_readAt_176  {x2 : Int32} {μ : zI} {ν : zJ} {out : (zI × zJ)} (hF : e_Reader_readAt_176   x2 μ ν = some out) : zFr (fun r => (19 ≤ r ∧ r < 19 + 15) ∨ (3 ≤ r ∧ r < 3 + 1)) (fun _ => False) μ ν out.1 out.2 := by
  unfold e_Reader_readAt_176 at hF
  have g0 := zFr.rf (fun r => (19 ≤ r ∧ r < 19 + 15) ∨ (3 ≤ r ∧ r < 3 + 1)) (fun _ => False) μ ν
  cases hF
  exact g0
theorem g_Reader_readAt_32   {μ : zI} {ν : zJ} {out : (zI × zJ)} (hF : e_Reader_readAt_32    μ ν = some out) : zFr (fun r => (19 ≤ r ∧ r < 19 + 15) ∨ (3 ≤ r ∧ r < 3 + 1)) (fun _ => False) μ ν out.1 out.2 := by
  unfold e_Reader_readAt_32 at hF
  have g0 := zFr.rf (fun r => (19 ≤ r ∧ r < 19 + 15) ∨ (3 ≤ r ∧ r < 3 + 1)) (fun _ => False) μ ν
  obtain ⟨ty1, hty1, hF⟩ := zh_bind hF
  have gty1 := zFr.tr g0 (fr_Reader_nextToken hty1) (fun r h => by first | exact h | exact h.elim | omega | (revert h; dsimp only; omega)) (fun r h => by first | exact h | exact h.elim | omega | (revert h; dsimp only; omega))
  obtain ⟨ty2, hty2, hF⟩ := zh_bind hF
  have gty2 := zFr.tr gty1 (fr_Reader_readNumber hty2) (fun r h => by first | exact h | exact h.elim | omega | (revert h; dsimp only; omega)) (fun r h => by first | exact h | exact h.elim | omega | (revert h; dsimp only; omega))
  obtain ⟨y3, hy3, hF⟩ := zh_let hF
  obtain ⟨ty4, hty4, hF⟩ := zh_bind hF
  have gty4 := zFr.tr gty2 (fr_Reader_wordHere hty4) (fun r h => by first | exact h | exact h.elim | omega | (revert h; dsimp only; omega)) (fun r h => by first | exact h | exact h.elim | omega | (revert h; dsimp only; omega))
  obtain ⟨hy5, hF⟩ := zh_if hF
  obtain ⟨hy6, hF⟩ := zh_if hF
  by_cases cy7 : (((zTabs.getD 3 ("", "", [])).2.2).getD (Int32.toNatClampNeg (nI ty4.1)) 0) = 8
  · replace hF := zh_t cy7 hF
    obtain ⟨ty10, hty10, hF⟩ := zh_bind hF
    have gty10 := zFr.tr gty4 (fr_Reader_nextToken hty10) (fun r h => by first | exact h | exact h.elim | omega | (revert h; dsimp only; omega)) (fun r h => by first | exact h | exact h.elim | omega | (revert h; dsimp only; omega))
    obtain ⟨ty11, hty11, hF⟩ := zh_bind hF
    have gty11 := zFr.tr gty10 (fr_Reader_readNumber hty11) (fun r h => by first | exact h | exact h.elim | omega | (revert h; dsimp only; omega)) (fun r h => by first | exact h | exact h.elim | omega | (revert h; dsimp only; omega))
    obtain ⟨y12, hy12, hF⟩ := zh_let hF
    obtain ⟨ty13, hty13, hF⟩ := zh_bind hF
    have gty13 := zFr.tr gty11 (fr_Reader_readNumber hty13) (fun r h => by first | exact h | exact h.elim | omega | (revert h; dsimp only; omega)) (fun r h => by first | exact h | exact h.elim | omega | (revert h; dsimp only; omega))
    obtain ⟨ty14, hty14, hF⟩ := zh_bind hF
    have gty14 := zFr.tr gty13 (fr_Reader_addComing hty14) (fun r h => by first | exact h | exact h.elim | omega | (revert h; dsimp only; omega)) (fun r h => by first | exact h | exact h.elim | omega | (revert h; dsimp only; omega))
    exact zFr.tr gty14 (g_Reader_readAt_176  hF) (fun _ h => h) (fun _ h => h)
  · replace hF := zh_f cy7 hF
    by_cases cy8 : (((zTabs.getD 3 ("", "", [])).2.2).getD (Int32.toNatClampNeg (nI ty4.1)) 0) = 9
    · replace hF := zh_t cy8 hF
      obtain ⟨ty15, hty15, hF⟩ := zh_bind hF
      have gty15 := zFr.tr gty4 (fr_Reader_nextToken hty15) (fun r h => by first | exact h | exact h.elim | omega | (revert h; dsimp only; omega)) (fun r h => by first | exact h | exact h.elim | omega | (revert h; dsimp only; omega))
      obtain ⟨ty16, hty16, hF⟩ := zh_bind hF
      have gty16 := zFr.tr gty15 (fr_Reader_readNumber hty16) (fun r h => by first | exact h | exact h.elim | omega | (revert h; dsimp only; omega)) (fun r h => by first | exact h | exact h.elim | omega | (revert h; dsimp only; omega))
      obtain ⟨ty17, hty17, hF⟩ := zh_bind hF
      have gty17 := zFr.tr gty16 (fr_Reader_addComing hty17) (fun r h => by first | exact h | exact h.elim | omega | (revert h; dsimp only; omega)) (fun r h => by first | exact h | exact h.elim | omega | (revert h; dsimp only; omega))
      exact zFr.tr gty17 (g_Reader_readAt_176  hF) (fun _ h => h) (fun _ h => h)
    · replace hF := zh_f cy8 hF
      by_cases cy9 : (((zTabs.getD 3 ("", "", [])).2.2).getD (Int32.toNatClampNeg (nI ty4.1)) 0) = 10
      · replace hF := zh_t cy9 hF
        obtain ⟨ty18, hty18, hF⟩ := zh_bind hF
        have gty18 := zFr.tr gty4 (fr_Reader_nextToken hty18) (fun r h => by first | exact h | exact h.elim | omega | (revert h; dsimp only; omega)) (fun r h => by first | exact h | exact h.elim | omega | (revert h; dsimp only; omega))
        obtain ⟨ty19, hty19, hF⟩ := zh_bind hF
        have gty19 := zFr.tr gty18 (fr_Reader_readNumber hty19) (fun r h => by first | exact h | exact h.elim | omega | (revert h; dsimp only; omega)) (fun r h => by first | exact h | exact h.elim | omega | (revert h; dsimp only; omega))
        obtain ⟨y20, hy20, hF⟩ := zh_let hF
        obtain ⟨ty21, hty21, hF⟩ := zh_bind hF
        have gty21 := zFr.tr gty19 (fr_Reader_addComing hty21) (fun r h => by first | exact h | exact h.elim | omega | (revert h; dsimp only; omega)) (fun r h => by first | exact h | exact h.elim | omega | (revert h; dsimp only; omega))
        exact zFr.tr gty21 (g_Reader_readAt_176  hF) (fun _ h => h) (fun _ h => h)
      · replace hF := zh_f cy9 hF
        obtain ⟨ty22, hty22, hF⟩ := zh_bind hF
        have gty22 := zFr.tr gty4 (fr_Reader_refuse hty22) (fun r h => by first | exact h | exact h.elim | omega | (revert h; dsimp only; omega)) (fun r h => by first | exact h | exact h.elim | omega | (revert h; dsimp only; omega))
        exact zFr.tr gty22 (g_Reader_readAt_176  hF) (fun _ h => h) (fun _ h => h)
theorem g_Reader_readAt_15   {μ : zI} {ν : zJ} {out : (zI × zJ)} (hF : e_Reader_readAt_15    μ ν = some out) : zFr (fun r => (19 ≤ r ∧ r < 19 + 15) ∨ (3 ≤ r ∧ r < 3 + 1)) (fun _ => False) μ ν out.1 out.2 := by
  unfold e_Reader_readAt_15 at hF
  have g0 := zFr.rf (fun r => (19 ≤ r ∧ r < 19 + 15) ∨ (3 ≤ r ∧ r < 3 + 1)) (fun _ => False) μ ν
  rcases Decidable.em ((μ (19 + 9) 0) < 24) with cy1 | cy1
  · replace hF := zh_t cy1 hF
    exact zFr.tr g0 (g_Reader_readAt_32  hF) (fun _ h => h) (fun _ h => h)
  · replace hF := zh_f cy1 hF
    obtain ⟨ty2, hty2, hF⟩ := zh_bind hF
    have gty2 := zFr.tr g0 (fr_Reader_refuse hty2) (fun r h => by first | exact h | exact h.elim | omega | (revert h; dsimp only; omega)) (fun r h => by first | exact h | exact h.elim | omega | (revert h; dsimp only; omega))
    exact zFr.tr gty2 (g_Reader_readAt_32  hF) (fun _ h => h) (fun _ h => h)
theorem g_Reader_readAt_0   {μ : zI} {ν : zJ} {out : (zI × zJ)} (hF : e_Reader_readAt_0    μ ν = some out) : zFr (fun r => (19 ≤ r ∧ r < 19 + 15) ∨ (3 ≤ r ∧ r < 3 + 1)) (fun _ => False) μ ν out.1 out.2 := by
  unfold e_Reader_readAt_0 at hF
  have g0 := zFr.rf (fun r => (19 ≤ r ∧ r < 19 + 15) ∨ (3 ≤ r ∧ r < 3 + 1)) (fun _ => False) μ ν
  rcases (Decidable.em ((μ (19 + 3) 0) = 0)).symm with cy1 | cy1
  · replace hF := zh_f cy1 hF
    exact zFr.tr g0 (g_Reader_readAt_15  hF) (fun _ h => h) (fun _ h => h)
  · replace hF := zh_t cy1 hF
    obtain ⟨ty2, hty2, hF⟩ := zh_bind hF
    have gty2 := zFr.tr g0 (fr_Reader_refuse hty2) (fun r h => by first | exact h | exact h.elim | omega | (revert h; dsimp only; omega)) (fun r h => by first | exact h | exact h.elim | omega | (revert h; dsimp only; omega))
    exact zFr.tr gty2 (g_Reader_readAt_15  hF) (fun _ h => h) (fun _ h => h)
theorem fr_Reader_readAt {μ : zI} {ν : zJ} {out : (zI × zJ)} (hE : E_Reader_readAt  μ ν = some out) : zFr (fun r => (19 ≤ r ∧ r < 19 + 15) ∨ (3 ≤ r ∧ r < 3 + 1)) (fun _ => False) μ ν out.1 out.2 := (g_Reader_readAt_0 hE)
theorem g_Reader_readLine_99  {n2 : Nat} {μ : zI} {ν : zJ} {out : (zI × zJ)} (hF : e_Reader_readLine_99   n2 μ ν = some out) : zFr (fun r => (19 ≤ r ∧ r < 19 + 15) ∨ (3 ≤ r ∧ r < 3 + 1)) (fun _ => False) μ ν out.1 out.2 := by
  unfold e_Reader_readLine_99 at hF
  have g0 := zFr.rf (fun r => (19 ≤ r ∧ r < 19 + 15) ∨ (3 ≤ r ∧ r < 3 + 1)) (fun _ => False) μ ν
  obtain ⟨ty1, hty1, hF⟩ := zh_bind hF
  have gty1 := zFr.tr g0 (fr_Reader_nextToken hty1) (fun r h => by first | exact h | exact h.elim | omega | (revert h; dsimp only; omega)) (fun r h => by first | exact h | exact h.elim | omega | (revert h; dsimp only; omega))
  cases hF
  exact gty1
theorem g_Reader_readLine_86  {n2 : Nat} {μ : zI} {ν : zJ} {out : (zI × zJ)} (hF : e_Reader_readLine_86   n2 μ ν = some out) : zFr (fun r => (19 ≤ r ∧ r < 19 + 15) ∨ (3 ≤ r ∧ r < 3 + 1)) (fun _ => False) μ ν out.1 out.2 := by
  unfold e_Reader_readLine_86 at hF
  have g0 := zFr.rf (fun r => (19 ≤ r ∧ r < 19 + 15) ∨ (3 ≤ r ∧ r < 3 + 1)) (fun _ => False) μ ν
  rcases Decidable.em ((μ 3 4) = 4) with cy1 | cy1
  · replace hF := zh_t cy1 hF
    exact zFr.tr g0 (g_Reader_readLine_99  hF) (fun _ h => h) (fun _ h => h)
  · replace hF := zh_f cy1 hF
    obtain ⟨ty2, hty2, hF⟩ := zh_bind hF
    have gty2 := zFr.tr g0 (fr_Reader_refuse hty2) (fun r h => by first | exact h | exact h.elim | omega | (revert h; dsimp only; omega)) (fun r h => by first | exact h | exact h.elim | omega | (revert h; dsimp only; omega))
    exact zFr.tr gty2 (g_Reader_readLine_99  hF) (fun _ h => h) (fun _ h => h)
theorem g_Reader_readLine_0   {μ : zI} {ν : zJ} {out : (zI × zJ)} (hF : e_Reader_readLine_0    μ ν = some out) : zFr (fun r => (19 ≤ r ∧ r < 19 + 15) ∨ (3 ≤ r ∧ r < 3 + 1)) (fun _ => False) μ ν out.1 out.2 := by
  unfold e_Reader_readLine_0 at hF
  have g0 := zFr.rf (fun r => (19 ≤ r ∧ r < 19 + 15) ∨ (3 ≤ r ∧ r < 3 + 1)) (fun _ => False) μ ν
  obtain ⟨ty1, hty1, hF⟩ := zh_bind hF
  have gty1 := zFr.tr g0 (fr_Reader_wordHere hty1) (fun r h => by first | exact h | exact h.elim | omega | (revert h; dsimp only; omega)) (fun r h => by first | exact h | exact h.elim | omega | (revert h; dsimp only; omega))
  obtain ⟨hy2, hF⟩ := zh_if hF
  obtain ⟨hy3, hF⟩ := zh_if hF
  by_cases cy4 : (((zTabs.getD 3 ("", "", [])).2.2).getD (Int32.toNatClampNeg (nI ty1.1)) 0) = 1
  · replace hF := zh_t cy4 hF
    obtain ⟨ty11, hty11, hF⟩ := zh_bind hF
    have gty11 := zFr.tr gty1 (fr_Reader_readModule hty11) (fun r h => by first | exact h | exact h.elim | omega | (revert h; dsimp only; omega)) (fun r h => by first | exact h | exact h.elim | omega | (revert h; dsimp only; omega))
    exact zFr.tr gty11 (g_Reader_readLine_86  hF) (fun _ h => h) (fun _ h => h)
  · replace hF := zh_f cy4 hF
    by_cases cy5 : (((zTabs.getD 3 ("", "", [])).2.2).getD (Int32.toNatClampNeg (nI ty1.1)) 0) = 2
    · replace hF := zh_t cy5 hF
      obtain ⟨ty12, hty12, hF⟩ := zh_bind hF
      have gty12 := zFr.tr gty1 (fr_Reader_readSettings hty12) (fun r h => by first | exact h | exact h.elim | omega | (revert h; dsimp only; omega)) (fun r h => by first | exact h | exact h.elim | omega | (revert h; dsimp only; omega))
      exact zFr.tr gty12 (g_Reader_readLine_86  hF) (fun _ h => h) (fun _ h => h)
    · replace hF := zh_f cy5 hF
      by_cases cy6 : (((zTabs.getD 3 ("", "", [])).2.2).getD (Int32.toNatClampNeg (nI ty1.1)) 0) = 3
      · replace hF := zh_t cy6 hF
        obtain ⟨ty13, hty13, hF⟩ := zh_bind hF
        have gty13 := zFr.tr gty1 (fr_Reader_readSettings hty13) (fun r h => by first | exact h | exact h.elim | omega | (revert h; dsimp only; omega)) (fun r h => by first | exact h | exact h.elim | omega | (revert h; dsimp only; omega))
        exact zFr.tr gty13 (g_Reader_readLine_86  hF) (fun _ h => h) (fun _ h => h)
      · replace hF := zh_f cy6 hF
        by_cases cy7 : (((zTabs.getD 3 ("", "", [])).2.2).getD (Int32.toNatClampNeg (nI ty1.1)) 0) = 4
        · replace hF := zh_t cy7 hF
          obtain ⟨ty14, hty14, hF⟩ := zh_bind hF
          have gty14 := zFr.tr gty1 (fr_Reader_readSettings hty14) (fun r h => by first | exact h | exact h.elim | omega | (revert h; dsimp only; omega)) (fun r h => by first | exact h | exact h.elim | omega | (revert h; dsimp only; omega))
          exact zFr.tr gty14 (g_Reader_readLine_86  hF) (fun _ h => h) (fun _ h => h)
        · replace hF := zh_f cy7 hF
          by_cases cy8 : (((zTabs.getD 3 ("", "", [])).2.2).getD (Int32.toNatClampNeg (nI ty1.1)) 0) = 5
          · replace hF := zh_t cy8 hF
            obtain ⟨ty15, hty15, hF⟩ := zh_bind hF
            have gty15 := zFr.tr gty1 (fr_Reader_readSettings hty15) (fun r h => by first | exact h | exact h.elim | omega | (revert h; dsimp only; omega)) (fun r h => by first | exact h | exact h.elim | omega | (revert h; dsimp only; omega))
            exact zFr.tr gty15 (g_Reader_readLine_86  hF) (fun _ h => h) (fun _ h => h)
          · replace hF := zh_f cy8 hF
            by_cases cy9 : (((zTabs.getD 3 ("", "", [])).2.2).getD (Int32.toNatClampNeg (nI ty1.1)) 0) = 6
            · replace hF := zh_t cy9 hF
              obtain ⟨ty16, hty16, hF⟩ := zh_bind hF
              have gty16 := zFr.tr gty1 (fr_Reader_readSettings hty16) (fun r h => by first | exact h | exact h.elim | omega | (revert h; dsimp only; omega)) (fun r h => by first | exact h | exact h.elim | omega | (revert h; dsimp only; omega))
              exact zFr.tr gty16 (g_Reader_readLine_86  hF) (fun _ h => h) (fun _ h => h)
            · replace hF := zh_f cy9 hF
              by_cases cy10 : (((zTabs.getD 3 ("", "", [])).2.2).getD (Int32.toNatClampNeg (nI ty1.1)) 0) = 7
              · replace hF := zh_t cy10 hF
                obtain ⟨ty17, hty17, hF⟩ := zh_bind hF
                have gty17 := zFr.tr gty1 (fr_Reader_readAt hty17) (fun r h => by first | exact h | exact h.elim | omega | (revert h; dsimp only; omega)) (fun r h => by first | exact h | exact h.elim | omega | (revert h; dsimp only; omega))
                exact zFr.tr gty17 (g_Reader_readLine_86  hF) (fun _ h => h) (fun _ h => h)
              · replace hF := zh_f cy10 hF
                obtain ⟨ty18, hty18, hF⟩ := zh_bind hF
                have gty18 := zFr.tr gty1 (fr_Reader_refuse hty18) (fun r h => by first | exact h | exact h.elim | omega | (revert h; dsimp only; omega)) (fun r h => by first | exact h | exact h.elim | omega | (revert h; dsimp only; omega))
                exact zFr.tr gty18 (g_Reader_readLine_86  hF) (fun _ h => h) (fun _ h => h)
theorem fr_Reader_readLine {μ : zI} {ν : zJ} {out : (zI × zJ)} (hE : E_Reader_readLine  μ ν = some out) : zFr (fun r => (19 ≤ r ∧ r < 19 + 15) ∨ (3 ≤ r ∧ r < 3 + 1)) (fun _ => False) μ ν out.1 out.2 := (g_Reader_readLine_0 hE)
theorem g_Reader_readInto_88  {x2 : Int32} {x3 : Int32} {x4 : Int32} {s0 : Int32} {μ : zI} {ν : zJ} {out : (Int32 × zI × zJ)} (hF : e_Reader_readInto_88   x2 x3 x4 s0 μ ν = some out) : zFr (fun r => (19 ≤ r ∧ r < 19 + 15) ∨ (3 ≤ r ∧ r < 3 + 1)) (fun r => (19 ≤ r ∧ r < 19 + 15)) μ ν out.2.1 out.2.2 := by
  unfold e_Reader_readInto_88 at hF
  have g0 := zFr.rf (fun r => (19 ≤ r ∧ r < 19 + 15) ∨ (3 ≤ r ∧ r < 3 + 1)) (fun r => (19 ≤ r ∧ r < 19 + 15)) μ ν
  cases hF
  exact g0
theorem g_Reader_readInto_72  {x2 : Int32} {x3 : Int32} {x4 : Int32} {μ : zI} {ν : zJ} {out : (Int32 × zI × zJ)} (hF : e_Reader_readInto_72   x2 x3 x4 μ ν = some out) : zFr (fun r => (19 ≤ r ∧ r < 19 + 15) ∨ (3 ≤ r ∧ r < 3 + 1)) (fun r => (19 ≤ r ∧ r < 19 + 15)) μ ν out.2.1 out.2.2 := by
  unfold e_Reader_readInto_72 at hF
  have g0 := zFr.rf (fun r => (19 ≤ r ∧ r < 19 + 15) ∨ (3 ≤ r ∧ r < 3 + 1)) (fun r => (19 ≤ r ∧ r < 19 + 15)) μ ν
  obtain ⟨ty1, hty1, hF⟩ := zh_bind hF
  have gty1 := zFr.tr g0 (fr_Station_begin hty1) (fun r h => by first | exact h | exact h.elim | omega | (revert h; dsimp only; omega)) (fun r h => by first | exact h | exact h.elim | omega | (revert h; dsimp only; omega))
  rcases (Decidable.em ((ty1.1 3 0) = 0)).symm with cy2 | cy2
  · replace hF := zh_f cy2 hF
    exact zFr.tr gty1 (g_Reader_readInto_88  hF) (fun _ h => h) (fun _ h => h)
  · replace hF := zh_t cy2 hF
    exact zFr.tr gty1 (g_Reader_readInto_88  hF) (fun _ h => h) (fun _ h => h)
theorem g_Reader_readInto_38  {out : (Int32 × zI × zJ)} : ∀ (n : Nat) (x2 : Int32) (x3 : Int32) (x4 : Int32) (μ : zI) (ν : zJ), f_Reader_readInto_38   n x2 x3 x4 μ ν = some out → zFr (fun r => (19 ≤ r ∧ r < 19 + 15) ∨ (3 ≤ r ∧ r < 3 + 1)) (fun r => (19 ≤ r ∧ r < 19 + 15)) μ ν out.2.1 out.2.2 := by
  intro n
  induction n with
  | zero => intro x2 x3 x4 μ ν hF; cases hF
  | succ n ih =>
    intro x2 x3 x4 μ ν hF
    dsimp only [f_Reader_readInto_38] at hF
    have g0 := zFr.rf (fun r => (19 ≤ r ∧ r < 19 + 15) ∨ (3 ≤ r ∧ r < 3 + 1)) (fun r => (19 ≤ r ∧ r < 19 + 15)) μ ν
    rcases Decidable.em (x2 < x4) with cy1 | cy1
    · replace hF := zh_t cy1 hF
      exact zFr.tr g0 (g_Reader_readInto_72  hF) (fun _ h => h) (fun _ h => h)
    · replace hF := zh_f cy1 hF
      rcases Decidable.em ((μ 3 4) = 0) with cy2 | cy2
      · replace hF := zh_t cy2 hF
        exact zFr.tr g0 (g_Reader_readInto_72  hF) (fun _ h => h) (fun _ h => h)
      · replace hF := zh_f cy2 hF
        rcases (Decidable.em ((μ 3 0) = 0)).symm with cy3 | cy3
        · replace hF := zh_f cy3 hF
          exact zFr.tr g0 (g_Reader_readInto_72  hF) (fun _ h => h) (fun _ h => h)
        · replace hF := zh_t cy3 hF
          obtain ⟨ty4, hty4, hF⟩ := zh_bind hF
          have gty4 := zFr.tr g0 (fr_Reader_readLine hty4) (fun r h => by first | exact h | exact h.elim | omega | (revert h; dsimp only; omega)) (fun r h => by first | exact h | exact h.elim | omega | (revert h; dsimp only; omega))
          exact zFr.tr gty4 (ih _ _ _ _ _ hF) (fun _ h => h) (fun _ h => h)
theorem g_Reader_readInto_0  {x2 : Int32} {μ : zI} {ν : zJ} {out : (Int32 × zI × zJ)} (hF : e_Reader_readInto_0   x2 μ ν = some out) : zFr (fun r => (19 ≤ r ∧ r < 19 + 15) ∨ (3 ≤ r ∧ r < 3 + 1)) (fun r => (19 ≤ r ∧ r < 19 + 15)) μ ν out.2.1 out.2.2 := by
  unfold e_Reader_readInto_0 at hF
  have g0 := zFr.rf (fun r => (19 ≤ r ∧ r < 19 + 15) ∨ (3 ≤ r ∧ r < 3 + 1)) (fun r => (19 ≤ r ∧ r < 19 + 15)) μ ν
  obtain ⟨μy1, hy1, hF⟩ := zh_let hF
  have gy1 := zFr.put g0 (r := 3) (by first | omega | (dsimp only; omega)) hy1
  obtain ⟨μy2, hy2, hF⟩ := zh_let hF
  have gy2 := zFr.put gy1 (r := 3) (by first | omega | (dsimp only; omega)) hy2
  obtain ⟨μy3, hy3, hF⟩ := zh_let hF
  have gy3 := zFr.put gy2 (r := 3) (by first | omega | (dsimp only; omega)) hy3
  obtain ⟨μy4, hy4, hF⟩ := zh_let hF
  have gy4 := zFr.put gy3 (r := 3) (by first | omega | (dsimp only; omega)) hy4
  obtain ⟨μy5, hy5, hF⟩ := zh_let hF
  have gy5 := zFr.put gy4 (r := 3) (by first | omega | (dsimp only; omega)) hy5
  obtain ⟨ty6, hty6, hF⟩ := zh_bind hF
  have gty6 := zFr.tr gy5 (fr_Station_renew hty6) (fun r h => by first | exact h | exact h.elim | omega | (revert h; dsimp only; omega)) (fun r h => by first | exact h | exact h.elim | omega | (revert h; dsimp only; omega))
  obtain ⟨ty7, hty7, hF⟩ := zh_bind hF
  have gty7 := zFr.tr gty6 (fr_Reader_nextToken hty7) (fun r h => by first | exact h | exact h.elim | omega | (revert h; dsimp only; omega)) (fun r h => by first | exact h | exact h.elim | omega | (revert h; dsimp only; omega))
  exact zFr.tr gty7 (g_Reader_readInto_38  zFuel _ _ _ _ _ hF) (fun _ h => h) (fun _ h => h)
theorem fr_Reader_readInto {x2 : Int32} {μ : zI} {ν : zJ} {out : (Int32 × zI × zJ)} (hE : E_Reader_readInto x2 μ ν = some out) : zFr (fun r => (19 ≤ r ∧ r < 19 + 15) ∨ (3 ≤ r ∧ r < 3 + 1)) (fun r => (19 ≤ r ∧ r < 19 + 15)) μ ν out.2.1 out.2.2 := (g_Reader_readInto_0 hE)
theorem g_Told_copyFrom_0 {b : Nat} {b2 : Nat}   {μ : zI} {ν : zJ} {out : (zI × zJ)} (hF : e_Told_copyFrom_0 b b2   μ ν = some out) : zFr (fun r => (b ≤ r ∧ r < b + 15)) (fun _ => False) μ ν out.1 out.2 := by
  unfold e_Told_copyFrom_0 at hF
  have g0 := zFr.rf (fun r => (b ≤ r ∧ r < b + 15)) (fun _ => False) μ ν
  obtain ⟨hy1, hF⟩ := zh_if hF
  obtain ⟨hy2, hF⟩ := zh_if hF
  obtain ⟨μy3, hy3, hF⟩ := zh_let hF
  have gy3 := zFr.row g0 (r := (b + 2)) (by first | omega | (dsimp only; omega)) hy3
  cases hF
  exact gy3
theorem fr_Told_copyFrom {b : Nat} {b2 : Nat} {μ : zI} {ν : zJ} {out : (zI × zJ)} (hE : E_Told_copyFrom b b2 μ ν = some out) : zFr (fun r => (b ≤ r ∧ r < b + 15)) (fun _ => False) μ ν out.1 out.2 := (g_Told_copyFrom_0 hE)
theorem g_Panel_copyFrom_0 {b : Nat} {b2 : Nat}   {μ : zI} {ν : zJ} {out : (zI × zJ)} (hF : e_Panel_copyFrom_0 b b2   μ ν = some out) : zFr (fun r => (b ≤ r ∧ r < b + 15)) (fun _ => False) μ ν out.1 out.2 := by
  unfold e_Panel_copyFrom_0 at hF
  have g0 := zFr.rf (fun r => (b ≤ r ∧ r < b + 15)) (fun _ => False) μ ν
  obtain ⟨μy1, hy1, hF⟩ := zh_let hF
  have gy1 := zFr.put g0 (r := (b + 3)) (by first | omega | (dsimp only; omega)) hy1
  obtain ⟨μy2, hy2, hF⟩ := zh_let hF
  have gy2 := zFr.put gy1 (r := (b + 3)) (by first | omega | (dsimp only; omega)) hy2
  obtain ⟨μy3, hy3, hF⟩ := zh_let hF
  have gy3 := zFr.put gy2 (r := (b + 3)) (by first | omega | (dsimp only; omega)) hy3
  obtain ⟨hy4, hF⟩ := zh_if hF
  obtain ⟨hy5, hF⟩ := zh_if hF
  obtain ⟨μy6, hy6, hF⟩ := zh_let hF
  have gy6 := zFr.row gy3 (r := (b + 4)) (by first | omega | (dsimp only; omega)) hy6
  obtain ⟨hy7, hF⟩ := zh_if hF
  obtain ⟨hy8, hF⟩ := zh_if hF
  obtain ⟨μy9, hy9, hF⟩ := zh_let hF
  have gy9 := zFr.row gy6 (r := (b + 5)) (by first | omega | (dsimp only; omega)) hy9
  obtain ⟨hy10, hF⟩ := zh_if hF
  obtain ⟨hy11, hF⟩ := zh_if hF
  obtain ⟨μy12, hy12, hF⟩ := zh_let hF
  have gy12 := zFr.row gy9 (r := (b + 6)) (by first | omega | (dsimp only; omega)) hy12
  obtain ⟨hy13, hF⟩ := zh_if hF
  obtain ⟨hy14, hF⟩ := zh_if hF
  obtain ⟨μy15, hy15, hF⟩ := zh_let hF
  have gy15 := zFr.row gy12 (r := (b + 7)) (by first | omega | (dsimp only; omega)) hy15
  obtain ⟨hy16, hF⟩ := zh_if hF
  obtain ⟨hy17, hF⟩ := zh_if hF
  obtain ⟨μy18, hy18, hF⟩ := zh_let hF
  have gy18 := zFr.row gy15 (r := (b + 8)) (by first | omega | (dsimp only; omega)) hy18
  cases hF
  exact gy18
theorem fr_Panel_copyFrom {b : Nat} {b2 : Nat} {μ : zI} {ν : zJ} {out : (zI × zJ)} (hE : E_Panel_copyFrom b b2 μ ν = some out) : zFr (fun r => (b ≤ r ∧ r < b + 15)) (fun _ => False) μ ν out.1 out.2 := (g_Panel_copyFrom_0 hE)
theorem g_Schedule_copyFrom_0 {b : Nat} {b2 : Nat}   {μ : zI} {ν : zJ} {out : (zI × zJ)} (hF : e_Schedule_copyFrom_0 b b2   μ ν = some out) : zFr (fun r => (b ≤ r ∧ r < b + 15)) (fun _ => False) μ ν out.1 out.2 := by
  unfold e_Schedule_copyFrom_0 at hF
  have g0 := zFr.rf (fun r => (b ≤ r ∧ r < b + 15)) (fun _ => False) μ ν
  obtain ⟨μy1, hy1, hF⟩ := zh_let hF
  have gy1 := zFr.put g0 (r := (b + 9)) (by first | omega | (dsimp only; omega)) hy1
  obtain ⟨μy2, hy2, hF⟩ := zh_let hF
  have gy2 := zFr.put gy1 (r := (b + 9)) (by first | omega | (dsimp only; omega)) hy2
  obtain ⟨hy3, hF⟩ := zh_if hF
  obtain ⟨hy4, hF⟩ := zh_if hF
  obtain ⟨μy5, hy5, hF⟩ := zh_let hF
  have gy5 := zFr.row gy2 (r := (b + 10)) (by first | omega | (dsimp only; omega)) hy5
  cases hF
  exact gy5
theorem fr_Schedule_copyFrom {b : Nat} {b2 : Nat} {μ : zI} {ν : zJ} {out : (zI × zJ)} (hE : E_Schedule_copyFrom b b2 μ ν = some out) : zFr (fun r => (b ≤ r ∧ r < b + 15)) (fun _ => False) μ ν out.1 out.2 := (g_Schedule_copyFrom_0 hE)
theorem g_Follower_copyFrom_0 {b : Nat} {b2 : Nat}   {μ : zI} {ν : zJ} {out : (zI × zJ)} (hF : e_Follower_copyFrom_0 b b2   μ ν = some out) : zFr (fun r => (b ≤ r ∧ r < b + 15)) (fun _ => False) μ ν out.1 out.2 := by
  unfold e_Follower_copyFrom_0 at hF
  have g0 := zFr.rf (fun r => (b ≤ r ∧ r < b + 15)) (fun _ => False) μ ν
  obtain ⟨μy1, hy1, hF⟩ := zh_let hF
  have gy1 := zFr.put g0 (r := (b + 11)) (by first | omega | (dsimp only; omega)) hy1
  obtain ⟨μy2, hy2, hF⟩ := zh_let hF
  have gy2 := zFr.put gy1 (r := (b + 11)) (by first | omega | (dsimp only; omega)) hy2
  obtain ⟨μy3, hy3, hF⟩ := zh_let hF
  have gy3 := zFr.put gy2 (r := (b + 11)) (by first | omega | (dsimp only; omega)) hy3
  obtain ⟨μy4, hy4, hF⟩ := zh_let hF
  have gy4 := zFr.put gy3 (r := (b + 11)) (by first | omega | (dsimp only; omega)) hy4
  obtain ⟨μy5, hy5, hF⟩ := zh_let hF
  have gy5 := zFr.put gy4 (r := (b + 11)) (by first | omega | (dsimp only; omega)) hy5
  obtain ⟨μy6, hy6, hF⟩ := zh_let hF
  have gy6 := zFr.put gy5 (r := (b + 11)) (by first | omega | (dsimp only; omega)) hy6
  obtain ⟨μy7, hy7, hF⟩ := zh_let hF
  have gy7 := zFr.put gy6 (r := (b + 11)) (by first | omega | (dsimp only; omega)) hy7
  obtain ⟨hy8, hF⟩ := zh_if hF
  obtain ⟨μy9, hy9, hF⟩ := zh_let hF
  have gy9 := zFr.put gy7 (r := (b + 11)) (by first | omega | (dsimp only; omega)) hy9
  obtain ⟨hy10, hF⟩ := zh_if hF
  obtain ⟨μy11, hy11, hF⟩ := zh_let hF
  have gy11 := zFr.put gy9 (r := (b + 11)) (by first | omega | (dsimp only; omega)) hy11
  obtain ⟨hy12, hF⟩ := zh_if hF
  obtain ⟨μy13, hy13, hF⟩ := zh_let hF
  have gy13 := zFr.put gy11 (r := (b + 11)) (by first | omega | (dsimp only; omega)) hy13
  obtain ⟨hy14, hF⟩ := zh_if hF
  obtain ⟨μy15, hy15, hF⟩ := zh_let hF
  have gy15 := zFr.put gy13 (r := (b + 11)) (by first | omega | (dsimp only; omega)) hy15
  obtain ⟨μy16, hy16, hF⟩ := zh_let hF
  have gy16 := zFr.put gy15 (r := (b + 11)) (by first | omega | (dsimp only; omega)) hy16
  obtain ⟨μy17, hy17, hF⟩ := zh_let hF
  have gy17 := zFr.put gy16 (r := (b + 11)) (by first | omega | (dsimp only; omega)) hy17
  cases hF
  exact gy17
theorem fr_Follower_copyFrom {b : Nat} {b2 : Nat} {μ : zI} {ν : zJ} {out : (zI × zJ)} (hE : E_Follower_copyFrom b b2 μ ν = some out) : zFr (fun r => (b ≤ r ∧ r < b + 15)) (fun _ => False) μ ν out.1 out.2 := (g_Follower_copyFrom_0 hE)
theorem g_Battery_copyFrom_0 {b : Nat} {b2 : Nat}   {μ : zI} {ν : zJ} {out : (zI × zJ)} (hF : e_Battery_copyFrom_0 b b2   μ ν = some out) : zFr (fun r => (b ≤ r ∧ r < b + 15)) (fun _ => False) μ ν out.1 out.2 := by
  unfold e_Battery_copyFrom_0 at hF
  have g0 := zFr.rf (fun r => (b ≤ r ∧ r < b + 15)) (fun _ => False) μ ν
  obtain ⟨μy1, hy1, hF⟩ := zh_let hF
  have gy1 := zFr.put g0 (r := (b + 12)) (by first | omega | (dsimp only; omega)) hy1
  obtain ⟨μy2, hy2, hF⟩ := zh_let hF
  have gy2 := zFr.put gy1 (r := (b + 12)) (by first | omega | (dsimp only; omega)) hy2
  obtain ⟨μy3, hy3, hF⟩ := zh_let hF
  have gy3 := zFr.put gy2 (r := (b + 12)) (by first | omega | (dsimp only; omega)) hy3
  obtain ⟨μy4, hy4, hF⟩ := zh_let hF
  have gy4 := zFr.put gy3 (r := (b + 12)) (by first | omega | (dsimp only; omega)) hy4
  obtain ⟨μy5, hy5, hF⟩ := zh_let hF
  have gy5 := zFr.put gy4 (r := (b + 12)) (by first | omega | (dsimp only; omega)) hy5
  obtain ⟨μy6, hy6, hF⟩ := zh_let hF
  have gy6 := zFr.put gy5 (r := (b + 12)) (by first | omega | (dsimp only; omega)) hy6
  cases hF
  exact gy6
theorem fr_Battery_copyFrom {b : Nat} {b2 : Nat} {μ : zI} {ν : zJ} {out : (zI × zJ)} (hE : E_Battery_copyFrom b b2 μ ν = some out) : zFr (fun r => (b ≤ r ∧ r < b + 15)) (fun _ => False) μ ν out.1 out.2 := (g_Battery_copyFrom_0 hE)
theorem g_Inverter_copyFrom_0 {b : Nat} {b2 : Nat}   {μ : zI} {ν : zJ} {out : (zI × zJ)} (hF : e_Inverter_copyFrom_0 b b2   μ ν = some out) : zFr (fun r => (b ≤ r ∧ r < b + 15)) (fun _ => False) μ ν out.1 out.2 := by
  unfold e_Inverter_copyFrom_0 at hF
  have g0 := zFr.rf (fun r => (b ≤ r ∧ r < b + 15)) (fun _ => False) μ ν
  obtain ⟨hy1, hF⟩ := zh_if hF
  obtain ⟨μy2, hy2, hF⟩ := zh_let hF
  have gy2 := zFr.put g0 (r := (b + 13)) (by first | omega | (dsimp only; omega)) hy2
  obtain ⟨μy3, hy3, hF⟩ := zh_let hF
  have gy3 := zFr.put gy2 (r := (b + 13)) (by first | omega | (dsimp only; omega)) hy3
  obtain ⟨μy4, hy4, hF⟩ := zh_let hF
  have gy4 := zFr.put gy3 (r := (b + 13)) (by first | omega | (dsimp only; omega)) hy4
  obtain ⟨μy5, hy5, hF⟩ := zh_let hF
  have gy5 := zFr.put gy4 (r := (b + 13)) (by first | omega | (dsimp only; omega)) hy5
  obtain ⟨μy6, hy6, hF⟩ := zh_let hF
  have gy6 := zFr.put gy5 (r := (b + 13)) (by first | omega | (dsimp only; omega)) hy6
  obtain ⟨μy7, hy7, hF⟩ := zh_let hF
  have gy7 := zFr.put gy6 (r := (b + 13)) (by first | omega | (dsimp only; omega)) hy7
  obtain ⟨μy8, hy8, hF⟩ := zh_let hF
  have gy8 := zFr.put gy7 (r := (b + 13)) (by first | omega | (dsimp only; omega)) hy8
  obtain ⟨hy9, hF⟩ := zh_if hF
  obtain ⟨μy10, hy10, hF⟩ := zh_let hF
  have gy10 := zFr.put gy8 (r := (b + 13)) (by first | omega | (dsimp only; omega)) hy10
  cases hF
  exact gy10
theorem fr_Inverter_copyFrom {b : Nat} {b2 : Nat} {μ : zI} {ν : zJ} {out : (zI × zJ)} (hE : E_Inverter_copyFrom b b2 μ ν = some out) : zFr (fun r => (b ≤ r ∧ r < b + 15)) (fun _ => False) μ ν out.1 out.2 := (g_Inverter_copyFrom_0 hE)
theorem g_Station_copyFrom_0 {b : Nat} {b2 : Nat}   {μ : zI} {ν : zJ} {out : (zI × zJ)} (hF : e_Station_copyFrom_0 b b2   μ ν = some out) : zFr (fun r => (b ≤ r ∧ r < b + 15)) (fun r => (b ≤ r ∧ r < b + 15)) μ ν out.1 out.2 := by
  unfold e_Station_copyFrom_0 at hF
  have g0 := zFr.rf (fun r => (b ≤ r ∧ r < b + 15)) (fun r => (b ≤ r ∧ r < b + 15)) μ ν
  obtain ⟨μy1, hy1, hF⟩ := zh_let hF
  have gy1 := zFr.put g0 (r := b) (by first | omega | (dsimp only; omega)) hy1
  obtain ⟨μy2, hy2, hF⟩ := zh_let hF
  have gy2 := zFr.put gy1 (r := b) (by first | omega | (dsimp only; omega)) hy2
  obtain ⟨ty3, hty3, hF⟩ := zh_bind hF
  have gty3 := zFr.tr gy2 (fr_Told_copyFrom hty3) (fun r h => by first | exact h | exact h.elim | omega | (revert h; dsimp only; omega)) (fun r h => by first | exact h | exact h.elim | omega | (revert h; dsimp only; omega))
  obtain ⟨ty4, hty4, hF⟩ := zh_bind hF
  have gty4 := zFr.tr gty3 (fr_Panel_copyFrom hty4) (fun r h => by first | exact h | exact h.elim | omega | (revert h; dsimp only; omega)) (fun r h => by first | exact h | exact h.elim | omega | (revert h; dsimp only; omega))
  obtain ⟨ty5, hty5, hF⟩ := zh_bind hF
  have gty5 := zFr.tr gty4 (fr_Schedule_copyFrom hty5) (fun r h => by first | exact h | exact h.elim | omega | (revert h; dsimp only; omega)) (fun r h => by first | exact h | exact h.elim | omega | (revert h; dsimp only; omega))
  obtain ⟨ty6, hty6, hF⟩ := zh_bind hF
  have gty6 := zFr.tr gty5 (fr_Follower_copyFrom hty6) (fun r h => by first | exact h | exact h.elim | omega | (revert h; dsimp only; omega)) (fun r h => by first | exact h | exact h.elim | omega | (revert h; dsimp only; omega))
  obtain ⟨ty7, hty7, hF⟩ := zh_bind hF
  have gty7 := zFr.tr gty6 (fr_Battery_copyFrom hty7) (fun r h => by first | exact h | exact h.elim | omega | (revert h; dsimp only; omega)) (fun r h => by first | exact h | exact h.elim | omega | (revert h; dsimp only; omega))
  obtain ⟨ty8, hty8, hF⟩ := zh_bind hF
  have gty8 := zFr.tr gty7 (fr_Inverter_copyFrom hty8) (fun r h => by first | exact h | exact h.elim | omega | (revert h; dsimp only; omega)) (fun r h => by first | exact h | exact h.elim | omega | (revert h; dsimp only; omega))
  obtain ⟨hy9, hF⟩ := zh_if hF
  obtain ⟨hy10, hF⟩ := zh_if hF
  obtain ⟨νy11, hy11, hF⟩ := zh_let hF
  have gy11 := zFr.rowl gty8 (r := (b + 14)) (by first | omega | (dsimp only; omega)) hy11
  cases hF
  exact gy11
theorem fr_Station_copyFrom {b : Nat} {b2 : Nat} {μ : zI} {ν : zJ} {out : (zI × zJ)} (hE : E_Station_copyFrom b b2 μ ν = some out) : zFr (fun r => (b ≤ r ∧ r < b + 15)) (fun r => (b ≤ r ∧ r < b + 15)) μ ν out.1 out.2 := (g_Station_copyFrom_0 hE)
theorem g_S_text_0  {x1 : Int32} {μ : zI} {ν : zJ} {out : (Int32 × zI × zJ)} (hF : e_S_text_0   x1 μ ν = some out) : zFr (fun r => (1 ≤ r ∧ r < 1 + 1) ∨ (19 ≤ r ∧ r < 19 + 15) ∨ (3 ≤ r ∧ r < 3 + 1) ∨ (34 ≤ r ∧ r < 34 + 1) ∨ (4 ≤ r ∧ r < 4 + 15)) (fun r => (19 ≤ r ∧ r < 19 + 15) ∨ (4 ≤ r ∧ r < 4 + 15)) μ ν out.2.1 out.2.2 := by
  unfold e_S_text_0 at hF
  have g0 := zFr.rf (fun r => (1 ≤ r ∧ r < 1 + 1) ∨ (19 ≤ r ∧ r < 19 + 15) ∨ (3 ≤ r ∧ r < 3 + 1) ∨ (34 ≤ r ∧ r < 34 + 1) ∨ (4 ≤ r ∧ r < 4 + 15)) (fun r => (19 ≤ r ∧ r < 19 + 15) ∨ (4 ≤ r ∧ r < 4 + 15)) μ ν
  obtain ⟨ty1, hty1, hF⟩ := zh_bind hF
  have gty1 := zFr.tr g0 (fr_S_isWithin hty1) (fun r h => by first | exact h | exact h.elim | omega | (revert h; dsimp only; omega)) (fun r h => by first | exact h | exact h.elim | omega | (revert h; dsimp only; omega))
  rcases (Decidable.em (ty1.1 = 0)).symm with cy2 | cy2
  · replace hF := zh_f cy2 hF
    obtain ⟨ty3, hty3, hF⟩ := zh_bind hF
    have gty3 := zFr.tr gty1 (fr_Reader_readInto hty3) (fun r h => by first | exact h | exact h.elim | omega | (revert h; dsimp only; omega)) (fun r h => by first | exact h | exact h.elim | omega | (revert h; dsimp only; omega))
    obtain ⟨y4, hy4, hF⟩ := zh_let hF
    obtain ⟨μy5, hy5, hF⟩ := zh_let hF
    have gy5 := zFr.put gty3 (r := 1) (by first | omega | (dsimp only; omega)) hy5
    rcases (Decidable.em (y4 = (-1))).symm with cy6 | cy6
    · replace hF := zh_f cy6 hF
      obtain ⟨ty7, hty7, hF⟩ := zh_bind hF
      have gty7 := zFr.tr gy5 (fr_Station_copyFrom hty7) (fun r h => by first | exact h | exact h.elim | omega | (revert h; dsimp only; omega)) (fun r h => by first | exact h | exact h.elim | omega | (revert h; dsimp only; omega))
      obtain ⟨μy8, hy8, hF⟩ := zh_let hF
      have gy8 := zFr.put gty7 (r := 34) (by first | omega | (dsimp only; omega)) hy8
      cases hF
      exact gy8
    · replace hF := zh_t cy6 hF
      cases hF
      exact gy5
  · replace hF := zh_t cy2 hF
    cases hF
    exact gty1
theorem fr_S_text {x1 : Int32} {μ : zI} {ν : zJ} {out : (Int32 × zI × zJ)} (hE : E_S_text x1 μ ν = some out) : zFr (fun r => (1 ≤ r ∧ r < 1 + 1) ∨ (19 ≤ r ∧ r < 19 + 15) ∨ (3 ≤ r ∧ r < 3 + 1) ∨ (34 ≤ r ∧ r < 34 + 1) ∨ (4 ≤ r ∧ r < 4 + 15)) (fun r => (19 ≤ r ∧ r < 19 + 15) ∨ (4 ≤ r ∧ r < 4 + 15)) μ ν out.2.1 out.2.2 := (g_S_text_0 hE)
theorem g_S_fault_0  {x1 : Int32} {μ : zI} {ν : zJ} {out : (Int32 × zI × zJ)} (hF : e_S_fault_0   x1 μ ν = some out) : zFr (fun _ => False) (fun _ => False) μ ν out.2.1 out.2.2 := by
  unfold e_S_fault_0 at hF
  have g0 := zFr.rf (fun _ => False) (fun _ => False) μ ν
  by_cases cy1 : x1 = 0
  · replace hF := zh_t cy1 hF
    cases hF
    exact g0
  · replace hF := zh_f cy1 hF
    by_cases cy2 : x1 = 1
    · replace hF := zh_t cy2 hF
      cases hF
      exact g0
    · replace hF := zh_f cy2 hF
      cases hF
      exact g0
theorem fr_S_fault {x1 : Int32} {μ : zI} {ν : zJ} {out : (Int32 × zI × zJ)} (hE : E_S_fault x1 μ ν = some out) : zFr (fun _ => False) (fun _ => False) μ ν out.2.1 out.2.2 := (g_S_fault_0 hE)
theorem g_S_hasModules_18  {s0 : Int32} {μ : zI} {ν : zJ} {out : (Int32 × zI × zJ)} (hF : e_S_hasModules_18   s0 μ ν = some out) : zFr (fun _ => False) (fun _ => False) μ ν out.2.1 out.2.2 := by
  unfold e_S_hasModules_18 at hF
  have g0 := zFr.rf (fun _ => False) (fun _ => False) μ ν
  obtain ⟨hy1, hF⟩ := zh_if hF
  cases hF
  exact g0
theorem g_S_hasModules_0   {μ : zI} {ν : zJ} {out : (Int32 × zI × zJ)} (hF : e_S_hasModules_0    μ ν = some out) : zFr (fun _ => False) (fun _ => False) μ ν out.2.1 out.2.2 := by
  unfold e_S_hasModules_0 at hF
  have g0 := zFr.rf (fun _ => False) (fun _ => False) μ ν
  rcases Decidable.em ((μ (4 + 3) 0) ≤ 0) with cy1 | cy1
  · replace hF := zh_t cy1 hF
    exact zFr.tr g0 (g_S_hasModules_18  hF) (fun _ h => h) (fun _ h => h)
  · replace hF := zh_f cy1 hF
    exact zFr.tr g0 (g_S_hasModules_18  hF) (fun _ h => h) (fun _ h => h)
theorem fr_S_hasModules {μ : zI} {ν : zJ} {out : (Int32 × zI × zJ)} (hE : E_S_hasModules  μ ν = some out) : zFr (fun _ => False) (fun _ => False) μ ν out.2.1 out.2.2 := (g_S_hasModules_0 hE)
theorem g_Schedule_left_0 {b : Nat}   {μ : zI} {ν : zJ} {out : (Int32 × zI × zJ)} (hF : e_Schedule_left_0 b   μ ν = some out) : zFr (fun _ => False) (fun _ => False) μ ν out.2.1 out.2.2 := by
  unfold e_Schedule_left_0 at hF
  have g0 := zFr.rf (fun _ => False) (fun _ => False) μ ν
  cases hF
  exact g0
theorem fr_Schedule_left {b : Nat} {μ : zI} {ν : zJ} {out : (Int32 × zI × zJ)} (hE : E_Schedule_left b μ ν = some out) : zFr (fun _ => False) (fun _ => False) μ ν out.2.1 out.2.2 := (g_Schedule_left_0 hE)
theorem g_Schedule_get_51 {b : Nat}  {x1 : Int32} {x2 : Int32} {x3 : Int32} {s0 : Int32} {μ : zI} {ν : zJ} {out : (Int32 × zI × zJ)} (hF : e_Schedule_get_51 b  x1 x2 x3 s0 μ ν = some out) : zFr (fun _ => False) (fun _ => False) μ ν out.2.1 out.2.2 := by
  unfold e_Schedule_get_51 at hF
  have g0 := zFr.rf (fun _ => False) (fun _ => False) μ ν
  cases hF
  exact g0
theorem g_Schedule_get_26 {b : Nat}  {x1 : Int32} {x2 : Int32} {s0 : Int32} {μ : zI} {ν : zJ} {out : (Int32 × zI × zJ)} (hF : e_Schedule_get_26 b  x1 x2 s0 μ ν = some out) : zFr (fun _ => False) (fun _ => False) μ ν out.2.1 out.2.2 := by
  unfold e_Schedule_get_26 at hF
  have g0 := zFr.rf (fun _ => False) (fun _ => False) μ ν
  rcases Decidable.em (s0 = 0) with cy1 | cy1
  · replace hF := zh_t cy1 hF
    exact zFr.tr g0 (g_Schedule_get_51  hF) (fun _ h => h) (fun _ h => h)
  · replace hF := zh_f cy1 hF
    obtain ⟨hy2, hF⟩ := zh_if hF
    exact zFr.tr g0 (g_Schedule_get_51  hF) (fun _ h => h) (fun _ h => h)
theorem g_Schedule_get_25 {b : Nat}  {x1 : Int32} {x2 : Int32} {μ : zI} {ν : zJ} {out : (Int32 × zI × zJ)} (hF : e_Schedule_get_25 b  x1 x2 μ ν = some out) : zFr (fun _ => False) (fun _ => False) μ ν out.2.1 out.2.2 := by
  unfold e_Schedule_get_25 at hF
  have g0 := zFr.rf (fun _ => False) (fun _ => False) μ ν
  exact zFr.tr g0 (g_Schedule_get_26  hF) (fun _ h => h) (fun _ h => h)
theorem g_Schedule_get_0 {b : Nat}  {x1 : Int32} {x2 : Int32} {μ : zI} {ν : zJ} {out : (Int32 × zI × zJ)} (hF : e_Schedule_get_0 b  x1 x2 μ ν = some out) : zFr (fun _ => False) (fun _ => False) μ ν out.2.1 out.2.2 := by
  unfold e_Schedule_get_0 at hF
  have g0 := zFr.rf (fun _ => False) (fun _ => False) μ ν
  rcases Decidable.em (x1 < 0) with cy1 | cy1
  · replace hF := zh_t cy1 hF
    exact zFr.tr g0 (g_Schedule_get_25  hF) (fun _ h => h) (fun _ h => h)
  · replace hF := zh_f cy1 hF
    obtain ⟨ty2, hty2, hF⟩ := zh_bind hF
    have gty2 := zFr.tr g0 (fr_Schedule_left hty2) (fun r h => by first | exact h | exact h.elim | omega | (revert h; dsimp only; omega)) (fun r h => by first | exact h | exact h.elim | omega | (revert h; dsimp only; omega))
    rcases Decidable.em (ty2.1 ≤ x1) with cy3 | cy3
    · replace hF := zh_t cy3 hF
      exact zFr.tr gty2 (g_Schedule_get_25  hF) (fun _ h => h) (fun _ h => h)
    · replace hF := zh_f cy3 hF
      rcases Decidable.em (x2 < 0) with cy4 | cy4
      · replace hF := zh_t cy4 hF
        exact zFr.tr gty2 (g_Schedule_get_25  hF) (fun _ h => h) (fun _ h => h)
      · replace hF := zh_f cy4 hF
        rcases Decidable.em (4 ≤ x2) with cy5 | cy5
        · replace hF := zh_t cy5 hF
          exact zFr.tr gty2 (g_Schedule_get_25  hF) (fun _ h => h) (fun _ h => h)
        · replace hF := zh_f cy5 hF
          exact zFr.tr gty2 (g_Schedule_get_26  hF) (fun _ h => h) (fun _ h => h)
theorem fr_Schedule_get {b : Nat} {x1 : Int32} {x2 : Int32} {μ : zI} {ν : zJ} {out : (Int32 × zI × zJ)} (hE : E_Schedule_get b x1 x2 μ ν = some out) : zFr (fun _ => False) (fun _ => False) μ ν out.2.1 out.2.2 := (g_Schedule_get_0 hE)
theorem g_Panel_has_23 {b : Nat}  {x1 : Int32} {s0 : Int32} {μ : zI} {ν : zJ} {out : (Int32 × zI × zJ)} (hF : e_Panel_has_23 b  x1 s0 μ ν = some out) : zFr (fun _ => False) (fun _ => False) μ ν out.2.1 out.2.2 := by
  unfold e_Panel_has_23 at hF
  have g0 := zFr.rf (fun _ => False) (fun _ => False) μ ν
  obtain ⟨hy1, hF⟩ := zh_if hF
  cases hF
  exact g0
theorem g_Panel_has_22 {b : Nat}  {x1 : Int32} {μ : zI} {ν : zJ} {out : (Int32 × zI × zJ)} (hF : e_Panel_has_22 b  x1 μ ν = some out) : zFr (fun _ => False) (fun _ => False) μ ν out.2.1 out.2.2 := by
  unfold e_Panel_has_22 at hF
  have g0 := zFr.rf (fun _ => False) (fun _ => False) μ ν
  exact zFr.tr g0 (g_Panel_has_23  hF) (fun _ h => h) (fun _ h => h)
theorem g_Panel_has_0 {b : Nat}  {x1 : Int32} {μ : zI} {ν : zJ} {out : (Int32 × zI × zJ)} (hF : e_Panel_has_0 b  x1 μ ν = some out) : zFr (fun _ => False) (fun _ => False) μ ν out.2.1 out.2.2 := by
  unfold e_Panel_has_0 at hF
  have g0 := zFr.rf (fun _ => False) (fun _ => False) μ ν
  rcases Decidable.em (x1 < 0) with cy1 | cy1
  · replace hF := zh_t cy1 hF
    exact zFr.tr g0 (g_Panel_has_22  hF) (fun _ h => h) (fun _ h => h)
  · replace hF := zh_f cy1 hF
    rcases Decidable.em ((μ (b + 3) 0) ≤ x1) with cy2 | cy2
    · replace hF := zh_t cy2 hF
      exact zFr.tr g0 (g_Panel_has_22  hF) (fun _ h => h) (fun _ h => h)
    · replace hF := zh_f cy2 hF
      rcases Decidable.em (6 ≤ x1) with cy3 | cy3
      · replace hF := zh_t cy3 hF
        exact zFr.tr g0 (g_Panel_has_22  hF) (fun _ h => h) (fun _ h => h)
      · replace hF := zh_f cy3 hF
        exact zFr.tr g0 (g_Panel_has_23  hF) (fun _ h => h) (fun _ h => h)
theorem fr_Panel_has {b : Nat} {x1 : Int32} {μ : zI} {ν : zJ} {out : (Int32 × zI × zJ)} (hE : E_Panel_has b x1 μ ν = some out) : zFr (fun _ => False) (fun _ => False) μ ν out.2.1 out.2.2 := (g_Panel_has_0 hE)
theorem g_Panel_setLight_32 {b : Nat}  {x1 : Int32} {x2 : Int32} {μ : zI} {ν : zJ} {out : (zI × zJ)} (hF : e_Panel_setLight_32 b  x1 x2 μ ν = some out) : zFr (fun r => (b ≤ r ∧ r < b + 15)) (fun _ => False) μ ν out.1 out.2 := by
  unfold e_Panel_setLight_32 at hF
  have g0 := zFr.rf (fun r => (b ≤ r ∧ r < b + 15)) (fun _ => False) μ ν
  cases hF
  exact g0
theorem g_Panel_setLight_0 {b : Nat}  {x1 : Int32} {x2 : Int32} {μ : zI} {ν : zJ} {out : (zI × zJ)} (hF : e_Panel_setLight_0 b  x1 x2 μ ν = some out) : zFr (fun r => (b ≤ r ∧ r < b + 15)) (fun _ => False) μ ν out.1 out.2 := by
  unfold e_Panel_setLight_0 at hF
  have g0 := zFr.rf (fun r => (b ≤ r ∧ r < b + 15)) (fun _ => False) μ ν
  obtain ⟨ty1, hty1, hF⟩ := zh_bind hF
  have gty1 := zFr.tr g0 (fr_Panel_has hty1) (fun r h => by first | exact h | exact h.elim | omega | (revert h; dsimp only; omega)) (fun r h => by first | exact h | exact h.elim | omega | (revert h; dsimp only; omega))
  rcases Decidable.em (ty1.1 = 0) with cy2 | cy2
  · replace hF := zh_t cy2 hF
    exact zFr.tr gty1 (g_Panel_setLight_32  hF) (fun _ h => h) (fun _ h => h)
  · replace hF := zh_f cy2 hF
    obtain ⟨hy3, hF⟩ := zh_if hF
    obtain ⟨μy4, hy4, hF⟩ := zh_let hF
    have gy4 := zFr.put gty1 (r := (b + 6)) (by first | omega | (dsimp only; omega)) hy4
    obtain ⟨hy5, hF⟩ := zh_if hF
    obtain ⟨hy6, hF⟩ := zh_if hF
    obtain ⟨μy7, hy7, hF⟩ := zh_let hF
    have gy7 := zFr.put gy4 (r := (b + 7)) (by first | omega | (dsimp only; omega)) hy7
    exact zFr.tr gy7 (g_Panel_setLight_32  hF) (fun _ h => h) (fun _ h => h)
theorem fr_Panel_setLight {b : Nat} {x1 : Int32} {x2 : Int32} {μ : zI} {ν : zJ} {out : (zI × zJ)} (hE : E_Panel_setLight b x1 x2 μ ν = some out) : zFr (fun r => (b ≤ r ∧ r < b + 15)) (fun _ => False) μ ν out.1 out.2 := (g_Panel_setLight_0 hE)
theorem g_Schedule_passNext_17 {b : Nat}   {μ : zI} {ν : zJ} {out : (zI × zJ)} (hF : e_Schedule_passNext_17 b   μ ν = some out) : zFr (fun r => (b ≤ r ∧ r < b + 15)) (fun _ => False) μ ν out.1 out.2 := by
  unfold e_Schedule_passNext_17 at hF
  have g0 := zFr.rf (fun r => (b ≤ r ∧ r < b + 15)) (fun _ => False) μ ν
  cases hF
  exact g0
theorem g_Schedule_passNext_0 {b : Nat}   {μ : zI} {ν : zJ} {out : (zI × zJ)} (hF : e_Schedule_passNext_0 b   μ ν = some out) : zFr (fun r => (b ≤ r ∧ r < b + 15)) (fun _ => False) μ ν out.1 out.2 := by
  unfold e_Schedule_passNext_0 at hF
  have g0 := zFr.rf (fun r => (b ≤ r ∧ r < b + 15)) (fun _ => False) μ ν
  obtain ⟨ty1, hty1, hF⟩ := zh_bind hF
  have gty1 := zFr.tr g0 (fr_Schedule_left hty1) (fun r h => by first | exact h | exact h.elim | omega | (revert h; dsimp only; omega)) (fun r h => by first | exact h | exact h.elim | omega | (revert h; dsimp only; omega))
  rcases Decidable.em (ty1.1 ≤ 0) with cy2 | cy2
  · replace hF := zh_t cy2 hF
    exact zFr.tr gty1 (g_Schedule_passNext_17  hF) (fun _ h => h) (fun _ h => h)
  · replace hF := zh_f cy2 hF
    obtain ⟨μy3, hy3, hF⟩ := zh_let hF
    have gy3 := zFr.put gty1 (r := (b + 9)) (by first | omega | (dsimp only; omega)) hy3
    exact zFr.tr gy3 (g_Schedule_passNext_17  hF) (fun _ h => h) (fun _ h => h)
theorem fr_Schedule_passNext {b : Nat} {μ : zI} {ν : zJ} {out : (zI × zJ)} (hE : E_Schedule_passNext b μ ν = some out) : zFr (fun r => (b ≤ r ∧ r < b + 15)) (fun _ => False) μ ν out.1 out.2 := (g_Schedule_passNext_0 hE)
theorem g_Station_doWhatComes_125 {b : Nat} {r4 : Int32 → Int32 → zI → zJ → Option (zI × zJ)} {x1 : Int32} {x2 : Int32} {x3 : Int32} {μ : zI} {ν : zJ} {out : (zI × zJ)} (hr4 : ∀ (x1 : Int32) (x2 : Int32) (μ : zI) (ν : zJ), r4 x1 x2 μ ν = some out → zFr (fun r => (b ≤ r ∧ r < b + 15)) (fun _ => False) μ ν out.1 out.2) (hF : e_Station_doWhatComes_125 b r4 x1 x2 x3 μ ν = some out) : zFr (fun r => (b ≤ r ∧ r < b + 15)) (fun _ => False) μ ν out.1 out.2 := by
  unfold e_Station_doWhatComes_125 at hF
  have g0 := zFr.rf (fun r => (b ≤ r ∧ r < b + 15)) (fun _ => False) μ ν
  obtain ⟨ty1, hty1, hF⟩ := zh_bind hF
  have gty1 := zFr.tr g0 (fr_Schedule_passNext hty1) (fun r h => by first | exact h | exact h.elim | omega | (revert h; dsimp only; omega)) (fun r h => by first | exact h | exact h.elim | omega | (revert h; dsimp only; omega))
  exact zFr.tr gty1 (hr4 _ _ _ _ hF) (fun _ h => h) (fun _ h => h)
theorem g_Station_doWhatComes_149 {b : Nat}  {x1 : Int32} {x2 : Int32} {μ : zI} {ν : zJ} {out : (zI × zJ)} (hF : e_Station_doWhatComes_149 b  x1 x2 μ ν = some out) : zFr (fun r => (b ≤ r ∧ r < b + 15)) (fun _ => False) μ ν out.1 out.2 := by
  unfold e_Station_doWhatComes_149 at hF
  have g0 := zFr.rf (fun r => (b ≤ r ∧ r < b + 15)) (fun _ => False) μ ν
  cases hF
  exact g0
theorem g_Station_doWhatComes_138 {b : Nat}  {x1 : Int32} {x2 : Int32} {μ : zI} {ν : zJ} {out : (zI × zJ)} (hF : e_Station_doWhatComes_138 b  x1 x2 μ ν = some out) : zFr (fun r => (b ≤ r ∧ r < b + 15)) (fun _ => False) μ ν out.1 out.2 := by
  unfold e_Station_doWhatComes_138 at hF
  have g0 := zFr.rf (fun r => (b ≤ r ∧ r < b + 15)) (fun _ => False) μ ν
  rcases Decidable.em (x1 = 0) with cy1 | cy1
  · replace hF := zh_t cy1 hF
    exact zFr.tr g0 (g_Station_doWhatComes_149  hF) (fun _ h => h) (fun _ h => h)
  · replace hF := zh_f cy1 hF
    obtain ⟨ty2, hty2, hF⟩ := zh_bind hF
    have gty2 := zFr.tr g0 (fr_Panel_reckon hty2) (fun r h => by first | exact h | exact h.elim | omega | (revert h; dsimp only; omega)) (fun r h => by first | exact h | exact h.elim | omega | (revert h; dsimp only; omega))
    exact zFr.tr gty2 (g_Station_doWhatComes_149  hF) (fun _ h => h) (fun _ h => h)
theorem g_Station_doWhatComes_4 {b : Nat}  {out : (zI × zJ)} : ∀ (n : Nat) (x1 : Int32) (x2 : Int32) (μ : zI) (ν : zJ), f_Station_doWhatComes_4 b  n x1 x2 μ ν = some out → zFr (fun r => (b ≤ r ∧ r < b + 15)) (fun _ => False) μ ν out.1 out.2 := by
  intro n
  induction n with
  | zero => intro x1 x2 μ ν hF; cases hF
  | succ n ih =>
    intro x1 x2 μ ν hF
    dsimp only [f_Station_doWhatComes_4] at hF
    have g0 := zFr.rf (fun r => (b ≤ r ∧ r < b + 15)) (fun _ => False) μ ν
    rcases Decidable.em (24 ≤ x2) with cy1 | cy1
    · replace hF := zh_t cy1 hF
      exact zFr.tr g0 (g_Station_doWhatComes_138  hF) (fun _ h => h) (fun _ h => h)
    · replace hF := zh_f cy1 hF
      obtain ⟨ty2, hty2, hF⟩ := zh_bind hF
      have gty2 := zFr.tr g0 (fr_Schedule_left hty2) (fun r h => by first | exact h | exact h.elim | omega | (revert h; dsimp only; omega)) (fun r h => by first | exact h | exact h.elim | omega | (revert h; dsimp only; omega))
      rcases Decidable.em (ty2.1 ≤ 0) with cy3 | cy3
      · replace hF := zh_t cy3 hF
        exact zFr.tr gty2 (g_Station_doWhatComes_138  hF) (fun _ h => h) (fun _ h => h)
      · replace hF := zh_f cy3 hF
        obtain ⟨ty4, hty4, hF⟩ := zh_bind hF
        have gty4 := zFr.tr gty2 (fr_Schedule_get hty4) (fun r h => by first | exact h | exact h.elim | omega | (revert h; dsimp only; omega)) (fun r h => by first | exact h | exact h.elim | omega | (revert h; dsimp only; omega))
        rcases Decidable.em (ty4.1 ≤ (ty4.2.1 b 0)) with cy5 | cy5
        · replace hF := zh_t cy5 hF
          obtain ⟨ty6, hty6, hF⟩ := zh_bind hF
          have gty6 := zFr.tr gty4 (fr_Schedule_get hty6) (fun r h => by first | exact h | exact h.elim | omega | (revert h; dsimp only; omega)) (fun r h => by first | exact h | exact h.elim | omega | (revert h; dsimp only; omega))
          obtain ⟨y7, hy7, hF⟩ := zh_let hF
          obtain ⟨ty8, hty8, hF⟩ := zh_bind hF
          have gty8 := zFr.tr gty6 (fr_Schedule_get hty8) (fun r h => by first | exact h | exact h.elim | omega | (revert h; dsimp only; omega)) (fun r h => by first | exact h | exact h.elim | omega | (revert h; dsimp only; omega))
          by_cases cy9 : ty8.1 = 0
          · replace hF := zh_t cy9 hF
            obtain ⟨ty11, hty11, hF⟩ := zh_bind hF
            have gty11 := zFr.tr gty8 (fr_Schedule_get hty11) (fun r h => by first | exact h | exact h.elim | omega | (revert h; dsimp only; omega)) (fun r h => by first | exact h | exact h.elim | omega | (revert h; dsimp only; omega))
            obtain ⟨ty12, hty12, hF⟩ := zh_bind hF
            have gty12 := zFr.tr gty11 (fr_Panel_setLight hty12) (fun r h => by first | exact h | exact h.elim | omega | (revert h; dsimp only; omega)) (fun r h => by first | exact h | exact h.elim | omega | (revert h; dsimp only; omega))
            exact zFr.tr gty12 (g_Station_doWhatComes_125 (fun a0 a1 a2 a3 => ih a0 a1 a2 a3) hF) (fun _ h => h) (fun _ h => h)
          · replace hF := zh_f cy9 hF
            by_cases cy10 : ty8.1 = 1
            · replace hF := zh_t cy10 hF
              obtain ⟨μy13, hy13, hF⟩ := zh_let hF
              have gy13 := zFr.put gty8 (r := (b + 13)) (by first | omega | (dsimp only; omega)) hy13
              exact zFr.tr gy13 (g_Station_doWhatComes_125 (fun a0 a1 a2 a3 => ih a0 a1 a2 a3) hF) (fun _ h => h) (fun _ h => h)
            · replace hF := zh_f cy10 hF
              obtain ⟨μy14, hy14, hF⟩ := zh_let hF
              have gy14 := zFr.put gty8 (r := (b + 13)) (by first | omega | (dsimp only; omega)) hy14
              exact zFr.tr gy14 (g_Station_doWhatComes_125 (fun a0 a1 a2 a3 => ih a0 a1 a2 a3) hF) (fun _ h => h) (fun _ h => h)
        · replace hF := zh_f cy5 hF
          exact zFr.tr gty4 (g_Station_doWhatComes_138  hF) (fun _ h => h) (fun _ h => h)
theorem g_Station_doWhatComes_0 {b : Nat}   {μ : zI} {ν : zJ} {out : (zI × zJ)} (hF : e_Station_doWhatComes_0 b   μ ν = some out) : zFr (fun r => (b ≤ r ∧ r < b + 15)) (fun _ => False) μ ν out.1 out.2 := by
  unfold e_Station_doWhatComes_0 at hF
  have g0 := zFr.rf (fun r => (b ≤ r ∧ r < b + 15)) (fun _ => False) μ ν
  exact zFr.tr g0 (g_Station_doWhatComes_4  zFuel _ _ _ _ hF) (fun _ h => h) (fun _ h => h)
theorem fr_Station_doWhatComes {b : Nat} {μ : zI} {ν : zJ} {out : (zI × zJ)} (hE : E_Station_doWhatComes b μ ν = some out) : zFr (fun r => (b ≤ r ∧ r < b + 15)) (fun _ => False) μ ν out.1 out.2 := (g_Station_doWhatComes_0 hE)
theorem g_Panel_powerAt_21 {b : Nat}  {x1 : Int32} {s0 : Int32} {μ : zI} {ν : zJ} {out : (Int32 × zI × zJ)} (hF : e_Panel_powerAt_21 b  x1 s0 μ ν = some out) : zFr (fun _ => False) (fun _ => False) μ ν out.2.1 out.2.2 := by
  unfold e_Panel_powerAt_21 at hF
  have g0 := zFr.rf (fun _ => False) (fun _ => False) μ ν
  cases hF
  exact g0
theorem g_Panel_powerAt_20 {b : Nat}  {x1 : Int32} {μ : zI} {ν : zJ} {out : (Int32 × zI × zJ)} (hF : e_Panel_powerAt_20 b  x1 μ ν = some out) : zFr (fun _ => False) (fun _ => False) μ ν out.2.1 out.2.2 := by
  unfold e_Panel_powerAt_20 at hF
  have g0 := zFr.rf (fun _ => False) (fun _ => False) μ ν
  exact zFr.tr g0 (g_Panel_powerAt_21  hF) (fun _ h => h) (fun _ h => h)
theorem g_Panel_powerAt_0 {b : Nat}  {x1 : Int32} {μ : zI} {ν : zJ} {out : (Int32 × zI × zJ)} (hF : e_Panel_powerAt_0 b  x1 μ ν = some out) : zFr (fun _ => False) (fun _ => False) μ ν out.2.1 out.2.2 := by
  unfold e_Panel_powerAt_0 at hF
  have g0 := zFr.rf (fun _ => False) (fun _ => False) μ ν
  rcases Decidable.em (x1 < 0) with cy1 | cy1
  · replace hF := zh_t cy1 hF
    exact zFr.tr g0 (g_Panel_powerAt_20  hF) (fun _ h => h) (fun _ h => h)
  · replace hF := zh_f cy1 hF
    rcases Decidable.em (1000 ≤ x1) with cy2 | cy2
    · replace hF := zh_t cy2 hF
      exact zFr.tr g0 (g_Panel_powerAt_20  hF) (fun _ h => h) (fun _ h => h)
    · replace hF := zh_f cy2 hF
      obtain ⟨hy3, hF⟩ := zh_if hF
      exact zFr.tr g0 (g_Panel_powerAt_21  hF) (fun _ h => h) (fun _ h => h)
theorem fr_Panel_powerAt {b : Nat} {x1 : Int32} {μ : zI} {ν : zJ} {out : (Int32 × zI × zJ)} (hE : E_Panel_powerAt b x1 μ ν = some out) : zFr (fun _ => False) (fun _ => False) μ ν out.2.1 out.2.2 := (g_Panel_powerAt_0 hE)
theorem g_Follower_moveTo_0 {b : Nat}  {x1 : Int32} {μ : zI} {ν : zJ} {out : (zI × zJ)} (hF : e_Follower_moveTo_0 b  x1 μ ν = some out) : zFr (fun r => (b ≤ r ∧ r < b + 15)) (fun _ => False) μ ν out.1 out.2 := by
  unfold e_Follower_moveTo_0 at hF
  have g0 := zFr.rf (fun r => (b ≤ r ∧ r < b + 15)) (fun _ => False) μ ν
  obtain ⟨μy1, hy1, hF⟩ := zh_let hF
  have gy1 := zFr.put g0 (r := (b + 11)) (by first | omega | (dsimp only; omega)) hy1
  obtain ⟨ty2, hty2, hF⟩ := zh_bind hF
  have gty2 := zFr.tr gy1 (fr_Panel_powerAt hty2) (fun r h => by first | exact h | exact h.elim | omega | (revert h; dsimp only; omega)) (fun r h => by first | exact h | exact h.elim | omega | (revert h; dsimp only; omega))
  obtain ⟨μy3, hy3, hF⟩ := zh_let hF
  have gy3 := zFr.put gty2 (r := (b + 11)) (by first | omega | (dsimp only; omega)) hy3
  cases hF
  exact gy3
theorem fr_Follower_moveTo {b : Nat} {x1 : Int32} {μ : zI} {ν : zJ} {out : (zI × zJ)} (hE : E_Follower_moveTo b x1 μ ν = some out) : zFr (fun r => (b ≤ r ∧ r < b + 15)) (fun _ => False) μ ν out.1 out.2 := (g_Follower_moveTo_0 hE)
theorem g_Follower_endScan_0 {b : Nat}   {μ : zI} {ν : zJ} {out : (zI × zJ)} (hF : e_Follower_endScan_0 b   μ ν = some out) : zFr (fun r => (b ≤ r ∧ r < b + 15)) (fun _ => False) μ ν out.1 out.2 := by
  unfold e_Follower_endScan_0 at hF
  have g0 := zFr.rf (fun r => (b ≤ r ∧ r < b + 15)) (fun _ => False) μ ν
  obtain ⟨ty1, hty1, hF⟩ := zh_bind hF
  have gty1 := zFr.tr g0 (fr_Follower_moveTo hty1) (fun r h => by first | exact h | exact h.elim | omega | (revert h; dsimp only; omega)) (fun r h => by first | exact h | exact h.elim | omega | (revert h; dsimp only; omega))
  obtain ⟨ty2, hty2, hF⟩ := zh_bind hF
  have gty2 := zFr.tr gty1 (fr_Told_get hty2) (fun r h => by first | exact h | exact h.elim | omega | (revert h; dsimp only; omega)) (fun r h => by first | exact h | exact h.elim | omega | (revert h; dsimp only; omega))
  obtain ⟨μy3, hy3, hF⟩ := zh_let hF
  have gy3 := zFr.put gty2 (r := (b + 11)) (by first | omega | (dsimp only; omega)) hy3
  obtain ⟨μy4, hy4, hF⟩ := zh_let hF
  have gy4 := zFr.put gy3 (r := (b + 11)) (by first | omega | (dsimp only; omega)) hy4
  obtain ⟨μy5, hy5, hF⟩ := zh_let hF
  have gy5 := zFr.put gy4 (r := (b + 11)) (by first | omega | (dsimp only; omega)) hy5
  obtain ⟨μy6, hy6, hF⟩ := zh_let hF
  have gy6 := zFr.put gy5 (r := (b + 11)) (by first | omega | (dsimp only; omega)) hy6
  obtain ⟨μy7, hy7, hF⟩ := zh_let hF
  have gy7 := zFr.put gy6 (r := (b + 11)) (by first | omega | (dsimp only; omega)) hy7
  obtain ⟨μy8, hy8, hF⟩ := zh_let hF
  have gy8 := zFr.put gy7 (r := (b + 11)) (by first | omega | (dsimp only; omega)) hy8
  obtain ⟨μy9, hy9, hF⟩ := zh_let hF
  have gy9 := zFr.put gy8 (r := (b + 11)) (by first | omega | (dsimp only; omega)) hy9
  cases hF
  exact gy9
theorem fr_Follower_endScan {b : Nat} {μ : zI} {ν : zJ} {out : (zI × zJ)} (hE : E_Follower_endScan b μ ν = some out) : zFr (fun r => (b ≤ r ∧ r < b + 15)) (fun _ => False) μ ν out.1 out.2 := (g_Follower_endScan_0 hE)
theorem g_Follower_scanOn_87 {b : Nat}  {x3 : Int32} {μ : zI} {ν : zJ} {out : (zI × zJ)} (hF : e_Follower_scanOn_87 b  x3 μ ν = some out) : zFr (fun r => (b ≤ r ∧ r < b + 15)) (fun _ => False) μ ν out.1 out.2 := by
  unfold e_Follower_scanOn_87 at hF
  have g0 := zFr.rf (fun r => (b ≤ r ∧ r < b + 15)) (fun _ => False) μ ν
  obtain ⟨μy1, hy1, hF⟩ := zh_let hF
  have gy1 := zFr.put g0 (r := (b + 11)) (by first | omega | (dsimp only; omega)) hy1
  cases hF
  exact gy1
theorem g_Follower_scanOn_71 {b : Nat}  {x3 : Int32} {μ : zI} {ν : zJ} {out : (zI × zJ)} (hF : e_Follower_scanOn_71 b  x3 μ ν = some out) : zFr (fun r => (b ≤ r ∧ r < b + 15)) (fun _ => False) μ ν out.1 out.2 := by
  unfold e_Follower_scanOn_71 at hF
  have g0 := zFr.rf (fun r => (b ≤ r ∧ r < b + 15)) (fun _ => False) μ ν
  obtain ⟨μy1, hy1, hF⟩ := zh_let hF
  have gy1 := zFr.put g0 (r := (b + 11)) (by first | omega | (dsimp only; omega)) hy1
  obtain ⟨μy2, hy2, hF⟩ := zh_let hF
  have gy2 := zFr.put gy1 (r := (b + 11)) (by first | omega | (dsimp only; omega)) hy2
  exact zFr.tr gy2 (g_Follower_scanOn_87  hF) (fun _ h => h) (fun _ h => h)
theorem g_Follower_scanOn_32 {b : Nat}  {s0 : Int32} {μ : zI} {ν : zJ} {out : (zI × zJ)} (hF : e_Follower_scanOn_32 b  s0 μ ν = some out) : zFr (fun r => (b ≤ r ∧ r < b + 15)) (fun _ => False) μ ν out.1 out.2 := by
  unfold e_Follower_scanOn_32 at hF
  have g0 := zFr.rf (fun r => (b ≤ r ∧ r < b + 15)) (fun _ => False) μ ν
  rcases Decidable.em (s0 ≤ 999) with cy1 | cy1
  · replace hF := zh_t cy1 hF
    obtain ⟨ty2, hty2, hF⟩ := zh_bind hF
    have gty2 := zFr.tr g0 (fr_Follower_moveTo hty2) (fun r h => by first | exact h | exact h.elim | omega | (revert h; dsimp only; omega)) (fun r h => by first | exact h | exact h.elim | omega | (revert h; dsimp only; omega))
    rcases Decidable.em ((ty2.1 (b + 11) 10) = 0) with cy3 | cy3
    · replace hF := zh_t cy3 hF
      exact zFr.tr gty2 (g_Follower_scanOn_71  hF) (fun _ h => h) (fun _ h => h)
    · replace hF := zh_f cy3 hF
      rcases Decidable.em ((ty2.1 (b + 11) 6) ≤ (ty2.1 (b + 11) 12)) with cy4 | cy4
      · replace hF := zh_t cy4 hF
        exact zFr.tr gty2 (g_Follower_scanOn_87  hF) (fun _ h => h) (fun _ h => h)
      · replace hF := zh_f cy4 hF
        exact zFr.tr gty2 (g_Follower_scanOn_71  hF) (fun _ h => h) (fun _ h => h)
  · replace hF := zh_f cy1 hF
    obtain ⟨ty5, hty5, hF⟩ := zh_bind hF
    have gty5 := zFr.tr g0 (fr_Follower_endScan hty5) (fun r h => by first | exact h | exact h.elim | omega | (revert h; dsimp only; omega)) (fun r h => by first | exact h | exact h.elim | omega | (revert h; dsimp only; omega))
    cases hF
    exact gty5
theorem g_Follower_scanOn_0 {b : Nat}   {μ : zI} {ν : zJ} {out : (zI × zJ)} (hF : e_Follower_scanOn_0 b   μ ν = some out) : zFr (fun r => (b ≤ r ∧ r < b + 15)) (fun _ => False) μ ν out.1 out.2 := by
  unfold e_Follower_scanOn_0 at hF
  have g0 := zFr.rf (fun r => (b ≤ r ∧ r < b + 15)) (fun _ => False) μ ν
  obtain ⟨μy1, hy1, hF⟩ := zh_let hF
  have gy1 := zFr.put g0 (r := (b + 11)) (by first | omega | (dsimp only; omega)) hy1
  obtain ⟨μy2, hy2, hF⟩ := zh_let hF
  have gy2 := zFr.put gy1 (r := (b + 11)) (by first | omega | (dsimp only; omega)) hy2
  rcases Decidable.em ((μy2 (b + 11) 10) = 0) with cy3 | cy3
  · replace hF := zh_t cy3 hF
    exact zFr.tr gy2 (g_Follower_scanOn_32  hF) (fun _ h => h) (fun _ h => h)
  · replace hF := zh_f cy3 hF
    obtain ⟨ty4, hty4, hF⟩ := zh_bind hF
    have gty4 := zFr.tr gy2 (fr_Told_get hty4) (fun r h => by first | exact h | exact h.elim | omega | (revert h; dsimp only; omega)) (fun r h => by first | exact h | exact h.elim | omega | (revert h; dsimp only; omega))
    exact zFr.tr gty4 (g_Follower_scanOn_32  hF) (fun _ h => h) (fun _ h => h)
theorem fr_Follower_scanOn {b : Nat} {μ : zI} {ν : zJ} {out : (zI × zJ)} (hE : E_Follower_scanOn b μ ν = some out) : zFr (fun r => (b ≤ r ∧ r < b + 15)) (fun _ => False) μ ν out.1 out.2 := (g_Follower_scanOn_0 hE)
theorem g_Panel_pointOfShare_0 {b : Nat}  {x1 : Int32} {μ : zI} {ν : zJ} {out : (Int32 × zI × zJ)} (hF : e_Panel_pointOfShare_0 b  x1 μ ν = some out) : zFr (fun _ => False) (fun _ => False) μ ν out.2.1 out.2.2 := by
  unfold e_Panel_pointOfShare_0 at hF
  have g0 := zFr.rf (fun _ => False) (fun _ => False) μ ν
  obtain ⟨ty1, hty1, hF⟩ := zh_bind hF
  have gty1 := zFr.tr g0 (fr_Panel_greatestLit hty1) (fun r h => by first | exact h | exact h.elim | omega | (revert h; dsimp only; omega)) (fun r h => by first | exact h | exact h.elim | omega | (revert h; dsimp only; omega))
  cases hF
  exact gty1
theorem fr_Panel_pointOfShare {b : Nat} {x1 : Int32} {μ : zI} {ν : zJ} {out : (Int32 × zI × zJ)} (hE : E_Panel_pointOfShare b x1 μ ν = some out) : zFr (fun _ => False) (fun _ => False) μ ν out.2.1 out.2.2 := (g_Panel_pointOfShare_0 hE)
theorem g_Panel_steeperWay_47 {b : Nat}  {x1 : Int32} {x2 : Int32} {x3 : Int32} {x4 : Int32} {s0 : Int32} {μ : zI} {ν : zJ} {out : (Int32 × zI × zJ)} (hF : e_Panel_steeperWay_47 b  x1 x2 x3 x4 s0 μ ν = some out) : zFr (fun _ => False) (fun _ => False) μ ν out.2.1 out.2.2 := by
  unfold e_Panel_steeperWay_47 at hF
  have g0 := zFr.rf (fun _ => False) (fun _ => False) μ ν
  cases hF
  exact g0
theorem g_Panel_steeperWay_36 {b : Nat}  {x1 : Int32} {x2 : Int32} {x3 : Int32} {x4 : Int32} {μ : zI} {ν : zJ} {out : (Int32 × zI × zJ)} (hF : e_Panel_steeperWay_36 b  x1 x2 x3 x4 μ ν = some out) : zFr (fun _ => False) (fun _ => False) μ ν out.2.1 out.2.2 := by
  unfold e_Panel_steeperWay_36 at hF
  have g0 := zFr.rf (fun _ => False) (fun _ => False) μ ν
  rcases Decidable.em (x3 ≤ x4) with cy1 | cy1
  · replace hF := zh_t cy1 hF
    exact zFr.tr g0 (g_Panel_steeperWay_47  hF) (fun _ h => h) (fun _ h => h)
  · replace hF := zh_f cy1 hF
    exact zFr.tr g0 (g_Panel_steeperWay_47  hF) (fun _ h => h) (fun _ h => h)
theorem g_Panel_steeperWay_0 {b : Nat}  {x1 : Int32} {μ : zI} {ν : zJ} {out : (Int32 × zI × zJ)} (hF : e_Panel_steeperWay_0 b  x1 μ ν = some out) : zFr (fun _ => False) (fun _ => False) μ ν out.2.1 out.2.2 := by
  unfold e_Panel_steeperWay_0 at hF
  have g0 := zFr.rf (fun _ => False) (fun _ => False) μ ν
  obtain ⟨ty1, hty1, hF⟩ := zh_bind hF
  have gty1 := zFr.tr g0 (fr_Panel_powerAt hty1) (fun r h => by first | exact h | exact h.elim | omega | (revert h; dsimp only; omega)) (fun r h => by first | exact h | exact h.elim | omega | (revert h; dsimp only; omega))
  obtain ⟨y2, hy2, hF⟩ := zh_let hF
  obtain ⟨ty3, hty3, hF⟩ := zh_bind hF
  have gty3 := zFr.tr gty1 (fr_Panel_powerAt hty3) (fun r h => by first | exact h | exact h.elim | omega | (revert h; dsimp only; omega)) (fun r h => by first | exact h | exact h.elim | omega | (revert h; dsimp only; omega))
  obtain ⟨y4, hy4, hF⟩ := zh_let hF
  obtain ⟨ty5, hty5, hF⟩ := zh_bind hF
  have gty5 := zFr.tr gty3 (fr_Panel_powerAt hty5) (fun r h => by first | exact h | exact h.elim | omega | (revert h; dsimp only; omega)) (fun r h => by first | exact h | exact h.elim | omega | (revert h; dsimp only; omega))
  obtain ⟨y6, hy6, hF⟩ := zh_let hF
  rcases Decidable.em (y2 < y4) with cy7 | cy7
  · replace hF := zh_t cy7 hF
    exact zFr.tr gty5 (g_Panel_steeperWay_36  hF) (fun _ h => h) (fun _ h => h)
  · replace hF := zh_f cy7 hF
    rcases Decidable.em (y2 < y6) with cy8 | cy8
    · replace hF := zh_t cy8 hF
      exact zFr.tr gty5 (g_Panel_steeperWay_36  hF) (fun _ h => h) (fun _ h => h)
    · replace hF := zh_f cy8 hF
      cases hF
      exact gty5
theorem fr_Panel_steeperWay {b : Nat} {x1 : Int32} {μ : zI} {ν : zJ} {out : (Int32 × zI × zJ)} (hE : E_Panel_steeperWay b x1 μ ν = some out) : zFr (fun _ => False) (fun _ => False) μ ν out.2.1 out.2.2 := (g_Panel_steeperWay_0 hE)
theorem g_Follower_lengthen_43 {b : Nat}   {μ : zI} {ν : zJ} {out : (zI × zJ)} (hF : e_Follower_lengthen_43 b   μ ν = some out) : zFr (fun r => (b ≤ r ∧ r < b + 15)) (fun _ => False) μ ν out.1 out.2 := by
  unfold e_Follower_lengthen_43 at hF
  have g0 := zFr.rf (fun r => (b ≤ r ∧ r < b + 15)) (fun _ => False) μ ν
  cases hF
  exact g0
theorem g_Follower_lengthen_0 {b : Nat}   {μ : zI} {ν : zJ} {out : (zI × zJ)} (hF : e_Follower_lengthen_0 b   μ ν = some out) : zFr (fun r => (b ≤ r ∧ r < b + 15)) (fun _ => False) μ ν out.1 out.2 := by
  unfold e_Follower_lengthen_0 at hF
  have g0 := zFr.rf (fun r => (b ≤ r ∧ r < b + 15)) (fun _ => False) μ ν
  obtain ⟨μy1, hy1, hF⟩ := zh_let hF
  have gy1 := zFr.put g0 (r := (b + 11)) (by first | omega | (dsimp only; omega)) hy1
  obtain ⟨ty2, hty2, hF⟩ := zh_bind hF
  have gty2 := zFr.tr gy1 (fr_Told_get hty2) (fun r h => by first | exact h | exact h.elim | omega | (revert h; dsimp only; omega)) (fun r h => by first | exact h | exact h.elim | omega | (revert h; dsimp only; omega))
  rcases Decidable.em ((μy1 (b + 11) 3) < ty2.1) with cy3 | cy3
  · replace hF := zh_t cy3 hF
    exact zFr.tr gty2 (g_Follower_lengthen_43  hF) (fun _ h => h) (fun _ h => h)
  · replace hF := zh_f cy3 hF
    obtain ⟨μy4, hy4, hF⟩ := zh_let hF
    have gy4 := zFr.put gty2 (r := (b + 11)) (by first | omega | (dsimp only; omega)) hy4
    obtain ⟨μy5, hy5, hF⟩ := zh_let hF
    have gy5 := zFr.put gy4 (r := (b + 11)) (by first | omega | (dsimp only; omega)) hy5
    exact zFr.tr gy5 (g_Follower_lengthen_43  hF) (fun _ h => h) (fun _ h => h)
theorem fr_Follower_lengthen {b : Nat} {μ : zI} {ν : zJ} {out : (zI × zJ)} (hE : E_Follower_lengthen b μ ν = some out) : zFr (fun r => (b ≤ r ∧ r < b + 15)) (fun _ => False) μ ν out.1 out.2 := (g_Follower_lengthen_0 hE)
theorem g_Follower_shorten_0 {b : Nat}   {μ : zI} {ν : zJ} {out : (zI × zJ)} (hF : e_Follower_shorten_0 b   μ ν = some out) : zFr (fun r => (b ≤ r ∧ r < b + 15)) (fun _ => False) μ ν out.1 out.2 := by
  unfold e_Follower_shorten_0 at hF
  have g0 := zFr.rf (fun r => (b ≤ r ∧ r < b + 15)) (fun _ => False) μ ν
  obtain ⟨μy1, hy1, hF⟩ := zh_let hF
  have gy1 := zFr.put g0 (r := (b + 11)) (by first | omega | (dsimp only; omega)) hy1
  obtain ⟨μy2, hy2, hF⟩ := zh_let hF
  have gy2 := zFr.put gy1 (r := (b + 11)) (by first | omega | (dsimp only; omega)) hy2
  cases hF
  exact gy2
theorem fr_Follower_shorten {b : Nat} {μ : zI} {ν : zJ} {out : (zI × zJ)} (hE : E_Follower_shorten b μ ν = some out) : zFr (fun r => (b ≤ r ∧ r < b + 15)) (fun _ => False) μ ν out.1 out.2 := (g_Follower_shorten_0 hE)
theorem g_Follower_goUphill_61 {b : Nat}  {x3 : Int32} {μ : zI} {ν : zJ} {out : (zI × zJ)} (hF : e_Follower_goUphill_61 b  x3 μ ν = some out) : zFr (fun r => (b ≤ r ∧ r < b + 15)) (fun _ => False) μ ν out.1 out.2 := by
  unfold e_Follower_goUphill_61 at hF
  have g0 := zFr.rf (fun r => (b ≤ r ∧ r < b + 15)) (fun _ => False) μ ν
  cases hF
  exact g0
theorem g_Follower_goUphill_54 {b : Nat}  {x3 : Int32} {s1 : Int32} {μ : zI} {ν : zJ} {out : (zI × zJ)} (hF : e_Follower_goUphill_54 b  x3 s1 μ ν = some out) : zFr (fun r => (b ≤ r ∧ r < b + 15)) (fun _ => False) μ ν out.1 out.2 := by
  unfold e_Follower_goUphill_54 at hF
  have g0 := zFr.rf (fun r => (b ≤ r ∧ r < b + 15)) (fun _ => False) μ ν
  obtain ⟨μy1, hy1, hF⟩ := zh_let hF
  have gy1 := zFr.put g0 (r := (b + 11)) (by first | omega | (dsimp only; omega)) hy1
  obtain ⟨ty2, hty2, hF⟩ := zh_bind hF
  have gty2 := zFr.tr gy1 (fr_Follower_shorten hty2) (fun r h => by first | exact h | exact h.elim | omega | (revert h; dsimp only; omega)) (fun r h => by first | exact h | exact h.elim | omega | (revert h; dsimp only; omega))
  exact zFr.tr gty2 (g_Follower_goUphill_61  hF) (fun _ h => h) (fun _ h => h)
theorem g_Follower_goUphill_0 {b : Nat}   {μ : zI} {ν : zJ} {out : (zI × zJ)} (hF : e_Follower_goUphill_0 b   μ ν = some out) : zFr (fun r => (b ≤ r ∧ r < b + 15)) (fun _ => False) μ ν out.1 out.2 := by
  unfold e_Follower_goUphill_0 at hF
  have g0 := zFr.rf (fun r => (b ≤ r ∧ r < b + 15)) (fun _ => False) μ ν
  obtain ⟨ty1, hty1, hF⟩ := zh_bind hF
  have gty1 := zFr.tr g0 (fr_Panel_steeperWay hty1) (fun r h => by first | exact h | exact h.elim | omega | (revert h; dsimp only; omega)) (fun r h => by first | exact h | exact h.elim | omega | (revert h; dsimp only; omega))
  obtain ⟨y2, hy2, hF⟩ := zh_let hF
  obtain ⟨ty3, hty3, hF⟩ := zh_bind hF
  have gty3 := zFr.tr gty1 (fr_Follower_moveTo hty3) (fun r h => by first | exact h | exact h.elim | omega | (revert h; dsimp only; omega)) (fun r h => by first | exact h | exact h.elim | omega | (revert h; dsimp only; omega))
  rcases (Decidable.em (y2 = (ty3.1 (b + 11) 1))).symm with cy4 | cy4
  · replace hF := zh_f cy4 hF
    rcases (Decidable.em (y2 = 0)).symm with cy5 | cy5
    · replace hF := zh_f cy5 hF
      exact zFr.tr gty3 (g_Follower_goUphill_54  hF) (fun _ h => h) (fun _ h => h)
    · replace hF := zh_t cy5 hF
      exact zFr.tr gty3 (g_Follower_goUphill_54  hF) (fun _ h => h) (fun _ h => h)
  · replace hF := zh_t cy4 hF
    obtain ⟨ty6, hty6, hF⟩ := zh_bind hF
    have gty6 := zFr.tr gty3 (fr_Follower_lengthen hty6) (fun r h => by first | exact h | exact h.elim | omega | (revert h; dsimp only; omega)) (fun r h => by first | exact h | exact h.elim | omega | (revert h; dsimp only; omega))
    exact zFr.tr gty6 (g_Follower_goUphill_61  hF) (fun _ h => h) (fun _ h => h)
theorem fr_Follower_goUphill {b : Nat} {μ : zI} {ν : zJ} {out : (zI × zJ)} (hE : E_Follower_goUphill b μ ν = some out) : zFr (fun r => (b ≤ r ∧ r < b + 15)) (fun _ => False) μ ν out.1 out.2 := (g_Follower_goUphill_0 hE)
theorem g_Follower_climb_51 {b : Nat}   {μ : zI} {ν : zJ} {out : (zI × zJ)} (hF : e_Follower_climb_51 b   μ ν = some out) : zFr (fun r => (b ≤ r ∧ r < b + 15)) (fun _ => False) μ ν out.1 out.2 := by
  unfold e_Follower_climb_51 at hF
  have g0 := zFr.rf (fun r => (b ≤ r ∧ r < b + 15)) (fun _ => False) μ ν
  cases hF
  exact g0
theorem g_Follower_climb_0 {b : Nat}   {μ : zI} {ν : zJ} {out : (zI × zJ)} (hF : e_Follower_climb_0 b   μ ν = some out) : zFr (fun r => (b ≤ r ∧ r < b + 15)) (fun _ => False) μ ν out.1 out.2 := by
  unfold e_Follower_climb_0 at hF
  have g0 := zFr.rf (fun r => (b ≤ r ∧ r < b + 15)) (fun _ => False) μ ν
  obtain ⟨ty1, hty1, hF⟩ := zh_bind hF
  have gty1 := zFr.tr g0 (fr_Follower_moveTo hty1) (fun r h => by first | exact h | exact h.elim | omega | (revert h; dsimp only; omega)) (fun r h => by first | exact h | exact h.elim | omega | (revert h; dsimp only; omega))
  rcases Decidable.em ((ty1.1 (b + 11) 6) ≤ (ty1.1 (b + 11) 4)) with cy2 | cy2
  · replace hF := zh_t cy2 hF
    obtain ⟨μy3, hy3, hF⟩ := zh_let hF
    have gy3 := zFr.put gty1 (r := (b + 11)) (by first | omega | (dsimp only; omega)) hy3
    obtain ⟨ty4, hty4, hF⟩ := zh_bind hF
    have gty4 := zFr.tr gy3 (fr_Follower_shorten hty4) (fun r h => by first | exact h | exact h.elim | omega | (revert h; dsimp only; omega)) (fun r h => by first | exact h | exact h.elim | omega | (revert h; dsimp only; omega))
    exact zFr.tr gty4 (g_Follower_climb_51  hF) (fun _ h => h) (fun _ h => h)
  · replace hF := zh_f cy2 hF
    obtain ⟨ty5, hty5, hF⟩ := zh_bind hF
    have gty5 := zFr.tr gty1 (fr_Follower_lengthen hty5) (fun r h => by first | exact h | exact h.elim | omega | (revert h; dsimp only; omega)) (fun r h => by first | exact h | exact h.elim | omega | (revert h; dsimp only; omega))
    exact zFr.tr gty5 (g_Follower_climb_51  hF) (fun _ h => h) (fun _ h => h)
theorem fr_Follower_climb {b : Nat} {μ : zI} {ν : zJ} {out : (zI × zJ)} (hE : E_Follower_climb b μ ν = some out) : zFr (fun r => (b ≤ r ∧ r < b + 15)) (fun _ => False) μ ν out.1 out.2 := (g_Follower_climb_0 hE)
theorem g_Follower_wantsScan_54 {b : Nat}  {x2 : Int32} {x3 : Int32} {s0 : Int32} {μ : zI} {ν : zJ} {out : (Int32 × zI × zJ)} (hF : e_Follower_wantsScan_54 b  x2 x3 s0 μ ν = some out) : zFr (fun _ => False) (fun _ => False) μ ν out.2.1 out.2.2 := by
  unfold e_Follower_wantsScan_54 at hF
  have g0 := zFr.rf (fun _ => False) (fun _ => False) μ ν
  obtain ⟨hy1, hF⟩ := zh_if hF
  cases hF
  exact g0
theorem g_Follower_wantsScan_49 {b : Nat}  {x2 : Int32} {x3 : Int32} {μ : zI} {ν : zJ} {out : (Int32 × zI × zJ)} (hF : e_Follower_wantsScan_49 b  x2 x3 μ ν = some out) : zFr (fun _ => False) (fun _ => False) μ ν out.2.1 out.2.2 := by
  unfold e_Follower_wantsScan_49 at hF
  have g0 := zFr.rf (fun _ => False) (fun _ => False) μ ν
  exact zFr.tr g0 (g_Follower_wantsScan_54  hF) (fun _ h => h) (fun _ h => h)
theorem g_Follower_wantsScan_53 {b : Nat}  {x2 : Int32} {x3 : Int32} {μ : zI} {ν : zJ} {out : (Int32 × zI × zJ)} (hF : e_Follower_wantsScan_53 b  x2 x3 μ ν = some out) : zFr (fun _ => False) (fun _ => False) μ ν out.2.1 out.2.2 := by
  unfold e_Follower_wantsScan_53 at hF
  have g0 := zFr.rf (fun _ => False) (fun _ => False) μ ν
  exact zFr.tr g0 (g_Follower_wantsScan_54  hF) (fun _ h => h) (fun _ h => h)
theorem g_Follower_wantsScan_26 {b : Nat}  {x2 : Int32} {x3 : Int32} {μ : zI} {ν : zJ} {out : (Int32 × zI × zJ)} (hF : e_Follower_wantsScan_26 b  x2 x3 μ ν = some out) : zFr (fun _ => False) (fun _ => False) μ ν out.2.1 out.2.2 := by
  unfold e_Follower_wantsScan_26 at hF
  have g0 := zFr.rf (fun _ => False) (fun _ => False) μ ν
  rcases Decidable.em (x3 ≤ 0) with cy1 | cy1
  · replace hF := zh_t cy1 hF
    exact zFr.tr g0 (g_Follower_wantsScan_53  hF) (fun _ h => h) (fun _ h => h)
  · replace hF := zh_f cy1 hF
    rcases Decidable.em (((μ (b + 11) 4) * (100 - x3)) ≤ ((μ (b + 11) 6) * 100)) with cy2 | cy2
    · replace hF := zh_t cy2 hF
      exact zFr.tr g0 (g_Follower_wantsScan_53  hF) (fun _ h => h) (fun _ h => h)
    · replace hF := zh_f cy2 hF
      exact zFr.tr g0 (g_Follower_wantsScan_49  hF) (fun _ h => h) (fun _ h => h)
theorem g_Follower_wantsScan_0 {b : Nat}   {μ : zI} {ν : zJ} {out : (Int32 × zI × zJ)} (hF : e_Follower_wantsScan_0 b   μ ν = some out) : zFr (fun _ => False) (fun _ => False) μ ν out.2.1 out.2.2 := by
  unfold e_Follower_wantsScan_0 at hF
  have g0 := zFr.rf (fun _ => False) (fun _ => False) μ ν
  obtain ⟨ty1, hty1, hF⟩ := zh_bind hF
  have gty1 := zFr.tr g0 (fr_Told_get hty1) (fun r h => by first | exact h | exact h.elim | omega | (revert h; dsimp only; omega)) (fun r h => by first | exact h | exact h.elim | omega | (revert h; dsimp only; omega))
  obtain ⟨y2, hy2, hF⟩ := zh_let hF
  obtain ⟨ty3, hty3, hF⟩ := zh_bind hF
  have gty3 := zFr.tr gty1 (fr_Told_get hty3) (fun r h => by first | exact h | exact h.elim | omega | (revert h; dsimp only; omega)) (fun r h => by first | exact h | exact h.elim | omega | (revert h; dsimp only; omega))
  obtain ⟨y4, hy4, hF⟩ := zh_let hF
  rcases Decidable.em (y2 ≤ 0) with cy5 | cy5
  · replace hF := zh_t cy5 hF
    exact zFr.tr gty3 (g_Follower_wantsScan_26  hF) (fun _ h => h) (fun _ h => h)
  · replace hF := zh_f cy5 hF
    rcases Decidable.em (y2 ≤ (ty3.2.1 (b + 11) 5)) with cy6 | cy6
    · replace hF := zh_t cy6 hF
      exact zFr.tr gty3 (g_Follower_wantsScan_49  hF) (fun _ h => h) (fun _ h => h)
    · replace hF := zh_f cy6 hF
      exact zFr.tr gty3 (g_Follower_wantsScan_26  hF) (fun _ h => h) (fun _ h => h)
theorem fr_Follower_wantsScan {b : Nat} {μ : zI} {ν : zJ} {out : (Int32 × zI × zJ)} (hE : E_Follower_wantsScan b μ ν = some out) : zFr (fun _ => False) (fun _ => False) μ ν out.2.1 out.2.2 := (g_Follower_wantsScan_0 hE)
theorem g_Follower_beginScan_0 {b : Nat}   {μ : zI} {ν : zJ} {out : (zI × zJ)} (hF : e_Follower_beginScan_0 b   μ ν = some out) : zFr (fun r => (b ≤ r ∧ r < b + 15)) (fun _ => False) μ ν out.1 out.2 := by
  unfold e_Follower_beginScan_0 at hF
  have g0 := zFr.rf (fun r => (b ≤ r ∧ r < b + 15)) (fun _ => False) μ ν
  obtain ⟨μy1, hy1, hF⟩ := zh_let hF
  have gy1 := zFr.put g0 (r := (b + 11)) (by first | omega | (dsimp only; omega)) hy1
  obtain ⟨μy2, hy2, hF⟩ := zh_let hF
  have gy2 := zFr.put gy1 (r := (b + 11)) (by first | omega | (dsimp only; omega)) hy2
  cases hF
  exact gy2
theorem fr_Follower_beginScan {b : Nat} {μ : zI} {ν : zJ} {out : (zI × zJ)} (hE : E_Follower_beginScan b μ ν = some out) : zFr (fun r => (b ≤ r ∧ r < b + 15)) (fun _ => False) μ ν out.1 out.2 := (g_Follower_beginScan_0 hE)
theorem g_Follower_seek_97 {b : Nat}   {μ : zI} {ν : zJ} {out : (zI × zJ)} (hF : e_Follower_seek_97 b   μ ν = some out) : zFr (fun r => (b ≤ r ∧ r < b + 15)) (fun _ => False) μ ν out.1 out.2 := by
  unfold e_Follower_seek_97 at hF
  have g0 := zFr.rf (fun r => (b ≤ r ∧ r < b + 15)) (fun _ => False) μ ν
  obtain ⟨μy1, hy1, hF⟩ := zh_let hF
  have gy1 := zFr.put g0 (r := (b + 11)) (by first | omega | (dsimp only; omega)) hy1
  cases hF
  exact gy1
theorem g_Follower_seek_85 {b : Nat}   {μ : zI} {ν : zJ} {out : (zI × zJ)} (hF : e_Follower_seek_85 b   μ ν = some out) : zFr (fun r => (b ≤ r ∧ r < b + 15)) (fun _ => False) μ ν out.1 out.2 := by
  unfold e_Follower_seek_85 at hF
  have g0 := zFr.rf (fun r => (b ≤ r ∧ r < b + 15)) (fun _ => False) μ ν
  obtain ⟨ty1, hty1, hF⟩ := zh_bind hF
  have gty1 := zFr.tr g0 (fr_Follower_wantsScan hty1) (fun r h => by first | exact h | exact h.elim | omega | (revert h; dsimp only; omega)) (fun r h => by first | exact h | exact h.elim | omega | (revert h; dsimp only; omega))
  rcases Decidable.em (ty1.1 = 0) with cy2 | cy2
  · replace hF := zh_t cy2 hF
    exact zFr.tr gty1 (g_Follower_seek_97  hF) (fun _ h => h) (fun _ h => h)
  · replace hF := zh_f cy2 hF
    obtain ⟨ty3, hty3, hF⟩ := zh_bind hF
    have gty3 := zFr.tr gty1 (fr_Follower_beginScan hty3) (fun r h => by first | exact h | exact h.elim | omega | (revert h; dsimp only; omega)) (fun r h => by first | exact h | exact h.elim | omega | (revert h; dsimp only; omega))
    exact zFr.tr gty3 (g_Follower_seek_97  hF) (fun _ h => h) (fun _ h => h)
theorem g_Follower_seek_0 {b : Nat}   {μ : zI} {ν : zJ} {out : (zI × zJ)} (hF : e_Follower_seek_0 b   μ ν = some out) : zFr (fun r => (b ≤ r ∧ r < b + 15)) (fun _ => False) μ ν out.1 out.2 := by
  unfold e_Follower_seek_0 at hF
  have g0 := zFr.rf (fun r => (b ≤ r ∧ r < b + 15)) (fun _ => False) μ ν
  obtain ⟨μy1, hy1, hF⟩ := zh_let hF
  have gy1 := zFr.put g0 (r := (b + 11)) (by first | omega | (dsimp only; omega)) hy1
  obtain ⟨μy2, hy2, hF⟩ := zh_let hF
  have gy2 := zFr.put gy1 (r := (b + 11)) (by first | omega | (dsimp only; omega)) hy2
  obtain ⟨μy3, hy3, hF⟩ := zh_let hF
  have gy3 := zFr.put gy2 (r := (b + 11)) (by first | omega | (dsimp only; omega)) hy3
  obtain ⟨ty4, hty4, hF⟩ := zh_bind hF
  have gty4 := zFr.tr gy3 (fr_Told_get hty4) (fun r h => by first | exact h | exact h.elim | omega | (revert h; dsimp only; omega)) (fun r h => by first | exact h | exact h.elim | omega | (revert h; dsimp only; omega))
  by_cases cy5 : ty4.1 = 1
  · replace hF := zh_t cy5 hF
    obtain ⟨ty7, hty7, hF⟩ := zh_bind hF
    have gty7 := zFr.tr gty4 (fr_Follower_goUphill hty7) (fun r h => by first | exact h | exact h.elim | omega | (revert h; dsimp only; omega)) (fun r h => by first | exact h | exact h.elim | omega | (revert h; dsimp only; omega))
    exact zFr.tr gty7 (g_Follower_seek_85  hF) (fun _ h => h) (fun _ h => h)
  · replace hF := zh_f cy5 hF
    by_cases cy6 : ty4.1 = 2
    · replace hF := zh_t cy6 hF
      obtain ⟨ty8, hty8, hF⟩ := zh_bind hF
      have gty8 := zFr.tr gty4 (fr_Told_get hty8) (fun r h => by first | exact h | exact h.elim | omega | (revert h; dsimp only; omega)) (fun r h => by first | exact h | exact h.elim | omega | (revert h; dsimp only; omega))
      obtain ⟨ty9, hty9, hF⟩ := zh_bind hF
      have gty9 := zFr.tr gty8 (fr_Panel_pointOfShare hty9) (fun r h => by first | exact h | exact h.elim | omega | (revert h; dsimp only; omega)) (fun r h => by first | exact h | exact h.elim | omega | (revert h; dsimp only; omega))
      obtain ⟨ty10, hty10, hF⟩ := zh_bind hF
      have gty10 := zFr.tr gty9 (fr_Follower_moveTo hty10) (fun r h => by first | exact h | exact h.elim | omega | (revert h; dsimp only; omega)) (fun r h => by first | exact h | exact h.elim | omega | (revert h; dsimp only; omega))
      exact zFr.tr gty10 (g_Follower_seek_85  hF) (fun _ h => h) (fun _ h => h)
    · replace hF := zh_f cy6 hF
      obtain ⟨ty11, hty11, hF⟩ := zh_bind hF
      have gty11 := zFr.tr gty4 (fr_Follower_climb hty11) (fun r h => by first | exact h | exact h.elim | omega | (revert h; dsimp only; omega)) (fun r h => by first | exact h | exact h.elim | omega | (revert h; dsimp only; omega))
      exact zFr.tr gty11 (g_Follower_seek_85  hF) (fun _ h => h) (fun _ h => h)
theorem fr_Follower_seek {b : Nat} {μ : zI} {ν : zJ} {out : (zI × zJ)} (hE : E_Follower_seek b μ ν = some out) : zFr (fun r => (b ≤ r ∧ r < b + 15)) (fun _ => False) μ ν out.1 out.2 := (g_Follower_seek_0 hE)
theorem g_Battery_wanted_23 {b : Nat}  {x1 : Int32} {x2 : Int32} {s1 : Int32} {μ : zI} {ν : zJ} {out : (Int32 × zI × zJ)} (hF : e_Battery_wanted_23 b  x1 x2 s1 μ ν = some out) : zFr (fun _ => False) (fun _ => False) μ ν out.2.1 out.2.2 := by
  unfold e_Battery_wanted_23 at hF
  have g0 := zFr.rf (fun _ => False) (fun _ => False) μ ν
  obtain ⟨ty1, hty1, hF⟩ := zh_bind hF
  have gty1 := zFr.tr g0 (fr_Told_get hty1) (fun r h => by first | exact h | exact h.elim | omega | (revert h; dsimp only; omega)) (fun r h => by first | exact h | exact h.elim | omega | (revert h; dsimp only; omega))
  obtain ⟨y2, hy2, hF⟩ := zh_let hF
  cases hF
  exact gty1
theorem g_Battery_wanted_0 {b : Nat}  {x1 : Int32} {x2 : Int32} {μ : zI} {ν : zJ} {out : (Int32 × zI × zJ)} (hF : e_Battery_wanted_0 b  x1 x2 μ ν = some out) : zFr (fun _ => False) (fun _ => False) μ ν out.2.1 out.2.2 := by
  unfold e_Battery_wanted_0 at hF
  have g0 := zFr.rf (fun _ => False) (fun _ => False) μ ν
  rcases (Decidable.em ((μ (b + 12) 1) = 0)).symm with cy1 | cy1
  · replace hF := zh_f cy1 hF
    rcases (Decidable.em ((μ (b + 12) 1) = 1)).symm with cy2 | cy2
    · replace hF := zh_f cy2 hF
      exact zFr.tr g0 (g_Battery_wanted_23  hF) (fun _ h => h) (fun _ h => h)
    · replace hF := zh_t cy2 hF
      exact zFr.tr g0 (g_Battery_wanted_23  hF) (fun _ h => h) (fun _ h => h)
  · replace hF := zh_t cy1 hF
    cases hF
    exact g0
theorem fr_Battery_wanted {b : Nat} {x1 : Int32} {x2 : Int32} {μ : zI} {ν : zJ} {out : (Int32 × zI × zJ)} (hE : E_Battery_wanted b x1 x2 μ ν = some out) : zFr (fun _ => False) (fun _ => False) μ ν out.2.1 out.2.2 := (g_Battery_wanted_0 hE)
theorem g_Battery_nextStage_57 {b : Nat}  {x1 : Int32} {x2 : Int32} {x4 : Int32} {x5 : Int32} {s0 : Int32} {μ : zI} {ν : zJ} {out : (Int32 × zI × zJ)} (hF : e_Battery_nextStage_57 b  x1 x2 x4 x5 s0 μ ν = some out) : zFr (fun r => (b ≤ r ∧ r < b + 15)) (fun _ => False) μ ν out.2.1 out.2.2 := by
  unfold e_Battery_nextStage_57 at hF
  have g0 := zFr.rf (fun r => (b ≤ r ∧ r < b + 15)) (fun _ => False) μ ν
  cases hF
  exact g0
theorem g_Battery_nextStage_52 {b : Nat}  {x1 : Int32} {x2 : Int32} {x4 : Int32} {x5 : Int32} {μ : zI} {ν : zJ} {out : (Int32 × zI × zJ)} (hF : e_Battery_nextStage_52 b  x1 x2 x4 x5 μ ν = some out) : zFr (fun r => (b ≤ r ∧ r < b + 15)) (fun _ => False) μ ν out.2.1 out.2.2 := by
  unfold e_Battery_nextStage_52 at hF
  have g0 := zFr.rf (fun r => (b ≤ r ∧ r < b + 15)) (fun _ => False) μ ν
  exact zFr.tr g0 (g_Battery_nextStage_57  hF) (fun _ h => h) (fun _ h => h)
theorem g_Battery_nextStage_36 {b : Nat}  {x1 : Int32} {x2 : Int32} {x4 : Int32} {s0 : Int32} {μ : zI} {ν : zJ} {out : (Int32 × zI × zJ)} (hF : e_Battery_nextStage_36 b  x1 x2 x4 s0 μ ν = some out) : zFr (fun r => (b ≤ r ∧ r < b + 15)) (fun _ => False) μ ν out.2.1 out.2.2 := by
  unfold e_Battery_nextStage_36 at hF
  have g0 := zFr.rf (fun r => (b ≤ r ∧ r < b + 15)) (fun _ => False) μ ν
  rcases (Decidable.em (s0 = 0)).symm with cy1 | cy1
  · replace hF := zh_f cy1 hF
    exact zFr.tr g0 (g_Battery_nextStage_52  hF) (fun _ h => h) (fun _ h => h)
  · replace hF := zh_t cy1 hF
    rcases (Decidable.em ((μ (b + 12) 0) = x4)).symm with cy2 | cy2
    · replace hF := zh_f cy2 hF
      exact zFr.tr g0 (g_Battery_nextStage_57  hF) (fun _ h => h) (fun _ h => h)
    · replace hF := zh_t cy2 hF
      exact zFr.tr g0 (g_Battery_nextStage_52  hF) (fun _ h => h) (fun _ h => h)
theorem g_Battery_nextStage_128 {b : Nat}  {x1 : Int32} {x2 : Int32} {x4 : Int32} {x5 : Int32} {x6 : Int32} {s0 : Int32} {μ : zI} {ν : zJ} {out : (Int32 × zI × zJ)} (hF : e_Battery_nextStage_128 b  x1 x2 x4 x5 x6 s0 μ ν = some out) : zFr (fun r => (b ≤ r ∧ r < b + 15)) (fun _ => False) μ ν out.2.1 out.2.2 := by
  unfold e_Battery_nextStage_128 at hF
  have g0 := zFr.rf (fun r => (b ≤ r ∧ r < b + 15)) (fun _ => False) μ ν
  cases hF
  exact g0
theorem g_Battery_nextStage_123 {b : Nat}  {x1 : Int32} {x2 : Int32} {x4 : Int32} {x5 : Int32} {x6 : Int32} {μ : zI} {ν : zJ} {out : (Int32 × zI × zJ)} (hF : e_Battery_nextStage_123 b  x1 x2 x4 x5 x6 μ ν = some out) : zFr (fun r => (b ≤ r ∧ r < b + 15)) (fun _ => False) μ ν out.2.1 out.2.2 := by
  unfold e_Battery_nextStage_123 at hF
  have g0 := zFr.rf (fun r => (b ≤ r ∧ r < b + 15)) (fun _ => False) μ ν
  exact zFr.tr g0 (g_Battery_nextStage_128  hF) (fun _ h => h) (fun _ h => h)
theorem g_Battery_nextStage_104 {b : Nat}  {x1 : Int32} {x2 : Int32} {x4 : Int32} {x5 : Int32} {s0 : Int32} {μ : zI} {ν : zJ} {out : (Int32 × zI × zJ)} (hF : e_Battery_nextStage_104 b  x1 x2 x4 x5 s0 μ ν = some out) : zFr (fun r => (b ≤ r ∧ r < b + 15)) (fun _ => False) μ ν out.2.1 out.2.2 := by
  unfold e_Battery_nextStage_104 at hF
  have g0 := zFr.rf (fun r => (b ≤ r ∧ r < b + 15)) (fun _ => False) μ ν
  rcases (Decidable.em (s0 = 0)).symm with cy1 | cy1
  · replace hF := zh_f cy1 hF
    exact zFr.tr g0 (g_Battery_nextStage_123  hF) (fun _ h => h) (fun _ h => h)
  · replace hF := zh_t cy1 hF
    obtain ⟨ty2, hty2, hF⟩ := zh_bind hF
    have gty2 := zFr.tr g0 (fr_Told_get hty2) (fun r h => by first | exact h | exact h.elim | omega | (revert h; dsimp only; omega)) (fun r h => by first | exact h | exact h.elim | omega | (revert h; dsimp only; omega))
    rcases Decidable.em ((μ (b + 12) 2) < ty2.1) with cy3 | cy3
    · replace hF := zh_t cy3 hF
      exact zFr.tr gty2 (g_Battery_nextStage_128  hF) (fun _ h => h) (fun _ h => h)
    · replace hF := zh_f cy3 hF
      exact zFr.tr gty2 (g_Battery_nextStage_123  hF) (fun _ h => h) (fun _ h => h)
theorem g_Battery_nextStage_103 {b : Nat}  {x1 : Int32} {x2 : Int32} {x4 : Int32} {x5 : Int32} {μ : zI} {ν : zJ} {out : (Int32 × zI × zJ)} (hF : e_Battery_nextStage_103 b  x1 x2 x4 x5 μ ν = some out) : zFr (fun r => (b ≤ r ∧ r < b + 15)) (fun _ => False) μ ν out.2.1 out.2.2 := by
  unfold e_Battery_nextStage_103 at hF
  have g0 := zFr.rf (fun r => (b ≤ r ∧ r < b + 15)) (fun _ => False) μ ν
  exact zFr.tr g0 (g_Battery_nextStage_104  hF) (fun _ h => h) (fun _ h => h)
theorem g_Battery_nextStage_152 {b : Nat}  {x1 : Int32} {x2 : Int32} {x4 : Int32} {s0 : Int32} {μ : zI} {ν : zJ} {out : (Int32 × zI × zJ)} (hF : e_Battery_nextStage_152 b  x1 x2 x4 s0 μ ν = some out) : zFr (fun r => (b ≤ r ∧ r < b + 15)) (fun _ => False) μ ν out.2.1 out.2.2 := by
  unfold e_Battery_nextStage_152 at hF
  have g0 := zFr.rf (fun r => (b ≤ r ∧ r < b + 15)) (fun _ => False) μ ν
  cases hF
  exact g0
theorem g_Battery_nextStage_0 {b : Nat}  {x1 : Int32} {x2 : Int32} {μ : zI} {ν : zJ} {out : (Int32 × zI × zJ)} (hF : e_Battery_nextStage_0 b  x1 x2 μ ν = some out) : zFr (fun r => (b ≤ r ∧ r < b + 15)) (fun _ => False) μ ν out.2.1 out.2.2 := by
  unfold e_Battery_nextStage_0 at hF
  have g0 := zFr.rf (fun r => (b ≤ r ∧ r < b + 15)) (fun _ => False) μ ν
  obtain ⟨ty1, hty1, hF⟩ := zh_bind hF
  have gty1 := zFr.tr g0 (fr_Told_get hty1) (fun r h => by first | exact h | exact h.elim | omega | (revert h; dsimp only; omega)) (fun r h => by first | exact h | exact h.elim | omega | (revert h; dsimp only; omega))
  obtain ⟨y2, hy2, hF⟩ := zh_let hF
  rcases (Decidable.em ((ty1.2.1 (b + 12) 1) = 0)).symm with cy3 | cy3
  · replace hF := zh_f cy3 hF
    rcases (Decidable.em ((ty1.2.1 (b + 12) 1) = 1)).symm with cy4 | cy4
    · replace hF := zh_f cy4 hF
      obtain ⟨ty5, hty5, hF⟩ := zh_bind hF
      have gty5 := zFr.tr gty1 (fr_Told_get hty5) (fun r h => by first | exact h | exact h.elim | omega | (revert h; dsimp only; omega)) (fun r h => by first | exact h | exact h.elim | omega | (revert h; dsimp only; omega))
      rcases Decidable.em ((ty5.1 * y2) ≤ ((ty1.2.1 (b + 12) 0) * 100)) with cy6 | cy6
      · replace hF := zh_t cy6 hF
        exact zFr.tr gty5 (g_Battery_nextStage_152  hF) (fun _ h => h) (fun _ h => h)
      · replace hF := zh_f cy6 hF
        exact zFr.tr gty5 (g_Battery_nextStage_152  hF) (fun _ h => h) (fun _ h => h)
    · replace hF := zh_t cy4 hF
      obtain ⟨μy7, hy7, hF⟩ := zh_let hF
      have gy7 := zFr.put gty1 (r := (b + 12)) (by first | omega | (dsimp only; omega)) hy7
      obtain ⟨ty8, hty8, hF⟩ := zh_bind hF
      have gty8 := zFr.tr gy7 (fr_Told_get hty8) (fun r h => by first | exact h | exact h.elim | omega | (revert h; dsimp only; omega)) (fun r h => by first | exact h | exact h.elim | omega | (revert h; dsimp only; omega))
      obtain ⟨y9, hy9, hF⟩ := zh_let hF
      rcases Decidable.em (y9 ≤ (ty8.2.1 (b + 12) 4)) with cy10 | cy10
      · replace hF := zh_t cy10 hF
        exact zFr.tr gty8 (g_Battery_nextStage_103  hF) (fun _ h => h) (fun _ h => h)
      · replace hF := zh_f cy10 hF
        rcases Decidable.em (x1 < y9) with cy11 | cy11
        · replace hF := zh_t cy11 hF
          exact zFr.tr gty8 (g_Battery_nextStage_103  hF) (fun _ h => h) (fun _ h => h)
        · replace hF := zh_f cy11 hF
          exact zFr.tr gty8 (g_Battery_nextStage_104  hF) (fun _ h => h) (fun _ h => h)
  · replace hF := zh_t cy3 hF
    obtain ⟨ty12, hty12, hF⟩ := zh_bind hF
    have gty12 := zFr.tr gty1 (fr_Told_get hty12) (fun r h => by first | exact h | exact h.elim | omega | (revert h; dsimp only; omega)) (fun r h => by first | exact h | exact h.elim | omega | (revert h; dsimp only; omega))
    rcases Decidable.em ((x2 + ((ty1.2.1 (b + 12) 4) / 20)) < ty12.1) with cy13 | cy13
    · replace hF := zh_t cy13 hF
      exact zFr.tr gty12 (g_Battery_nextStage_36  hF) (fun _ h => h) (fun _ h => h)
    · replace hF := zh_f cy13 hF
      exact zFr.tr gty12 (g_Battery_nextStage_36  hF) (fun _ h => h) (fun _ h => h)
theorem fr_Battery_nextStage {b : Nat} {x1 : Int32} {x2 : Int32} {μ : zI} {ν : zJ} {out : (Int32 × zI × zJ)} (hE : E_Battery_nextStage b x1 x2 μ ν = some out) : zFr (fun r => (b ≤ r ∧ r < b + 15)) (fun _ => False) μ ν out.2.1 out.2.2 := (g_Battery_nextStage_0 hE)
theorem g_Battery_take_134 {b : Nat}  {x1 : Int32} {x3 : Int32} {x4 : Int32} {μ : zI} {ν : zJ} {out : (zI × zJ)} (hF : e_Battery_take_134 b  x1 x3 x4 μ ν = some out) : zFr (fun r => (b ≤ r ∧ r < b + 15)) (fun _ => False) μ ν out.1 out.2 := by
  unfold e_Battery_take_134 at hF
  have g0 := zFr.rf (fun r => (b ≤ r ∧ r < b + 15)) (fun _ => False) μ ν
  cases hF
  exact g0
theorem g_Battery_take_118 {b : Nat}  {x1 : Int32} {x3 : Int32} {x4 : Int32} {μ : zI} {ν : zJ} {out : (zI × zJ)} (hF : e_Battery_take_118 b  x1 x3 x4 μ ν = some out) : zFr (fun r => (b ≤ r ∧ r < b + 15)) (fun _ => False) μ ν out.1 out.2 := by
  unfold e_Battery_take_118 at hF
  have g0 := zFr.rf (fun r => (b ≤ r ∧ r < b + 15)) (fun _ => False) μ ν
  rcases Decidable.em ((μ (b + 12) 5) = (-1)) with cy1 | cy1
  · replace hF := zh_t cy1 hF
    exact zFr.tr g0 (g_Battery_take_134  hF) (fun _ h => h) (fun _ h => h)
  · replace hF := zh_f cy1 hF
    obtain ⟨μy2, hy2, hF⟩ := zh_let hF
    have gy2 := zFr.put g0 (r := (b + 12)) (by first | omega | (dsimp only; omega)) hy2
    exact zFr.tr gy2 (g_Battery_take_134  hF) (fun _ h => h) (fun _ h => h)
theorem g_Battery_take_56 {b : Nat}  {x1 : Int32} {x3 : Int32} {s0 : Int32} {s1 : Int32} {μ : zI} {ν : zJ} {out : (zI × zJ)} (hF : e_Battery_take_56 b  x1 x3 s0 s1 μ ν = some out) : zFr (fun r => (b ≤ r ∧ r < b + 15)) (fun _ => False) μ ν out.1 out.2 := by
  unfold e_Battery_take_56 at hF
  have g0 := zFr.rf (fun r => (b ≤ r ∧ r < b + 15)) (fun _ => False) μ ν
  obtain ⟨y1, hy1, hF⟩ := zh_let hF
  obtain ⟨ty2, hty2, hF⟩ := zh_bind hF
  have gty2 := zFr.tr g0 (fr_Battery_wanted hty2) (fun r h => by first | exact h | exact h.elim | omega | (revert h; dsimp only; omega)) (fun r h => by first | exact h | exact h.elim | omega | (revert h; dsimp only; omega))
  obtain ⟨μy3, hy3, hF⟩ := zh_let hF
  have gy3 := zFr.put gty2 (r := (b + 12)) (by first | omega | (dsimp only; omega)) hy3
  obtain ⟨μy4, hy4, hF⟩ := zh_let hF
  have gy4 := zFr.put gy3 (r := (b + 12)) (by first | omega | (dsimp only; omega)) hy4
  obtain ⟨ty5, hty5, hF⟩ := zh_bind hF
  have gty5 := zFr.tr gy4 (fr_Battery_nextStage hty5) (fun r h => by first | exact h | exact h.elim | omega | (revert h; dsimp only; omega)) (fun r h => by first | exact h | exact h.elim | omega | (revert h; dsimp only; omega))
  obtain ⟨μy6, hy6, hF⟩ := zh_let hF
  have gy6 := zFr.put gty5 (r := (b + 12)) (by first | omega | (dsimp only; omega)) hy6
  rcases (Decidable.em ((μy6 (b + 12) 5) = 1)).symm with cy7 | cy7
  · replace hF := zh_f cy7 hF
    exact zFr.tr gy6 (g_Battery_take_118  hF) (fun _ h => h) (fun _ h => h)
  · replace hF := zh_t cy7 hF
    obtain ⟨μy8, hy8, hF⟩ := zh_let hF
    have gy8 := zFr.put gy6 (r := (b + 12)) (by first | omega | (dsimp only; omega)) hy8
    exact zFr.tr gy8 (g_Battery_take_118  hF) (fun _ h => h) (fun _ h => h)
theorem g_Battery_take_0 {b : Nat}  {x1 : Int32} {μ : zI} {ν : zJ} {out : (zI × zJ)} (hF : e_Battery_take_0 b  x1 μ ν = some out) : zFr (fun r => (b ≤ r ∧ r < b + 15)) (fun _ => False) μ ν out.1 out.2 := by
  unfold e_Battery_take_0 at hF
  have g0 := zFr.rf (fun r => (b ≤ r ∧ r < b + 15)) (fun _ => False) μ ν
  obtain ⟨ty1, hty1, hF⟩ := zh_bind hF
  have gty1 := zFr.tr g0 (fr_Told_get hty1) (fun r h => by first | exact h | exact h.elim | omega | (revert h; dsimp only; omega)) (fun r h => by first | exact h | exact h.elim | omega | (revert h; dsimp only; omega))
  obtain ⟨y2, hy2, hF⟩ := zh_let hF
  obtain ⟨ty3, hty3, hF⟩ := zh_bind hF
  have gty3 := zFr.tr gty1 (fr_Told_get hty3) (fun r h => by first | exact h | exact h.elim | omega | (revert h; dsimp only; omega)) (fun r h => by first | exact h | exact h.elim | omega | (revert h; dsimp only; omega))
  obtain ⟨μy4, hy4, hF⟩ := zh_let hF
  have gy4 := zFr.put gty3 (r := (b + 12)) (by first | omega | (dsimp only; omega)) hy4
  obtain ⟨μy5, hy5, hF⟩ := zh_let hF
  have gy5 := zFr.put gy4 (r := (b + 12)) (by first | omega | (dsimp only; omega)) hy5
  rcases Decidable.em (y2 ≤ 0) with cy6 | cy6
  · replace hF := zh_t cy6 hF
    exact zFr.tr gy5 (g_Battery_take_56  hF) (fun _ h => h) (fun _ h => h)
  · replace hF := zh_f cy6 hF
    obtain ⟨hy7, hF⟩ := zh_ne hF
    exact zFr.tr gy5 (g_Battery_take_56  hF) (fun _ h => h) (fun _ h => h)
theorem fr_Battery_take {b : Nat} {x1 : Int32} {μ : zI} {ν : zJ} {out : (zI × zJ)} (hE : E_Battery_take b x1 μ ν = some out) : zFr (fun r => (b ≤ r ∧ r < b + 15)) (fun _ => False) μ ν out.1 out.2 := (g_Battery_take_0 hE)
theorem g_Inverter_pushed_24  {x0 : Int32} {x1 : Int32} {x2 : Int32} {x3 : Int32} {s0 : Int32} {μ : zI} {ν : zJ} {out : (Int32 × zI × zJ)} (hF : e_Inverter_pushed_24   x0 x1 x2 x3 s0 μ ν = some out) : zFr (fun _ => False) (fun _ => False) μ ν out.2.1 out.2.2 := by
  unfold e_Inverter_pushed_24 at hF
  have g0 := zFr.rf (fun _ => False) (fun _ => False) μ ν
  cases hF
  exact g0
theorem g_Inverter_pushed_0  {x0 : Int32} {x1 : Int32} {x2 : Int32} {μ : zI} {ν : zJ} {out : (Int32 × zI × zJ)} (hF : e_Inverter_pushed_0   x0 x1 x2 μ ν = some out) : zFr (fun _ => False) (fun _ => False) μ ν out.2.1 out.2.2 := by
  unfold e_Inverter_pushed_0 at hF
  have g0 := zFr.rf (fun _ => False) (fun _ => False) μ ν
  obtain ⟨y1, hy1, hF⟩ := zh_let hF
  rcases Decidable.em (y1 < 50000) with cy2 | cy2
  · replace hF := zh_t cy2 hF
    exact zFr.tr g0 (g_Inverter_pushed_24  hF) (fun _ h => h) (fun _ h => h)
  · replace hF := zh_f cy2 hF
    exact zFr.tr g0 (g_Inverter_pushed_24  hF) (fun _ h => h) (fun _ h => h)
theorem fr_Inverter_pushed {x0 : Int32} {x1 : Int32} {x2 : Int32} {μ : zI} {ν : zJ} {out : (Int32 × zI × zJ)} (hE : E_Inverter_pushed x0 x1 x2 μ ν = some out) : zFr (fun _ => False) (fun _ => False) μ ν out.2.1 out.2.2 := (g_Inverter_pushed_0 hE)
theorem g_Inverter_isFar_21 {b : Nat}  {x0 : Int32} {s0 : Int32} {μ : zI} {ν : zJ} {out : (Int32 × zI × zJ)} (hF : e_Inverter_isFar_21 b  x0 s0 μ ν = some out) : zFr (fun _ => False) (fun _ => False) μ ν out.2.1 out.2.2 := by
  unfold e_Inverter_isFar_21 at hF
  have g0 := zFr.rf (fun _ => False) (fun _ => False) μ ν
  obtain ⟨hy1, hF⟩ := zh_if hF
  cases hF
  exact g0
theorem g_Inverter_isFar_0 {b : Nat}  {x0 : Int32} {μ : zI} {ν : zJ} {out : (Int32 × zI × zJ)} (hF : e_Inverter_isFar_0 b  x0 μ ν = some out) : zFr (fun _ => False) (fun _ => False) μ ν out.2.1 out.2.2 := by
  unfold e_Inverter_isFar_0 at hF
  have g0 := zFr.rf (fun _ => False) (fun _ => False) μ ν
  obtain ⟨ty1, hty1, hF⟩ := zh_bind hF
  have gty1 := zFr.tr g0 (fr_Told_get hty1) (fun r h => by first | exact h | exact h.elim | omega | (revert h; dsimp only; omega)) (fun r h => by first | exact h | exact h.elim | omega | (revert h; dsimp only; omega))
  rcases Decidable.em ((zAbs (x0 - 50000)) ≤ ty1.1) with cy2 | cy2
  · replace hF := zh_t cy2 hF
    exact zFr.tr gty1 (g_Inverter_isFar_21  hF) (fun _ h => h) (fun _ h => h)
  · replace hF := zh_f cy2 hF
    exact zFr.tr gty1 (g_Inverter_isFar_21  hF) (fun _ h => h) (fun _ h => h)
theorem fr_Inverter_isFar {b : Nat} {x0 : Int32} {μ : zI} {ν : zJ} {out : (Int32 × zI × zJ)} (hE : E_Inverter_isFar b x0 μ ν = some out) : zFr (fun _ => False) (fun _ => False) μ ν out.2.1 out.2.2 := (g_Inverter_isFar_0 hE)
theorem g_Inverter_drive_92 {b : Nat}   {μ : zI} {ν : zJ} {out : (zI × zJ)} (hF : e_Inverter_drive_92 b   μ ν = some out) : zFr (fun r => (b ≤ r ∧ r < b + 15)) (fun _ => False) μ ν out.1 out.2 := by
  unfold e_Inverter_drive_92 at hF
  have g0 := zFr.rf (fun r => (b ≤ r ∧ r < b + 15)) (fun _ => False) μ ν
  cases hF
  exact g0
theorem g_Inverter_drive_56 {b : Nat}  {s1 : Int32} {μ : zI} {ν : zJ} {out : (zI × zJ)} (hF : e_Inverter_drive_56 b  s1 μ ν = some out) : zFr (fun r => (b ≤ r ∧ r < b + 15)) (fun _ => False) μ ν out.1 out.2 := by
  unfold e_Inverter_drive_56 at hF
  have g0 := zFr.rf (fun r => (b ≤ r ∧ r < b + 15)) (fun _ => False) μ ν
  obtain ⟨μy1, hy1, hF⟩ := zh_let hF
  have gy1 := zFr.put g0 (r := (b + 13)) (by first | omega | (dsimp only; omega)) hy1
  obtain ⟨ty2, hty2, hF⟩ := zh_bind hF
  have gty2 := zFr.tr gy1 (fr_Told_get hty2) (fun r h => by first | exact h | exact h.elim | omega | (revert h; dsimp only; omega)) (fun r h => by first | exact h | exact h.elim | omega | (revert h; dsimp only; omega))
  rcases Decidable.em ((μy1 (b + 13) 5) < ty2.1) with cy3 | cy3
  · replace hF := zh_t cy3 hF
    exact zFr.tr gty2 (g_Inverter_drive_92  hF) (fun _ h => h) (fun _ h => h)
  · replace hF := zh_f cy3 hF
    obtain ⟨μy4, hy4, hF⟩ := zh_let hF
    have gy4 := zFr.put gty2 (r := (b + 13)) (by first | omega | (dsimp only; omega)) hy4
    obtain ⟨μy5, hy5, hF⟩ := zh_let hF
    have gy5 := zFr.put gy4 (r := (b + 13)) (by first | omega | (dsimp only; omega)) hy5
    obtain ⟨μy6, hy6, hF⟩ := zh_let hF
    have gy6 := zFr.put gy5 (r := (b + 13)) (by first | omega | (dsimp only; omega)) hy6
    obtain ⟨μy7, hy7, hF⟩ := zh_let hF
    have gy7 := zFr.put gy6 (r := (b + 13)) (by first | omega | (dsimp only; omega)) hy7
    exact zFr.tr gy7 (g_Inverter_drive_92  hF) (fun _ h => h) (fun _ h => h)
theorem g_Inverter_drive_31 {b : Nat}  {s1 : Int32} {μ : zI} {ν : zJ} {out : (zI × zJ)} (hF : e_Inverter_drive_31 b  s1 μ ν = some out) : zFr (fun r => (b ≤ r ∧ r < b + 15)) (fun _ => False) μ ν out.1 out.2 := by
  unfold e_Inverter_drive_31 at hF
  have g0 := zFr.rf (fun r => (b ≤ r ∧ r < b + 15)) (fun _ => False) μ ν
  obtain ⟨μy1, hy1, hF⟩ := zh_let hF
  have gy1 := zFr.put g0 (r := (b + 13)) (by first | omega | (dsimp only; omega)) hy1
  obtain ⟨ty2, hty2, hF⟩ := zh_bind hF
  have gty2 := zFr.tr gy1 (fr_Inverter_isFar hty2) (fun r h => by first | exact h | exact h.elim | omega | (revert h; dsimp only; omega)) (fun r h => by first | exact h | exact h.elim | omega | (revert h; dsimp only; omega))
  rcases Decidable.em (ty2.1 = 0) with cy3 | cy3
  · replace hF := zh_t cy3 hF
    exact zFr.tr gty2 (g_Inverter_drive_56  hF) (fun _ h => h) (fun _ h => h)
  · replace hF := zh_f cy3 hF
    exact zFr.tr gty2 (g_Inverter_drive_56  hF) (fun _ h => h) (fun _ h => h)
theorem g_Inverter_drive_0 {b : Nat}   {μ : zI} {ν : zJ} {out : (zI × zJ)} (hF : e_Inverter_drive_0 b   μ ν = some out) : zFr (fun r => (b ≤ r ∧ r < b + 15)) (fun _ => False) μ ν out.1 out.2 := by
  unfold e_Inverter_drive_0 at hF
  have g0 := zFr.rf (fun r => (b ≤ r ∧ r < b + 15)) (fun _ => False) μ ν
  rcases (Decidable.em ((μ (b + 13) 1) = 1)).symm with cy1 | cy1
  · replace hF := zh_f cy1 hF
    obtain ⟨ty2, hty2, hF⟩ := zh_bind hF
    have gty2 := zFr.tr g0 (fr_Told_get hty2) (fun r h => by first | exact h | exact h.elim | omega | (revert h; dsimp only; omega)) (fun r h => by first | exact h | exact h.elim | omega | (revert h; dsimp only; omega))
    obtain ⟨ty3, hty3, hF⟩ := zh_bind hF
    have gty3 := zFr.tr gty2 (fr_Inverter_pushed hty3) (fun r h => by first | exact h | exact h.elim | omega | (revert h; dsimp only; omega)) (fun r h => by first | exact h | exact h.elim | omega | (revert h; dsimp only; omega))
    exact zFr.tr gty3 (g_Inverter_drive_31  hF) (fun _ h => h) (fun _ h => h)
  · replace hF := zh_t cy1 hF
    exact zFr.tr g0 (g_Inverter_drive_31  hF) (fun _ h => h) (fun _ h => h)
theorem fr_Inverter_drive {b : Nat} {μ : zI} {ν : zJ} {out : (zI × zJ)} (hE : E_Inverter_drive b μ ν = some out) : zFr (fun r => (b ≤ r ∧ r < b + 15)) (fun _ => False) μ ν out.1 out.2 := (g_Inverter_drive_0 hE)
theorem g_Inverter_rest_51 {b : Nat}   {μ : zI} {ν : zJ} {out : (zI × zJ)} (hF : e_Inverter_rest_51 b   μ ν = some out) : zFr (fun r => (b ≤ r ∧ r < b + 15)) (fun _ => False) μ ν out.1 out.2 := by
  unfold e_Inverter_rest_51 at hF
  have g0 := zFr.rf (fun r => (b ≤ r ∧ r < b + 15)) (fun _ => False) μ ν
  cases hF
  exact g0
theorem g_Inverter_rest_19 {b : Nat}  {s1 : Int32} {μ : zI} {ν : zJ} {out : (zI × zJ)} (hF : e_Inverter_rest_19 b  s1 μ ν = some out) : zFr (fun r => (b ≤ r ∧ r < b + 15)) (fun _ => False) μ ν out.1 out.2 := by
  unfold e_Inverter_rest_19 at hF
  have g0 := zFr.rf (fun r => (b ≤ r ∧ r < b + 15)) (fun _ => False) μ ν
  obtain ⟨μy1, hy1, hF⟩ := zh_let hF
  have gy1 := zFr.put g0 (r := (b + 13)) (by first | omega | (dsimp only; omega)) hy1
  obtain ⟨ty2, hty2, hF⟩ := zh_bind hF
  have gty2 := zFr.tr gy1 (fr_Told_get hty2) (fun r h => by first | exact h | exact h.elim | omega | (revert h; dsimp only; omega)) (fun r h => by first | exact h | exact h.elim | omega | (revert h; dsimp only; omega))
  rcases Decidable.em ((μy1 (b + 13) 6) < ty2.1) with cy3 | cy3
  · replace hF := zh_t cy3 hF
    exact zFr.tr gty2 (g_Inverter_rest_51  hF) (fun _ h => h) (fun _ h => h)
  · replace hF := zh_f cy3 hF
    obtain ⟨μy4, hy4, hF⟩ := zh_let hF
    have gy4 := zFr.put gty2 (r := (b + 13)) (by first | omega | (dsimp only; omega)) hy4
    obtain ⟨μy5, hy5, hF⟩ := zh_let hF
    have gy5 := zFr.put gy4 (r := (b + 13)) (by first | omega | (dsimp only; omega)) hy5
    obtain ⟨μy6, hy6, hF⟩ := zh_let hF
    have gy6 := zFr.put gy5 (r := (b + 13)) (by first | omega | (dsimp only; omega)) hy6
    exact zFr.tr gy6 (g_Inverter_rest_51  hF) (fun _ h => h) (fun _ h => h)
theorem g_Inverter_rest_0 {b : Nat}   {μ : zI} {ν : zJ} {out : (zI × zJ)} (hF : e_Inverter_rest_0 b   μ ν = some out) : zFr (fun r => (b ≤ r ∧ r < b + 15)) (fun _ => False) μ ν out.1 out.2 := by
  unfold e_Inverter_rest_0 at hF
  have g0 := zFr.rf (fun r => (b ≤ r ∧ r < b + 15)) (fun _ => False) μ ν
  rcases (Decidable.em ((μ (b + 13) 1) = 1)).symm with cy1 | cy1
  · replace hF := zh_f cy1 hF
    exact zFr.tr g0 (g_Inverter_rest_19  hF) (fun _ h => h) (fun _ h => h)
  · replace hF := zh_t cy1 hF
    exact zFr.tr g0 (g_Inverter_rest_19  hF) (fun _ h => h) (fun _ h => h)
theorem fr_Inverter_rest {b : Nat} {μ : zI} {ν : zJ} {out : (zI × zJ)} (hE : E_Inverter_rest b μ ν = some out) : zFr (fun r => (b ≤ r ∧ r < b + 15)) (fun _ => False) μ ν out.1 out.2 := (g_Inverter_rest_0 hE)
theorem g_Inverter_run_60 {b : Nat}  {x1 : Int32} {μ : zI} {ν : zJ} {out : (zI × zJ)} (hF : e_Inverter_run_60 b  x1 μ ν = some out) : zFr (fun r => (b ≤ r ∧ r < b + 15)) (fun _ => False) μ ν out.1 out.2 := by
  unfold e_Inverter_run_60 at hF
  have g0 := zFr.rf (fun r => (b ≤ r ∧ r < b + 15)) (fun _ => False) μ ν
  cases hF
  exact g0
theorem g_Inverter_run_44 {b : Nat}  {x1 : Int32} {s1 : Int32} {μ : zI} {ν : zJ} {out : (zI × zJ)} (hF : e_Inverter_run_44 b  x1 s1 μ ν = some out) : zFr (fun r => (b ≤ r ∧ r < b + 15)) (fun _ => False) μ ν out.1 out.2 := by
  unfold e_Inverter_run_44 at hF
  have g0 := zFr.rf (fun r => (b ≤ r ∧ r < b + 15)) (fun _ => False) μ ν
  obtain ⟨μy1, hy1, hF⟩ := zh_let hF
  have gy1 := zFr.put g0 (r := (b + 13)) (by first | omega | (dsimp only; omega)) hy1
  exact zFr.tr gy1 (g_Inverter_run_60  hF) (fun _ h => h) (fun _ h => h)
theorem g_Inverter_run_0 {b : Nat}  {x1 : Int32} {μ : zI} {ν : zJ} {out : (zI × zJ)} (hF : e_Inverter_run_0 b  x1 μ ν = some out) : zFr (fun r => (b ≤ r ∧ r < b + 15)) (fun _ => False) μ ν out.1 out.2 := by
  unfold e_Inverter_run_0 at hF
  have g0 := zFr.rf (fun r => (b ≤ r ∧ r < b + 15)) (fun _ => False) μ ν
  obtain ⟨μy1, hy1, hF⟩ := zh_let hF
  have gy1 := zFr.put g0 (r := (b + 13)) (by first | omega | (dsimp only; omega)) hy1
  rcases Decidable.em ((μy1 (b + 13) 0) = 0) with cy2 | cy2
  · replace hF := zh_t cy2 hF
    obtain ⟨ty3, hty3, hF⟩ := zh_bind hF
    have gty3 := zFr.tr gy1 (fr_Inverter_rest hty3) (fun r h => by first | exact h | exact h.elim | omega | (revert h; dsimp only; omega)) (fun r h => by first | exact h | exact h.elim | omega | (revert h; dsimp only; omega))
    obtain ⟨μy4, hy4, hF⟩ := zh_let hF
    have gy4 := zFr.put gty3 (r := (b + 13)) (by first | omega | (dsimp only; omega)) hy4
    exact zFr.tr gy4 (g_Inverter_run_60  hF) (fun _ h => h) (fun _ h => h)
  · replace hF := zh_f cy2 hF
    obtain ⟨ty5, hty5, hF⟩ := zh_bind hF
    have gty5 := zFr.tr gy1 (fr_Inverter_drive hty5) (fun r h => by first | exact h | exact h.elim | omega | (revert h; dsimp only; omega)) (fun r h => by first | exact h | exact h.elim | omega | (revert h; dsimp only; omega))
    rcases Decidable.em ((ty5.1 (b + 13) 7) = 0) with cy6 | cy6
    · replace hF := zh_t cy6 hF
      obtain ⟨ty7, hty7, hF⟩ := zh_bind hF
      have gty7 := zFr.tr gty5 (fr_Told_get hty7) (fun r h => by first | exact h | exact h.elim | omega | (revert h; dsimp only; omega)) (fun r h => by first | exact h | exact h.elim | omega | (revert h; dsimp only; omega))
      exact zFr.tr gty7 (g_Inverter_run_44  hF) (fun _ h => h) (fun _ h => h)
    · replace hF := zh_f cy6 hF
      exact zFr.tr gty5 (g_Inverter_run_44  hF) (fun _ h => h) (fun _ h => h)
theorem fr_Inverter_run {b : Nat} {x1 : Int32} {μ : zI} {ν : zJ} {out : (zI × zJ)} (hE : E_Inverter_run b x1 μ ν = some out) : zFr (fun r => (b ≤ r ∧ r < b + 15)) (fun _ => False) μ ν out.1 out.2 := (g_Inverter_run_0 hE)
theorem g_S_flag_9  {x0 : Int32} {s0 : Int32} {μ : zI} {ν : zJ} {out : (Int32 × zI × zJ)} (hF : e_S_flag_9   x0 s0 μ ν = some out) : zFr (fun _ => False) (fun _ => False) μ ν out.2.1 out.2.2 := by
  unfold e_S_flag_9 at hF
  have g0 := zFr.rf (fun _ => False) (fun _ => False) μ ν
  cases hF
  exact g0
theorem g_S_flag_0  {x0 : Int32} {μ : zI} {ν : zJ} {out : (Int32 × zI × zJ)} (hF : e_S_flag_0   x0 μ ν = some out) : zFr (fun _ => False) (fun _ => False) μ ν out.2.1 out.2.2 := by
  unfold e_S_flag_0 at hF
  have g0 := zFr.rf (fun _ => False) (fun _ => False) μ ν
  rcases Decidable.em (x0 = 0) with cy1 | cy1
  · replace hF := zh_t cy1 hF
    exact zFr.tr g0 (g_S_flag_9  hF) (fun _ h => h) (fun _ h => h)
  · replace hF := zh_f cy1 hF
    exact zFr.tr g0 (g_S_flag_9  hF) (fun _ h => h) (fun _ h => h)
theorem fr_S_flag {x0 : Int32} {μ : zI} {ν : zJ} {out : (Int32 × zI × zJ)} (hE : E_S_flag x0 μ ν = some out) : zFr (fun _ => False) (fun _ => False) μ ν out.2.1 out.2.2 := (g_S_flag_0 hE)
theorem g_Station_addUp_224 {b : Nat}  {s1 : Int32} {v2 : Int64} {s3 : Int32} {μ : zI} {ν : zJ} {out : (zI × zJ)} (hF : e_Station_addUp_224 b  s1 v2 s3 μ ν = some out) : zFr (fun _ => False) (fun r => (b ≤ r ∧ r < b + 15)) μ ν out.1 out.2 := by
  unfold e_Station_addUp_224 at hF
  have g0 := zFr.rf (fun _ => False) (fun r => (b ≤ r ∧ r < b + 15)) μ ν
  obtain ⟨ty1, hty1, hF⟩ := zh_bind hF
  have gty1 := zFr.tr g0 (fr_S_flag hty1) (fun r h => by first | exact h | exact h.elim | omega | (revert h; dsimp only; omega)) (fun r h => by first | exact h | exact h.elim | omega | (revert h; dsimp only; omega))
  obtain ⟨hy2, hF⟩ := zh_if hF
  obtain ⟨νy3, hy3, hF⟩ := zh_let hF
  have gy3 := zFr.putl gty1 (r := (b + 14)) (by first | omega | (dsimp only; omega)) hy3
  cases hF
  exact gy3
theorem g_Station_addUp_195 {b : Nat}  {s1 : Int32} {v2 : Int64} {s3 : Int32} {μ : zI} {ν : zJ} {out : (zI × zJ)} (hF : e_Station_addUp_195 b  s1 v2 s3 μ ν = some out) : zFr (fun _ => False) (fun r => (b ≤ r ∧ r < b + 15)) μ ν out.1 out.2 := by
  unfold e_Station_addUp_195 at hF
  have g0 := zFr.rf (fun _ => False) (fun r => (b ≤ r ∧ r < b + 15)) μ ν
  obtain ⟨ty1, hty1, hF⟩ := zh_bind hF
  have gty1 := zFr.tr g0 (fr_S_flag hty1) (fun r h => by first | exact h | exact h.elim | omega | (revert h; dsimp only; omega)) (fun r h => by first | exact h | exact h.elim | omega | (revert h; dsimp only; omega))
  obtain ⟨hy2, hF⟩ := zh_if hF
  obtain ⟨νy3, hy3, hF⟩ := zh_let hF
  have gy3 := zFr.putl gty1 (r := (b + 14)) (by first | omega | (dsimp only; omega)) hy3
  rcases (Decidable.em ((ty1.2.1 (b + 12) 5) = 0)).symm with cy4 | cy4
  · replace hF := zh_f cy4 hF
    exact zFr.tr gy3 (g_Station_addUp_224  hF) (fun _ h => h) (fun _ h => h)
  · replace hF := zh_t cy4 hF
    exact zFr.tr gy3 (g_Station_addUp_224  hF) (fun _ h => h) (fun _ h => h)
theorem g_Station_addUp_165 {b : Nat}  {s1 : Int32} {v2 : Int64} {s3 : Int32} {μ : zI} {ν : zJ} {out : (zI × zJ)} (hF : e_Station_addUp_165 b  s1 v2 s3 μ ν = some out) : zFr (fun _ => False) (fun r => (b ≤ r ∧ r < b + 15)) μ ν out.1 out.2 := by
  unfold e_Station_addUp_165 at hF
  have g0 := zFr.rf (fun _ => False) (fun r => (b ≤ r ∧ r < b + 15)) μ ν
  obtain ⟨ty1, hty1, hF⟩ := zh_bind hF
  have gty1 := zFr.tr g0 (fr_S_flag hty1) (fun r h => by first | exact h | exact h.elim | omega | (revert h; dsimp only; omega)) (fun r h => by first | exact h | exact h.elim | omega | (revert h; dsimp only; omega))
  obtain ⟨hy2, hF⟩ := zh_if hF
  obtain ⟨νy3, hy3, hF⟩ := zh_let hF
  have gy3 := zFr.putl gty1 (r := (b + 14)) (by first | omega | (dsimp only; omega)) hy3
  rcases (Decidable.em ((ty1.2.1 (b + 12) 5) = 2)).symm with cy4 | cy4
  · replace hF := zh_f cy4 hF
    exact zFr.tr gy3 (g_Station_addUp_195  hF) (fun _ h => h) (fun _ h => h)
  · replace hF := zh_t cy4 hF
    exact zFr.tr gy3 (g_Station_addUp_195  hF) (fun _ h => h) (fun _ h => h)
theorem g_Station_addUp_0 {b : Nat}   {μ : zI} {ν : zJ} {out : (zI × zJ)} (hF : e_Station_addUp_0 b   μ ν = some out) : zFr (fun _ => False) (fun r => (b ≤ r ∧ r < b + 15)) μ ν out.1 out.2 := by
  unfold e_Station_addUp_0 at hF
  have g0 := zFr.rf (fun _ => False) (fun r => (b ≤ r ∧ r < b + 15)) μ ν
  obtain ⟨νy1, hy1, hF⟩ := zh_let hF
  have gy1 := zFr.putl g0 (r := (b + 14)) (by first | omega | (dsimp only; omega)) hy1
  obtain ⟨νy2, hy2, hF⟩ := zh_let hF
  have gy2 := zFr.putl gy1 (r := (b + 14)) (by first | omega | (dsimp only; omega)) hy2
  obtain ⟨νy3, hy3, hF⟩ := zh_let hF
  have gy3 := zFr.putl gy2 (r := (b + 14)) (by first | omega | (dsimp only; omega)) hy3
  obtain ⟨νy4, hy4, hF⟩ := zh_let hF
  have gy4 := zFr.putl gy3 (r := (b + 14)) (by first | omega | (dsimp only; omega)) hy4
  obtain ⟨νy5, hy5, hF⟩ := zh_let hF
  have gy5 := zFr.putl gy4 (r := (b + 14)) (by first | omega | (dsimp only; omega)) hy5
  obtain ⟨νy6, hy6, hF⟩ := zh_let hF
  have gy6 := zFr.putl gy5 (r := (b + 14)) (by first | omega | (dsimp only; omega)) hy6
  obtain ⟨ty7, hty7, hF⟩ := zh_bind hF
  have gty7 := zFr.tr gy6 (fr_S_flag hty7) (fun r h => by first | exact h | exact h.elim | omega | (revert h; dsimp only; omega)) (fun r h => by first | exact h | exact h.elim | omega | (revert h; dsimp only; omega))
  obtain ⟨νy8, hy8, hF⟩ := zh_let hF
  have gy8 := zFr.putl gty7 (r := (b + 14)) (by first | omega | (dsimp only; omega)) hy8
  obtain ⟨ty9, hty9, hF⟩ := zh_bind hF
  have gty9 := zFr.tr gy8 (fr_S_flag hty9) (fun r h => by first | exact h | exact h.elim | omega | (revert h; dsimp only; omega)) (fun r h => by first | exact h | exact h.elim | omega | (revert h; dsimp only; omega))
  obtain ⟨νy10, hy10, hF⟩ := zh_let hF
  have gy10 := zFr.putl gty9 (r := (b + 14)) (by first | omega | (dsimp only; omega)) hy10
  rcases (Decidable.em ((ty9.2.1 (b + 12) 5) = 1)).symm with cy11 | cy11
  · replace hF := zh_f cy11 hF
    exact zFr.tr gy10 (g_Station_addUp_165  hF) (fun _ h => h) (fun _ h => h)
  · replace hF := zh_t cy11 hF
    exact zFr.tr gy10 (g_Station_addUp_165  hF) (fun _ h => h) (fun _ h => h)
theorem fr_Station_addUp {b : Nat} {μ : zI} {ν : zJ} {out : (zI × zJ)} (hE : E_Station_addUp b μ ν = some out) : zFr (fun _ => False) (fun r => (b ≤ r ∧ r < b + 15)) μ ν out.1 out.2 := (g_Station_addUp_0 hE)
theorem g_Station_advance_57 {b : Nat}   {μ : zI} {ν : zJ} {out : (zI × zJ)} (hF : e_Station_advance_57 b   μ ν = some out) : zFr (fun r => (b ≤ r ∧ r < b + 15)) (fun r => (b ≤ r ∧ r < b + 15)) μ ν out.1 out.2 := by
  unfold e_Station_advance_57 at hF
  have g0 := zFr.rf (fun r => (b ≤ r ∧ r < b + 15)) (fun r => (b ≤ r ∧ r < b + 15)) μ ν
  obtain ⟨ty1, hty1, hF⟩ := zh_bind hF
  have gty1 := zFr.tr g0 (fr_Battery_take hty1) (fun r h => by first | exact h | exact h.elim | omega | (revert h; dsimp only; omega)) (fun r h => by first | exact h | exact h.elim | omega | (revert h; dsimp only; omega))
  obtain ⟨y2, hy2, hF⟩ := zh_let hF
  obtain ⟨ty3, hty3, hF⟩ := zh_bind hF
  have gty3 := zFr.tr gty1 (fr_Inverter_run hty3) (fun r h => by first | exact h | exact h.elim | omega | (revert h; dsimp only; omega)) (fun r h => by first | exact h | exact h.elim | omega | (revert h; dsimp only; omega))
  obtain ⟨μy4, hy4, hF⟩ := zh_let hF
  have gy4 := zFr.put gty3 (r := b) (by first | omega | (dsimp only; omega)) hy4
  obtain ⟨ty5, hty5, hF⟩ := zh_bind hF
  have gty5 := zFr.tr gy4 (fr_Station_addUp hty5) (fun r h => by first | exact h | exact h.elim | omega | (revert h; dsimp only; omega)) (fun r h => by first | exact h | exact h.elim | omega | (revert h; dsimp only; omega))
  cases hF
  exact gty5
theorem g_Station_advance_0 {b : Nat}   {μ : zI} {ν : zJ} {out : (zI × zJ)} (hF : e_Station_advance_0 b   μ ν = some out) : zFr (fun r => (b ≤ r ∧ r < b + 15)) (fun r => (b ≤ r ∧ r < b + 15)) μ ν out.1 out.2 := by
  unfold e_Station_advance_0 at hF
  have g0 := zFr.rf (fun r => (b ≤ r ∧ r < b + 15)) (fun r => (b ≤ r ∧ r < b + 15)) μ ν
  obtain ⟨μy1, hy1, hF⟩ := zh_let hF
  have gy1 := zFr.put g0 (r := b) (by first | omega | (dsimp only; omega)) hy1
  obtain ⟨ty2, hty2, hF⟩ := zh_bind hF
  have gty2 := zFr.tr gy1 (fr_Station_doWhatComes hty2) (fun r h => by first | exact h | exact h.elim | omega | (revert h; dsimp only; omega)) (fun r h => by first | exact h | exact h.elim | omega | (revert h; dsimp only; omega))
  rcases Decidable.em ((ty2.1 (b + 11) 7) = 0) with cy3 | cy3
  · replace hF := zh_t cy3 hF
    obtain ⟨ty4, hty4, hF⟩ := zh_bind hF
    have gty4 := zFr.tr gty2 (fr_Follower_seek hty4) (fun r h => by first | exact h | exact h.elim | omega | (revert h; dsimp only; omega)) (fun r h => by first | exact h | exact h.elim | omega | (revert h; dsimp only; omega))
    exact zFr.tr gty4 (g_Station_advance_57  hF) (fun _ h => h) (fun _ h => h)
  · replace hF := zh_f cy3 hF
    obtain ⟨ty5, hty5, hF⟩ := zh_bind hF
    have gty5 := zFr.tr gty2 (fr_Follower_scanOn hty5) (fun r h => by first | exact h | exact h.elim | omega | (revert h; dsimp only; omega)) (fun r h => by first | exact h | exact h.elim | omega | (revert h; dsimp only; omega))
    exact zFr.tr gty5 (g_Station_advance_57  hF) (fun _ h => h) (fun _ h => h)
theorem fr_Station_advance {b : Nat} {μ : zI} {ν : zJ} {out : (zI × zJ)} (hE : E_Station_advance b μ ν = some out) : zFr (fun r => (b ≤ r ∧ r < b + 15)) (fun r => (b ≤ r ∧ r < b + 15)) μ ν out.1 out.2 := (g_Station_advance_0 hE)
theorem g_Log_add_0   {μ : zI} {ν : zJ} {out : (zI × zJ)} (hF : e_Log_add_0    μ ν = some out) : zFr (fun r => (34 ≤ r ∧ r < 34 + 1) ∨ (35 ≤ r ∧ r < 35 + 1)) (fun _ => False) μ ν out.1 out.2 := by
  unfold e_Log_add_0 at hF
  have g0 := zFr.rf (fun r => (34 ≤ r ∧ r < 34 + 1) ∨ (35 ≤ r ∧ r < 35 + 1)) (fun _ => False) μ ν
  obtain ⟨μy1, hy1, hF⟩ := zh_let hF
  have gy1 := zFr.put g0 (r := 34) (by first | omega | (dsimp only; omega)) hy1
  obtain ⟨μy2, hy2, hF⟩ := zh_let hF
  have gy2 := zFr.put gy1 (r := 34) (by first | omega | (dsimp only; omega)) hy2
  obtain ⟨y3, hy3, hF⟩ := zh_let hF
  obtain ⟨hy4, hF⟩ := zh_if hF
  obtain ⟨μy5, hy5, hF⟩ := zh_let hF
  have gy5 := zFr.put gy2 (r := 35) (by first | omega | (dsimp only; omega)) hy5
  obtain ⟨hy6, hF⟩ := zh_if hF
  obtain ⟨μy7, hy7, hF⟩ := zh_let hF
  have gy7 := zFr.put gy5 (r := 35) (by first | omega | (dsimp only; omega)) hy7
  obtain ⟨hy8, hF⟩ := zh_if hF
  obtain ⟨μy9, hy9, hF⟩ := zh_let hF
  have gy9 := zFr.put gy7 (r := 35) (by first | omega | (dsimp only; omega)) hy9
  obtain ⟨hy10, hF⟩ := zh_if hF
  obtain ⟨μy11, hy11, hF⟩ := zh_let hF
  have gy11 := zFr.put gy9 (r := 35) (by first | omega | (dsimp only; omega)) hy11
  obtain ⟨hy12, hF⟩ := zh_if hF
  obtain ⟨μy13, hy13, hF⟩ := zh_let hF
  have gy13 := zFr.put gy11 (r := 35) (by first | omega | (dsimp only; omega)) hy13
  obtain ⟨hy14, hF⟩ := zh_if hF
  obtain ⟨μy15, hy15, hF⟩ := zh_let hF
  have gy15 := zFr.put gy13 (r := 35) (by first | omega | (dsimp only; omega)) hy15
  obtain ⟨hy16, hF⟩ := zh_if hF
  obtain ⟨μy17, hy17, hF⟩ := zh_let hF
  have gy17 := zFr.put gy15 (r := 35) (by first | omega | (dsimp only; omega)) hy17
  obtain ⟨hy18, hF⟩ := zh_if hF
  obtain ⟨μy19, hy19, hF⟩ := zh_let hF
  have gy19 := zFr.put gy17 (r := 35) (by first | omega | (dsimp only; omega)) hy19
  obtain ⟨ty20, hty20, hF⟩ := zh_bind hF
  have gty20 := zFr.tr gy19 (fr_S_flag hty20) (fun r h => by first | exact h | exact h.elim | omega | (revert h; dsimp only; omega)) (fun r h => by first | exact h | exact h.elim | omega | (revert h; dsimp only; omega))
  obtain ⟨hy21, hF⟩ := zh_if hF
  obtain ⟨μy22, hy22, hF⟩ := zh_let hF
  have gy22 := zFr.put gty20 (r := 35) (by first | omega | (dsimp only; omega)) hy22
  obtain ⟨ty23, hty23, hF⟩ := zh_bind hF
  have gty23 := zFr.tr gy22 (fr_S_flag hty23) (fun r h => by first | exact h | exact h.elim | omega | (revert h; dsimp only; omega)) (fun r h => by first | exact h | exact h.elim | omega | (revert h; dsimp only; omega))
  obtain ⟨hy24, hF⟩ := zh_if hF
  obtain ⟨μy25, hy25, hF⟩ := zh_let hF
  have gy25 := zFr.put gty23 (r := 35) (by first | omega | (dsimp only; omega)) hy25
  cases hF
  exact gy25
theorem fr_Log_add {μ : zI} {ν : zJ} {out : (zI × zJ)} (hE : E_Log_add  μ ν = some out) : zFr (fun r => (34 ≤ r ∧ r < 34 + 1) ∨ (35 ≤ r ∧ r < 35 + 1)) (fun _ => False) μ ν out.1 out.2 := (g_Log_add_0 hE)
theorem g_S_ticks_33  {x1 : Int32} {μ : zI} {ν : zJ} {out : (Int32 × zI × zJ)} (hF : e_S_ticks_33   x1 μ ν = some out) : zFr (fun r => (34 ≤ r ∧ r < 34 + 1) ∨ (35 ≤ r ∧ r < 35 + 1) ∨ (4 ≤ r ∧ r < 4 + 15)) (fun r => (4 ≤ r ∧ r < 4 + 15)) μ ν out.2.1 out.2.2 := by
  unfold e_S_ticks_33 at hF
  have g0 := zFr.rf (fun r => (34 ≤ r ∧ r < 34 + 1) ∨ (35 ≤ r ∧ r < 35 + 1) ∨ (4 ≤ r ∧ r < 4 + 15)) (fun r => (4 ≤ r ∧ r < 4 + 15)) μ ν
  cases hF
  exact g0
theorem g_S_ticks_39  {out : (Int32 × zI × zJ)} : ∀ (n : Nat) (x1 : Int32) (x2 : Int32) (x3 : Int32) (μ : zI) (ν : zJ), f_S_ticks_39   n x1 x2 x3 μ ν = some out → zFr (fun r => (34 ≤ r ∧ r < 34 + 1) ∨ (35 ≤ r ∧ r < 35 + 1) ∨ (4 ≤ r ∧ r < 4 + 15)) (fun r => (4 ≤ r ∧ r < 4 + 15)) μ ν out.2.1 out.2.2 := by
  intro n
  induction n with
  | zero => intro x1 x2 x3 μ ν hF; cases hF
  | succ n ih =>
    intro x1 x2 x3 μ ν hF
    dsimp only [f_S_ticks_39] at hF
    have g0 := zFr.rf (fun r => (34 ≤ r ∧ r < 34 + 1) ∨ (35 ≤ r ∧ r < 35 + 1) ∨ (4 ≤ r ∧ r < 4 + 15)) (fun r => (4 ≤ r ∧ r < 4 + 15)) μ ν
    rcases Decidable.em (x1 ≤ x3) with cy1 | cy1
    · replace hF := zh_t cy1 hF
      cases hF
      exact g0
    · replace hF := zh_f cy1 hF
      obtain ⟨ty2, hty2, hF⟩ := zh_bind hF
      have gty2 := zFr.tr g0 (fr_Station_advance hty2) (fun r h => by first | exact h | exact h.elim | omega | (revert h; dsimp only; omega)) (fun r h => by first | exact h | exact h.elim | omega | (revert h; dsimp only; omega))
      obtain ⟨ty3, hty3, hF⟩ := zh_bind hF
      have gty3 := zFr.tr gty2 (fr_Log_add hty3) (fun r h => by first | exact h | exact h.elim | omega | (revert h; dsimp only; omega)) (fun r h => by first | exact h | exact h.elim | omega | (revert h; dsimp only; omega))
      obtain ⟨y4, hy4, hF⟩ := zh_let hF
      exact zFr.tr gty3 (ih _ _ _ _ _ hF) (fun _ h => h) (fun _ h => h)
theorem g_S_ticks_0  {x1 : Int32} {μ : zI} {ν : zJ} {out : (Int32 × zI × zJ)} (hF : e_S_ticks_0   x1 μ ν = some out) : zFr (fun r => (34 ≤ r ∧ r < 34 + 1) ∨ (35 ≤ r ∧ r < 35 + 1) ∨ (4 ≤ r ∧ r < 4 + 15)) (fun r => (4 ≤ r ∧ r < 4 + 15)) μ ν out.2.1 out.2.2 := by
  unfold e_S_ticks_0 at hF
  have g0 := zFr.rf (fun r => (34 ≤ r ∧ r < 34 + 1) ∨ (35 ≤ r ∧ r < 35 + 1) ∨ (4 ≤ r ∧ r < 4 + 15)) (fun r => (4 ≤ r ∧ r < 4 + 15)) μ ν
  obtain ⟨ty1, hty1, hF⟩ := zh_bind hF
  have gty1 := zFr.tr g0 (fr_S_isWithin hty1) (fun r h => by first | exact h | exact h.elim | omega | (revert h; dsimp only; omega)) (fun r h => by first | exact h | exact h.elim | omega | (revert h; dsimp only; omega))
  rcases Decidable.em (ty1.1 = 0) with cy2 | cy2
  · replace hF := zh_t cy2 hF
    exact zFr.tr gty1 (g_S_ticks_33  hF) (fun _ h => h) (fun _ h => h)
  · replace hF := zh_f cy2 hF
    rcases Decidable.em (9999 < ((ty1.2.1 4 0) + x1)) with cy3 | cy3
    · replace hF := zh_t cy3 hF
      exact zFr.tr gty1 (g_S_ticks_33  hF) (fun _ h => h) (fun _ h => h)
    · replace hF := zh_f cy3 hF
      obtain ⟨ty4, hty4, hF⟩ := zh_bind hF
      have gty4 := zFr.tr gty1 (fr_S_hasModules hty4) (fun r h => by first | exact h | exact h.elim | omega | (revert h; dsimp only; omega)) (fun r h => by first | exact h | exact h.elim | omega | (revert h; dsimp only; omega))
      rcases (Decidable.em (ty4.1 = 0)).symm with cy5 | cy5
      · replace hF := zh_f cy5 hF
        exact zFr.tr gty4 (g_S_ticks_39  zFuel _ _ _ _ _ hF) (fun _ h => h) (fun _ h => h)
      · replace hF := zh_t cy5 hF
        exact zFr.tr gty4 (g_S_ticks_33  hF) (fun _ h => h) (fun _ h => h)
theorem fr_S_ticks {x1 : Int32} {μ : zI} {ν : zJ} {out : (Int32 × zI × zJ)} (hE : E_S_ticks x1 μ ν = some out) : zFr (fun r => (34 ≤ r ∧ r < 34 + 1) ∨ (35 ≤ r ∧ r < 35 + 1) ∨ (4 ≤ r ∧ r < 4 + 15)) (fun r => (4 ≤ r ∧ r < 4 + 15)) μ ν out.2.1 out.2.2 := (g_S_ticks_0 hE)
theorem g_S_isModule_0  {x1 : Int32} {μ : zI} {ν : zJ} {out : (Int32 × zI × zJ)} (hF : e_S_isModule_0   x1 μ ν = some out) : zFr (fun _ => False) (fun _ => False) μ ν out.2.1 out.2.2 := by
  unfold e_S_isModule_0 at hF
  have g0 := zFr.rf (fun _ => False) (fun _ => False) μ ν
  obtain ⟨ty1, hty1, hF⟩ := zh_bind hF
  have gty1 := zFr.tr g0 (fr_S_isWithin hty1) (fun r h => by first | exact h | exact h.elim | omega | (revert h; dsimp only; omega)) (fun r h => by first | exact h | exact h.elim | omega | (revert h; dsimp only; omega))
  obtain ⟨hy2, hF⟩ := zh_if hF
  cases hF
  exact gty1
theorem fr_S_isModule {x1 : Int32} {μ : zI} {ν : zJ} {out : (Int32 × zI × zJ)} (hE : E_S_isModule x1 μ ν = some out) : zFr (fun _ => False) (fun _ => False) μ ν out.2.1 out.2.2 := (g_S_isModule_0 hE)
theorem g_Panel_lightOf_18 {b : Nat}  {x1 : Int32} {s0 : Int32} {μ : zI} {ν : zJ} {out : (Int32 × zI × zJ)} (hF : e_Panel_lightOf_18 b  x1 s0 μ ν = some out) : zFr (fun _ => False) (fun _ => False) μ ν out.2.1 out.2.2 := by
  unfold e_Panel_lightOf_18 at hF
  have g0 := zFr.rf (fun _ => False) (fun _ => False) μ ν
  cases hF
  exact g0
theorem g_Panel_lightOf_0 {b : Nat}  {x1 : Int32} {μ : zI} {ν : zJ} {out : (Int32 × zI × zJ)} (hF : e_Panel_lightOf_0 b  x1 μ ν = some out) : zFr (fun _ => False) (fun _ => False) μ ν out.2.1 out.2.2 := by
  unfold e_Panel_lightOf_0 at hF
  have g0 := zFr.rf (fun _ => False) (fun _ => False) μ ν
  obtain ⟨ty1, hty1, hF⟩ := zh_bind hF
  have gty1 := zFr.tr g0 (fr_Panel_has hty1) (fun r h => by first | exact h | exact h.elim | omega | (revert h; dsimp only; omega)) (fun r h => by first | exact h | exact h.elim | omega | (revert h; dsimp only; omega))
  rcases Decidable.em (ty1.1 = 0) with cy2 | cy2
  · replace hF := zh_t cy2 hF
    exact zFr.tr gty1 (g_Panel_lightOf_18  hF) (fun _ h => h) (fun _ h => h)
  · replace hF := zh_f cy2 hF
    obtain ⟨hy3, hF⟩ := zh_if hF
    exact zFr.tr gty1 (g_Panel_lightOf_18  hF) (fun _ h => h) (fun _ h => h)
theorem fr_Panel_lightOf {b : Nat} {x1 : Int32} {μ : zI} {ν : zJ} {out : (Int32 × zI × zJ)} (hE : E_Panel_lightOf b x1 μ ν = some out) : zFr (fun _ => False) (fun _ => False) μ ν out.2.1 out.2.2 := (g_Panel_lightOf_0 hE)
theorem g_S_light_18  {x1 : Int32} {x2 : Int32} {μ : zI} {ν : zJ} {out : (Int32 × zI × zJ)} (hF : e_S_light_18   x1 x2 μ ν = some out) : zFr (fun r => (4 ≤ r ∧ r < 4 + 15)) (fun _ => False) μ ν out.2.1 out.2.2 := by
  unfold e_S_light_18 at hF
  have g0 := zFr.rf (fun r => (4 ≤ r ∧ r < 4 + 15)) (fun _ => False) μ ν
  cases hF
  exact g0
theorem g_S_light_0  {x1 : Int32} {x2 : Int32} {μ : zI} {ν : zJ} {out : (Int32 × zI × zJ)} (hF : e_S_light_0   x1 x2 μ ν = some out) : zFr (fun r => (4 ≤ r ∧ r < 4 + 15)) (fun _ => False) μ ν out.2.1 out.2.2 := by
  unfold e_S_light_0 at hF
  have g0 := zFr.rf (fun r => (4 ≤ r ∧ r < 4 + 15)) (fun _ => False) μ ν
  obtain ⟨ty1, hty1, hF⟩ := zh_bind hF
  have gty1 := zFr.tr g0 (fr_S_isModule hty1) (fun r h => by first | exact h | exact h.elim | omega | (revert h; dsimp only; omega)) (fun r h => by first | exact h | exact h.elim | omega | (revert h; dsimp only; omega))
  rcases Decidable.em (ty1.1 = 0) with cy2 | cy2
  · replace hF := zh_t cy2 hF
    exact zFr.tr gty1 (g_S_light_18  hF) (fun _ h => h) (fun _ h => h)
  · replace hF := zh_f cy2 hF
    obtain ⟨ty3, hty3, hF⟩ := zh_bind hF
    have gty3 := zFr.tr gty1 (fr_S_isWithin hty3) (fun r h => by first | exact h | exact h.elim | omega | (revert h; dsimp only; omega)) (fun r h => by first | exact h | exact h.elim | omega | (revert h; dsimp only; omega))
    rcases (Decidable.em (ty3.1 = 0)).symm with cy4 | cy4
    · replace hF := zh_f cy4 hF
      obtain ⟨ty5, hty5, hF⟩ := zh_bind hF
      have gty5 := zFr.tr gty3 (fr_Panel_lightOf hty5) (fun r h => by first | exact h | exact h.elim | omega | (revert h; dsimp only; omega)) (fun r h => by first | exact h | exact h.elim | omega | (revert h; dsimp only; omega))
      obtain ⟨y6, hy6, hF⟩ := zh_let hF
      obtain ⟨ty7, hty7, hF⟩ := zh_bind hF
      have gty7 := zFr.tr gty5 (fr_Panel_setLight hty7) (fun r h => by first | exact h | exact h.elim | omega | (revert h; dsimp only; omega)) (fun r h => by first | exact h | exact h.elim | omega | (revert h; dsimp only; omega))
      obtain ⟨ty8, hty8, hF⟩ := zh_bind hF
      have gty8 := zFr.tr gty7 (fr_Panel_reckon hty8) (fun r h => by first | exact h | exact h.elim | omega | (revert h; dsimp only; omega)) (fun r h => by first | exact h | exact h.elim | omega | (revert h; dsimp only; omega))
      cases hF
      exact gty8
    · replace hF := zh_t cy4 hF
      exact zFr.tr gty3 (g_S_light_18  hF) (fun _ h => h) (fun _ h => h)
theorem fr_S_light {x1 : Int32} {x2 : Int32} {μ : zI} {ν : zJ} {out : (Int32 × zI × zJ)} (hE : E_S_light x1 x2 μ ν = some out) : zFr (fun r => (4 ≤ r ∧ r < 4 + 15)) (fun _ => False) μ ν out.2.1 out.2.2 := (g_S_light_0 hE)
theorem g_S_grid_0  {x1 : Int32} {μ : zI} {ν : zJ} {out : (Int32 × zI × zJ)} (hF : e_S_grid_0   x1 μ ν = some out) : zFr (fun r => (4 ≤ r ∧ r < 4 + 15)) (fun _ => False) μ ν out.2.1 out.2.2 := by
  unfold e_S_grid_0 at hF
  have g0 := zFr.rf (fun r => (4 ≤ r ∧ r < 4 + 15)) (fun _ => False) μ ν
  obtain ⟨ty1, hty1, hF⟩ := zh_bind hF
  have gty1 := zFr.tr g0 (fr_S_isWithin hty1) (fun r h => by first | exact h | exact h.elim | omega | (revert h; dsimp only; omega)) (fun r h => by first | exact h | exact h.elim | omega | (revert h; dsimp only; omega))
  rcases (Decidable.em (ty1.1 = 0)).symm with cy2 | cy2
  · replace hF := zh_f cy2 hF
    obtain ⟨y3, hy3, hF⟩ := zh_let hF
    obtain ⟨μy4, hy4, hF⟩ := zh_let hF
    have gy4 := zFr.put gty1 (r := (4 + 13)) (by first | omega | (dsimp only; omega)) hy4
    cases hF
    exact gy4
  · replace hF := zh_t cy2 hF
    cases hF
    exact gty1
theorem fr_S_grid {x1 : Int32} {μ : zI} {ν : zJ} {out : (Int32 × zI × zJ)} (hE : E_S_grid x1 μ ν = some out) : zFr (fun r => (4 ≤ r ∧ r < 4 + 15)) (fun _ => False) μ ν out.2.1 out.2.2 := (g_S_grid_0 hE)
theorem g_S_tune_0  {x1 : Int32} {μ : zI} {ν : zJ} {out : (Int32 × zI × zJ)} (hF : e_S_tune_0   x1 μ ν = some out) : zFr (fun r => (4 ≤ r ∧ r < 4 + 15)) (fun _ => False) μ ν out.2.1 out.2.2 := by
  unfold e_S_tune_0 at hF
  have g0 := zFr.rf (fun r => (4 ≤ r ∧ r < 4 + 15)) (fun _ => False) μ ν
  obtain ⟨ty1, hty1, hF⟩ := zh_bind hF
  have gty1 := zFr.tr g0 (fr_S_isWithin hty1) (fun r h => by first | exact h | exact h.elim | omega | (revert h; dsimp only; omega)) (fun r h => by first | exact h | exact h.elim | omega | (revert h; dsimp only; omega))
  rcases (Decidable.em (ty1.1 = 0)).symm with cy2 | cy2
  · replace hF := zh_f cy2 hF
    obtain ⟨y3, hy3, hF⟩ := zh_let hF
    obtain ⟨μy4, hy4, hF⟩ := zh_let hF
    have gy4 := zFr.put gty1 (r := (4 + 13)) (by first | omega | (dsimp only; omega)) hy4
    cases hF
    exact gy4
  · replace hF := zh_t cy2 hF
    cases hF
    exact gty1
theorem fr_S_tune {x1 : Int32} {μ : zI} {ν : zJ} {out : (Int32 × zI × zJ)} (hE : E_S_tune x1 μ ν = some out) : zFr (fun r => (4 ≤ r ∧ r < 4 + 15)) (fun _ => False) μ ν out.2.1 out.2.2 := (g_S_tune_0 hE)
theorem g_S_scan_0   {μ : zI} {ν : zJ} {out : (Int32 × zI × zJ)} (hF : e_S_scan_0    μ ν = some out) : zFr (fun r => (4 ≤ r ∧ r < 4 + 15)) (fun _ => False) μ ν out.2.1 out.2.2 := by
  unfold e_S_scan_0 at hF
  have g0 := zFr.rf (fun r => (4 ≤ r ∧ r < 4 + 15)) (fun _ => False) μ ν
  obtain ⟨ty1, hty1, hF⟩ := zh_bind hF
  have gty1 := zFr.tr g0 (fr_S_hasModules hty1) (fun r h => by first | exact h | exact h.elim | omega | (revert h; dsimp only; omega)) (fun r h => by first | exact h | exact h.elim | omega | (revert h; dsimp only; omega))
  rcases (Decidable.em (ty1.1 = 0)).symm with cy2 | cy2
  · replace hF := zh_f cy2 hF
    rcases Decidable.em ((ty1.2.1 (4 + 11) 7) = 0) with cy3 | cy3
    · replace hF := zh_t cy3 hF
      obtain ⟨ty4, hty4, hF⟩ := zh_bind hF
      have gty4 := zFr.tr gty1 (fr_Follower_beginScan hty4) (fun r h => by first | exact h | exact h.elim | omega | (revert h; dsimp only; omega)) (fun r h => by first | exact h | exact h.elim | omega | (revert h; dsimp only; omega))
      cases hF
      exact gty4
    · replace hF := zh_f cy3 hF
      cases hF
      exact gty1
  · replace hF := zh_t cy2 hF
    cases hF
    exact gty1
theorem fr_S_scan {μ : zI} {ν : zJ} {out : (Int32 × zI × zJ)} (hE : E_S_scan  μ ν = some out) : zFr (fun r => (4 ≤ r ∧ r < 4 + 15)) (fun _ => False) μ ν out.2.1 out.2.2 := (g_S_scan_0 hE)
theorem g_Told_isOne_15  {x0 : Int32} {s0 : Int32} {μ : zI} {ν : zJ} {out : (Int32 × zI × zJ)} (hF : e_Told_isOne_15   x0 s0 μ ν = some out) : zFr (fun _ => False) (fun _ => False) μ ν out.2.1 out.2.2 := by
  unfold e_Told_isOne_15 at hF
  have g0 := zFr.rf (fun _ => False) (fun _ => False) μ ν
  obtain ⟨hy1, hF⟩ := zh_if hF
  cases hF
  exact g0
theorem g_Told_isOne_14  {x0 : Int32} {μ : zI} {ν : zJ} {out : (Int32 × zI × zJ)} (hF : e_Told_isOne_14   x0 μ ν = some out) : zFr (fun _ => False) (fun _ => False) μ ν out.2.1 out.2.2 := by
  unfold e_Told_isOne_14 at hF
  have g0 := zFr.rf (fun _ => False) (fun _ => False) μ ν
  exact zFr.tr g0 (g_Told_isOne_15  hF) (fun _ h => h) (fun _ h => h)
theorem g_Told_isOne_0  {x0 : Int32} {μ : zI} {ν : zJ} {out : (Int32 × zI × zJ)} (hF : e_Told_isOne_0   x0 μ ν = some out) : zFr (fun _ => False) (fun _ => False) μ ν out.2.1 out.2.2 := by
  unfold e_Told_isOne_0 at hF
  have g0 := zFr.rf (fun _ => False) (fun _ => False) μ ν
  rcases Decidable.em (x0 < 0) with cy1 | cy1
  · replace hF := zh_t cy1 hF
    exact zFr.tr g0 (g_Told_isOne_14  hF) (fun _ h => h) (fun _ h => h)
  · replace hF := zh_f cy1 hF
    rcases Decidable.em (19 ≤ x0) with cy2 | cy2
    · replace hF := zh_t cy2 hF
      exact zFr.tr g0 (g_Told_isOne_14  hF) (fun _ h => h) (fun _ h => h)
    · replace hF := zh_f cy2 hF
      exact zFr.tr g0 (g_Told_isOne_15  hF) (fun _ h => h) (fun _ h => h)
theorem fr_Told_isOne {x0 : Int32} {μ : zI} {ν : zJ} {out : (Int32 × zI × zJ)} (hE : E_Told_isOne x0 μ ν = some out) : zFr (fun _ => False) (fun _ => False) μ ν out.2.1 out.2.2 := (g_Told_isOne_0 hE)
theorem g_S_told_22  {x1 : Int32} {s0 : Int32} {μ : zI} {ν : zJ} {out : (Int32 × zI × zJ)} (hF : e_S_told_22   x1 s0 μ ν = some out) : zFr (fun _ => False) (fun _ => False) μ ν out.2.1 out.2.2 := by
  unfold e_S_told_22 at hF
  have g0 := zFr.rf (fun _ => False) (fun _ => False) μ ν
  cases hF
  exact g0
theorem g_S_told_0  {x1 : Int32} {μ : zI} {ν : zJ} {out : (Int32 × zI × zJ)} (hF : e_S_told_0   x1 μ ν = some out) : zFr (fun _ => False) (fun _ => False) μ ν out.2.1 out.2.2 := by
  unfold e_S_told_0 at hF
  have g0 := zFr.rf (fun _ => False) (fun _ => False) μ ν
  obtain ⟨ty1, hty1, hF⟩ := zh_bind hF
  have gty1 := zFr.tr g0 (fr_Told_isOne hty1) (fun r h => by first | exact h | exact h.elim | omega | (revert h; dsimp only; omega)) (fun r h => by first | exact h | exact h.elim | omega | (revert h; dsimp only; omega))
  rcases Decidable.em (ty1.1 = 0) with cy2 | cy2
  · replace hF := zh_t cy2 hF
    exact zFr.tr gty1 (g_S_told_22  hF) (fun _ h => h) (fun _ h => h)
  · replace hF := zh_f cy2 hF
    obtain ⟨ty3, hty3, hF⟩ := zh_bind hF
    have gty3 := zFr.tr gty1 (fr_Told_get hty3) (fun r h => by first | exact h | exact h.elim | omega | (revert h; dsimp only; omega)) (fun r h => by first | exact h | exact h.elim | omega | (revert h; dsimp only; omega))
    exact zFr.tr gty3 (g_S_told_22  hF) (fun _ h => h) (fun _ h => h)
theorem fr_S_told {x1 : Int32} {μ : zI} {ν : zJ} {out : (Int32 × zI × zJ)} (hE : E_S_told x1 μ ν = some out) : zFr (fun _ => False) (fun _ => False) μ ν out.2.1 out.2.2 := (g_S_told_0 hE)
theorem g_Told_mayBe_33  {x0 : Int32} {x1 : Int32} {s0 : Int32} {μ : zI} {ν : zJ} {out : (Int32 × zI × zJ)} (hF : e_Told_mayBe_33   x0 x1 s0 μ ν = some out) : zFr (fun _ => False) (fun _ => False) μ ν out.2.1 out.2.2 := by
  unfold e_Told_mayBe_33 at hF
  have g0 := zFr.rf (fun _ => False) (fun _ => False) μ ν
  obtain ⟨hy1, hF⟩ := zh_if hF
  cases hF
  exact g0
theorem g_Told_mayBe_32  {x0 : Int32} {x1 : Int32} {μ : zI} {ν : zJ} {out : (Int32 × zI × zJ)} (hF : e_Told_mayBe_32   x0 x1 μ ν = some out) : zFr (fun _ => False) (fun _ => False) μ ν out.2.1 out.2.2 := by
  unfold e_Told_mayBe_32 at hF
  have g0 := zFr.rf (fun _ => False) (fun _ => False) μ ν
  exact zFr.tr g0 (g_Told_mayBe_33  hF) (fun _ h => h) (fun _ h => h)
theorem g_Told_mayBe_0  {x0 : Int32} {x1 : Int32} {μ : zI} {ν : zJ} {out : (Int32 × zI × zJ)} (hF : e_Told_mayBe_0   x0 x1 μ ν = some out) : zFr (fun _ => False) (fun _ => False) μ ν out.2.1 out.2.2 := by
  unfold e_Told_mayBe_0 at hF
  have g0 := zFr.rf (fun _ => False) (fun _ => False) μ ν
  rcases Decidable.em (x0 < 0) with cy1 | cy1
  · replace hF := zh_t cy1 hF
    exact zFr.tr g0 (g_Told_mayBe_32  hF) (fun _ h => h) (fun _ h => h)
  · replace hF := zh_f cy1 hF
    rcases Decidable.em (19 ≤ x0) with cy2 | cy2
    · replace hF := zh_t cy2 hF
      exact zFr.tr g0 (g_Told_mayBe_32  hF) (fun _ h => h) (fun _ h => h)
    · replace hF := zh_f cy2 hF
      obtain ⟨hy3, hF⟩ := zh_if hF
      rcases Decidable.em (x1 < (((zTabs.getD 1 ("", "", [])).2.2).getD (Int32.toNatClampNeg x0) 0)) with cy4 | cy4
      · replace hF := zh_t cy4 hF
        exact zFr.tr g0 (g_Told_mayBe_32  hF) (fun _ h => h) (fun _ h => h)
      · replace hF := zh_f cy4 hF
        obtain ⟨hy5, hF⟩ := zh_if hF
        rcases Decidable.em ((((zTabs.getD 2 ("", "", [])).2.2).getD (Int32.toNatClampNeg x0) 0) < x1) with cy6 | cy6
        · replace hF := zh_t cy6 hF
          exact zFr.tr g0 (g_Told_mayBe_32  hF) (fun _ h => h) (fun _ h => h)
        · replace hF := zh_f cy6 hF
          exact zFr.tr g0 (g_Told_mayBe_33  hF) (fun _ h => h) (fun _ h => h)
theorem fr_Told_mayBe {x0 : Int32} {x1 : Int32} {μ : zI} {ν : zJ} {out : (Int32 × zI × zJ)} (hE : E_Told_mayBe x0 x1 μ ν = some out) : zFr (fun _ => False) (fun _ => False) μ ν out.2.1 out.2.2 := (g_Told_mayBe_0 hE)
theorem g_S_settle_33  {x1 : Int32} {x2 : Int32} {x3 : Int32} {μ : zI} {ν : zJ} {out : (Int32 × zI × zJ)} (hF : e_S_settle_33   x1 x2 x3 μ ν = some out) : zFr (fun r => (4 ≤ r ∧ r < 4 + 15)) (fun _ => False) μ ν out.2.1 out.2.2 := by
  unfold e_S_settle_33 at hF
  have g0 := zFr.rf (fun r => (4 ≤ r ∧ r < 4 + 15)) (fun _ => False) μ ν
  cases hF
  exact g0
theorem g_S_settle_20  {x1 : Int32} {x2 : Int32} {s0 : Int32} {μ : zI} {ν : zJ} {out : (Int32 × zI × zJ)} (hF : e_S_settle_20   x1 x2 s0 μ ν = some out) : zFr (fun r => (4 ≤ r ∧ r < 4 + 15)) (fun _ => False) μ ν out.2.1 out.2.2 := by
  unfold e_S_settle_20 at hF
  have g0 := zFr.rf (fun r => (4 ≤ r ∧ r < 4 + 15)) (fun _ => False) μ ν
  rcases Decidable.em (s0 = 0) with cy1 | cy1
  · replace hF := zh_t cy1 hF
    exact zFr.tr g0 (g_S_settle_33  hF) (fun _ h => h) (fun _ h => h)
  · replace hF := zh_f cy1 hF
    obtain ⟨ty2, hty2, hF⟩ := zh_bind hF
    have gty2 := zFr.tr g0 (fr_Told_mayBe hty2) (fun r h => by first | exact h | exact h.elim | omega | (revert h; dsimp only; omega)) (fun r h => by first | exact h | exact h.elim | omega | (revert h; dsimp only; omega))
    rcases (Decidable.em (ty2.1 = 0)).symm with cy3 | cy3
    · replace hF := zh_f cy3 hF
      obtain ⟨ty4, hty4, hF⟩ := zh_bind hF
      have gty4 := zFr.tr gty2 (fr_Told_get hty4) (fun r h => by first | exact h | exact h.elim | omega | (revert h; dsimp only; omega)) (fun r h => by first | exact h | exact h.elim | omega | (revert h; dsimp only; omega))
      obtain ⟨y5, hy5, hF⟩ := zh_let hF
      obtain ⟨ty6, hty6, hF⟩ := zh_bind hF
      have gty6 := zFr.tr gty4 (fr_Told_put hty6) (fun r h => by first | exact h | exact h.elim | omega | (revert h; dsimp only; omega)) (fun r h => by first | exact h | exact h.elim | omega | (revert h; dsimp only; omega))
      cases hF
      exact gty6
    · replace hF := zh_t cy3 hF
      exact zFr.tr gty2 (g_S_settle_33  hF) (fun _ h => h) (fun _ h => h)
theorem g_S_settle_15  {x1 : Int32} {x2 : Int32} {μ : zI} {ν : zJ} {out : (Int32 × zI × zJ)} (hF : e_S_settle_15   x1 x2 μ ν = some out) : zFr (fun r => (4 ≤ r ∧ r < 4 + 15)) (fun _ => False) μ ν out.2.1 out.2.2 := by
  unfold e_S_settle_15 at hF
  have g0 := zFr.rf (fun r => (4 ≤ r ∧ r < 4 + 15)) (fun _ => False) μ ν
  exact zFr.tr g0 (g_S_settle_20  hF) (fun _ h => h) (fun _ h => h)
theorem g_S_settle_0  {x1 : Int32} {x2 : Int32} {μ : zI} {ν : zJ} {out : (Int32 × zI × zJ)} (hF : e_S_settle_0   x1 x2 μ ν = some out) : zFr (fun r => (4 ≤ r ∧ r < 4 + 15)) (fun _ => False) μ ν out.2.1 out.2.2 := by
  unfold e_S_settle_0 at hF
  have g0 := zFr.rf (fun r => (4 ≤ r ∧ r < 4 + 15)) (fun _ => False) μ ν
  rcases Decidable.em (x1 = 1) with cy1 | cy1
  · replace hF := zh_t cy1 hF
    exact zFr.tr g0 (g_S_settle_15  hF) (fun _ h => h) (fun _ h => h)
  · replace hF := zh_f cy1 hF
    obtain ⟨ty2, hty2, hF⟩ := zh_bind hF
    have gty2 := zFr.tr g0 (fr_S_isWithin hty2) (fun r h => by first | exact h | exact h.elim | omega | (revert h; dsimp only; omega)) (fun r h => by first | exact h | exact h.elim | omega | (revert h; dsimp only; omega))
    rcases Decidable.em (ty2.1 = 0) with cy3 | cy3
    · replace hF := zh_t cy3 hF
      exact zFr.tr gty2 (g_S_settle_20  hF) (fun _ h => h) (fun _ h => h)
    · replace hF := zh_f cy3 hF
      exact zFr.tr gty2 (g_S_settle_15  hF) (fun _ h => h) (fun _ h => h)
theorem fr_S_settle {x1 : Int32} {x2 : Int32} {μ : zI} {ν : zJ} {out : (Int32 × zI × zJ)} (hE : E_S_settle x1 x2 μ ν = some out) : zFr (fun r => (4 ≤ r ∧ r < 4 + 15)) (fun _ => False) μ ν out.2.1 out.2.2 := (g_S_settle_0 hE)
theorem g_Panel_ampsOf_18 {b : Nat}  {x1 : Int32} {s0 : Int32} {μ : zI} {ν : zJ} {out : (Int32 × zI × zJ)} (hF : e_Panel_ampsOf_18 b  x1 s0 μ ν = some out) : zFr (fun _ => False) (fun _ => False) μ ν out.2.1 out.2.2 := by
  unfold e_Panel_ampsOf_18 at hF
  have g0 := zFr.rf (fun _ => False) (fun _ => False) μ ν
  cases hF
  exact g0
theorem g_Panel_ampsOf_0 {b : Nat}  {x1 : Int32} {μ : zI} {ν : zJ} {out : (Int32 × zI × zJ)} (hF : e_Panel_ampsOf_0 b  x1 μ ν = some out) : zFr (fun _ => False) (fun _ => False) μ ν out.2.1 out.2.2 := by
  unfold e_Panel_ampsOf_0 at hF
  have g0 := zFr.rf (fun _ => False) (fun _ => False) μ ν
  obtain ⟨ty1, hty1, hF⟩ := zh_bind hF
  have gty1 := zFr.tr g0 (fr_Panel_has hty1) (fun r h => by first | exact h | exact h.elim | omega | (revert h; dsimp only; omega)) (fun r h => by first | exact h | exact h.elim | omega | (revert h; dsimp only; omega))
  rcases Decidable.em (ty1.1 = 0) with cy2 | cy2
  · replace hF := zh_t cy2 hF
    exact zFr.tr gty1 (g_Panel_ampsOf_18  hF) (fun _ h => h) (fun _ h => h)
  · replace hF := zh_f cy2 hF
    obtain ⟨hy3, hF⟩ := zh_if hF
    exact zFr.tr gty1 (g_Panel_ampsOf_18  hF) (fun _ h => h) (fun _ h => h)
theorem fr_Panel_ampsOf {b : Nat} {x1 : Int32} {μ : zI} {ν : zJ} {out : (Int32 × zI × zJ)} (hE : E_Panel_ampsOf b x1 μ ν = some out) : zFr (fun _ => False) (fun _ => False) μ ν out.2.1 out.2.2 := (g_Panel_ampsOf_0 hE)
theorem g_Panel_voltsOf_18 {b : Nat}  {x1 : Int32} {s0 : Int32} {μ : zI} {ν : zJ} {out : (Int32 × zI × zJ)} (hF : e_Panel_voltsOf_18 b  x1 s0 μ ν = some out) : zFr (fun _ => False) (fun _ => False) μ ν out.2.1 out.2.2 := by
  unfold e_Panel_voltsOf_18 at hF
  have g0 := zFr.rf (fun _ => False) (fun _ => False) μ ν
  cases hF
  exact g0
theorem g_Panel_voltsOf_0 {b : Nat}  {x1 : Int32} {μ : zI} {ν : zJ} {out : (Int32 × zI × zJ)} (hF : e_Panel_voltsOf_0 b  x1 μ ν = some out) : zFr (fun _ => False) (fun _ => False) μ ν out.2.1 out.2.2 := by
  unfold e_Panel_voltsOf_0 at hF
  have g0 := zFr.rf (fun _ => False) (fun _ => False) μ ν
  obtain ⟨ty1, hty1, hF⟩ := zh_bind hF
  have gty1 := zFr.tr g0 (fr_Panel_has hty1) (fun r h => by first | exact h | exact h.elim | omega | (revert h; dsimp only; omega)) (fun r h => by first | exact h | exact h.elim | omega | (revert h; dsimp only; omega))
  rcases Decidable.em (ty1.1 = 0) with cy2 | cy2
  · replace hF := zh_t cy2 hF
    exact zFr.tr gty1 (g_Panel_voltsOf_18  hF) (fun _ h => h) (fun _ h => h)
  · replace hF := zh_f cy2 hF
    obtain ⟨hy3, hF⟩ := zh_if hF
    exact zFr.tr gty1 (g_Panel_voltsOf_18  hF) (fun _ h => h) (fun _ h => h)
theorem fr_Panel_voltsOf {b : Nat} {x1 : Int32} {μ : zI} {ν : zJ} {out : (Int32 × zI × zJ)} (hE : E_Panel_voltsOf b x1 μ ν = some out) : zFr (fun _ => False) (fun _ => False) μ ν out.2.1 out.2.2 := (g_Panel_voltsOf_0 hE)
theorem g_Panel_litOf_18 {b : Nat}  {x1 : Int32} {s0 : Int32} {μ : zI} {ν : zJ} {out : (Int32 × zI × zJ)} (hF : e_Panel_litOf_18 b  x1 s0 μ ν = some out) : zFr (fun _ => False) (fun _ => False) μ ν out.2.1 out.2.2 := by
  unfold e_Panel_litOf_18 at hF
  have g0 := zFr.rf (fun _ => False) (fun _ => False) μ ν
  cases hF
  exact g0
theorem g_Panel_litOf_0 {b : Nat}  {x1 : Int32} {μ : zI} {ν : zJ} {out : (Int32 × zI × zJ)} (hF : e_Panel_litOf_0 b  x1 μ ν = some out) : zFr (fun _ => False) (fun _ => False) μ ν out.2.1 out.2.2 := by
  unfold e_Panel_litOf_0 at hF
  have g0 := zFr.rf (fun _ => False) (fun _ => False) μ ν
  obtain ⟨ty1, hty1, hF⟩ := zh_bind hF
  have gty1 := zFr.tr g0 (fr_Panel_has hty1) (fun r h => by first | exact h | exact h.elim | omega | (revert h; dsimp only; omega)) (fun r h => by first | exact h | exact h.elim | omega | (revert h; dsimp only; omega))
  rcases Decidable.em (ty1.1 = 0) with cy2 | cy2
  · replace hF := zh_t cy2 hF
    exact zFr.tr gty1 (g_Panel_litOf_18  hF) (fun _ h => h) (fun _ h => h)
  · replace hF := zh_f cy2 hF
    obtain ⟨hy3, hF⟩ := zh_if hF
    exact zFr.tr gty1 (g_Panel_litOf_18  hF) (fun _ h => h) (fun _ h => h)
theorem fr_Panel_litOf {b : Nat} {x1 : Int32} {μ : zI} {ν : zJ} {out : (Int32 × zI × zJ)} (hE : E_Panel_litOf b x1 μ ν = some out) : zFr (fun _ => False) (fun _ => False) μ ν out.2.1 out.2.2 := (g_Panel_litOf_0 hE)
theorem g_Panel_isPoint_16  {x0 : Int32} {s0 : Int32} {μ : zI} {ν : zJ} {out : (Int32 × zI × zJ)} (hF : e_Panel_isPoint_16   x0 s0 μ ν = some out) : zFr (fun _ => False) (fun _ => False) μ ν out.2.1 out.2.2 := by
  unfold e_Panel_isPoint_16 at hF
  have g0 := zFr.rf (fun _ => False) (fun _ => False) μ ν
  obtain ⟨hy1, hF⟩ := zh_if hF
  cases hF
  exact g0
theorem g_Panel_isPoint_15  {x0 : Int32} {μ : zI} {ν : zJ} {out : (Int32 × zI × zJ)} (hF : e_Panel_isPoint_15   x0 μ ν = some out) : zFr (fun _ => False) (fun _ => False) μ ν out.2.1 out.2.2 := by
  unfold e_Panel_isPoint_15 at hF
  have g0 := zFr.rf (fun _ => False) (fun _ => False) μ ν
  exact zFr.tr g0 (g_Panel_isPoint_16  hF) (fun _ h => h) (fun _ h => h)
theorem g_Panel_isPoint_0  {x0 : Int32} {μ : zI} {ν : zJ} {out : (Int32 × zI × zJ)} (hF : e_Panel_isPoint_0   x0 μ ν = some out) : zFr (fun _ => False) (fun _ => False) μ ν out.2.1 out.2.2 := by
  unfold e_Panel_isPoint_0 at hF
  have g0 := zFr.rf (fun _ => False) (fun _ => False) μ ν
  rcases Decidable.em (x0 < 0) with cy1 | cy1
  · replace hF := zh_t cy1 hF
    exact zFr.tr g0 (g_Panel_isPoint_15  hF) (fun _ h => h) (fun _ h => h)
  · replace hF := zh_f cy1 hF
    rcases Decidable.em (1000 ≤ x0) with cy2 | cy2
    · replace hF := zh_t cy2 hF
      exact zFr.tr g0 (g_Panel_isPoint_15  hF) (fun _ h => h) (fun _ h => h)
    · replace hF := zh_f cy2 hF
      exact zFr.tr g0 (g_Panel_isPoint_16  hF) (fun _ h => h) (fun _ h => h)
theorem fr_Panel_isPoint {x0 : Int32} {μ : zI} {ν : zJ} {out : (Int32 × zI × zJ)} (hE : E_Panel_isPoint x0 μ ν = some out) : zFr (fun _ => False) (fun _ => False) μ ν out.2.1 out.2.2 := (g_Panel_isPoint_0 hE)
theorem g_S_volts_22  {x1 : Int32} {s0 : Int32} {μ : zI} {ν : zJ} {out : (Int32 × zI × zJ)} (hF : e_S_volts_22   x1 s0 μ ν = some out) : zFr (fun _ => False) (fun _ => False) μ ν out.2.1 out.2.2 := by
  unfold e_S_volts_22 at hF
  have g0 := zFr.rf (fun _ => False) (fun _ => False) μ ν
  cases hF
  exact g0
theorem g_S_volts_0  {x1 : Int32} {μ : zI} {ν : zJ} {out : (Int32 × zI × zJ)} (hF : e_S_volts_0   x1 μ ν = some out) : zFr (fun _ => False) (fun _ => False) μ ν out.2.1 out.2.2 := by
  unfold e_S_volts_0 at hF
  have g0 := zFr.rf (fun _ => False) (fun _ => False) μ ν
  obtain ⟨ty1, hty1, hF⟩ := zh_bind hF
  have gty1 := zFr.tr g0 (fr_Panel_isPoint hty1) (fun r h => by first | exact h | exact h.elim | omega | (revert h; dsimp only; omega)) (fun r h => by first | exact h | exact h.elim | omega | (revert h; dsimp only; omega))
  rcases Decidable.em (ty1.1 = 0) with cy2 | cy2
  · replace hF := zh_t cy2 hF
    exact zFr.tr gty1 (g_S_volts_22  hF) (fun _ h => h) (fun _ h => h)
  · replace hF := zh_f cy2 hF
    obtain ⟨ty3, hty3, hF⟩ := zh_bind hF
    have gty3 := zFr.tr gty1 (fr_Panel_voltsAt hty3) (fun r h => by first | exact h | exact h.elim | omega | (revert h; dsimp only; omega)) (fun r h => by first | exact h | exact h.elim | omega | (revert h; dsimp only; omega))
    exact zFr.tr gty3 (g_S_volts_22  hF) (fun _ h => h) (fun _ h => h)
theorem fr_S_volts {x1 : Int32} {μ : zI} {ν : zJ} {out : (Int32 × zI × zJ)} (hE : E_S_volts x1 μ ν = some out) : zFr (fun _ => False) (fun _ => False) μ ν out.2.1 out.2.2 := (g_S_volts_0 hE)
theorem g_S_power_22  {x1 : Int32} {s0 : Int32} {μ : zI} {ν : zJ} {out : (Int32 × zI × zJ)} (hF : e_S_power_22   x1 s0 μ ν = some out) : zFr (fun _ => False) (fun _ => False) μ ν out.2.1 out.2.2 := by
  unfold e_S_power_22 at hF
  have g0 := zFr.rf (fun _ => False) (fun _ => False) μ ν
  cases hF
  exact g0
theorem g_S_power_0  {x1 : Int32} {μ : zI} {ν : zJ} {out : (Int32 × zI × zJ)} (hF : e_S_power_0   x1 μ ν = some out) : zFr (fun _ => False) (fun _ => False) μ ν out.2.1 out.2.2 := by
  unfold e_S_power_0 at hF
  have g0 := zFr.rf (fun _ => False) (fun _ => False) μ ν
  obtain ⟨ty1, hty1, hF⟩ := zh_bind hF
  have gty1 := zFr.tr g0 (fr_Panel_isPoint hty1) (fun r h => by first | exact h | exact h.elim | omega | (revert h; dsimp only; omega)) (fun r h => by first | exact h | exact h.elim | omega | (revert h; dsimp only; omega))
  rcases Decidable.em (ty1.1 = 0) with cy2 | cy2
  · replace hF := zh_t cy2 hF
    exact zFr.tr gty1 (g_S_power_22  hF) (fun _ h => h) (fun _ h => h)
  · replace hF := zh_f cy2 hF
    obtain ⟨ty3, hty3, hF⟩ := zh_bind hF
    have gty3 := zFr.tr gty1 (fr_Panel_powerAt hty3) (fun r h => by first | exact h | exact h.elim | omega | (revert h; dsimp only; omega)) (fun r h => by first | exact h | exact h.elim | omega | (revert h; dsimp only; omega))
    exact zFr.tr gty3 (g_S_power_22  hF) (fun _ h => h) (fun _ h => h)
theorem fr_S_power {x1 : Int32} {μ : zI} {ν : zJ} {out : (Int32 × zI × zJ)} (hE : E_S_power x1 μ ν = some out) : zFr (fun _ => False) (fun _ => False) μ ν out.2.1 out.2.2 := (g_S_power_0 hE)
theorem g_Panel_topEnd_69 {b : Nat}  {x1 : Int32} {x2 : Int32} {x3 : Int32} {x4 : Int32} {s0 : Int32} {μ : zI} {ν : zJ} {out : (Int32 × zI × zJ)} (hF : e_Panel_topEnd_69 b  x1 x2 x3 x4 s0 μ ν = some out) : zFr (fun _ => False) (fun _ => False) μ ν out.2.1 out.2.2 := by
  unfold e_Panel_topEnd_69 at hF
  have g0 := zFr.rf (fun _ => False) (fun _ => False) μ ν
  cases hF
  exact g0
theorem g_Panel_topEnd_53 {b : Nat}  {x1 : Int32} {x2 : Int32} {x3 : Int32} {x4 : Int32} {μ : zI} {ν : zJ} {out : (Int32 × zI × zJ)} (hF : e_Panel_topEnd_53 b  x1 x2 x3 x4 μ ν = some out) : zFr (fun _ => False) (fun _ => False) μ ν out.2.1 out.2.2 := by
  unfold e_Panel_topEnd_53 at hF
  have g0 := zFr.rf (fun _ => False) (fun _ => False) μ ν
  obtain ⟨ty1, hty1, hF⟩ := zh_bind hF
  have gty1 := zFr.tr g0 (fr_Panel_powerAt hty1) (fun r h => by first | exact h | exact h.elim | omega | (revert h; dsimp only; omega)) (fun r h => by first | exact h | exact h.elim | omega | (revert h; dsimp only; omega))
  rcases Decidable.em (x2 ≤ ty1.1) with cy2 | cy2
  · replace hF := zh_t cy2 hF
    exact zFr.tr gty1 (g_Panel_topEnd_69  hF) (fun _ h => h) (fun _ h => h)
  · replace hF := zh_f cy2 hF
    exact zFr.tr gty1 (g_Panel_topEnd_69  hF) (fun _ h => h) (fun _ h => h)
theorem g_Panel_topEnd_26 {b : Nat}  {out : (Int32 × zI × zJ)} : ∀ (n : Nat) (x1 : Int32) (x2 : Int32) (x3 : Int32) (x4 : Int32) (μ : zI) (ν : zJ), f_Panel_topEnd_26 b  n x1 x2 x3 x4 μ ν = some out → zFr (fun _ => False) (fun _ => False) μ ν out.2.1 out.2.2 := by
  intro n
  induction n with
  | zero => intro x1 x2 x3 x4 μ ν hF; cases hF
  | succ n ih =>
    intro x1 x2 x3 x4 μ ν hF
    dsimp only [f_Panel_topEnd_26] at hF
    have g0 := zFr.rf (fun _ => False) (fun _ => False) μ ν
    rcases Decidable.em (1000 ≤ x4) with cy1 | cy1
    · replace hF := zh_t cy1 hF
      exact zFr.tr g0 (g_Panel_topEnd_53  hF) (fun _ h => h) (fun _ h => h)
    · replace hF := zh_f cy1 hF
      obtain ⟨ty2, hty2, hF⟩ := zh_bind hF
      have gty2 := zFr.tr g0 (fr_Panel_powerAt hty2) (fun r h => by first | exact h | exact h.elim | omega | (revert h; dsimp only; omega)) (fun r h => by first | exact h | exact h.elim | omega | (revert h; dsimp only; omega))
      rcases (Decidable.em (ty2.1 = x2)).symm with cy3 | cy3
      · replace hF := zh_f cy3 hF
        exact zFr.tr gty2 (g_Panel_topEnd_53  hF) (fun _ h => h) (fun _ h => h)
      · replace hF := zh_t cy3 hF
        exact zFr.tr gty2 (ih _ _ _ _ _ _ hF) (fun _ h => h) (fun _ h => h)
theorem g_Panel_topEnd_0 {b : Nat}  {x1 : Int32} {μ : zI} {ν : zJ} {out : (Int32 × zI × zJ)} (hF : e_Panel_topEnd_0 b  x1 μ ν = some out) : zFr (fun _ => False) (fun _ => False) μ ν out.2.1 out.2.2 := by
  unfold e_Panel_topEnd_0 at hF
  have g0 := zFr.rf (fun _ => False) (fun _ => False) μ ν
  obtain ⟨ty1, hty1, hF⟩ := zh_bind hF
  have gty1 := zFr.tr g0 (fr_Panel_powerAt hty1) (fun r h => by first | exact h | exact h.elim | omega | (revert h; dsimp only; omega)) (fun r h => by first | exact h | exact h.elim | omega | (revert h; dsimp only; omega))
  obtain ⟨y2, hy2, hF⟩ := zh_let hF
  obtain ⟨ty3, hty3, hF⟩ := zh_bind hF
  have gty3 := zFr.tr gty1 (fr_Panel_powerAt hty3) (fun r h => by first | exact h | exact h.elim | omega | (revert h; dsimp only; omega)) (fun r h => by first | exact h | exact h.elim | omega | (revert h; dsimp only; omega))
  rcases Decidable.em (ty3.1 < y2) with cy4 | cy4
  · replace hF := zh_t cy4 hF
    obtain ⟨y5, hy5, hF⟩ := zh_let hF
    exact zFr.tr gty3 (g_Panel_topEnd_26  zFuel _ _ _ _ _ _ hF) (fun _ h => h) (fun _ h => h)
  · replace hF := zh_f cy4 hF
    cases hF
    exact gty3
theorem fr_Panel_topEnd {b : Nat} {x1 : Int32} {μ : zI} {ν : zJ} {out : (Int32 × zI × zJ)} (hE : E_Panel_topEnd b x1 μ ν = some out) : zFr (fun _ => False) (fun _ => False) μ ν out.2.1 out.2.2 := (g_Panel_topEnd_0 hE)
theorem g_S_tops_29 {r4 : Int32 → Int32 → zI → zJ → Option (Int32 × zI × zJ)} {x1 : Int32} {x2 : Int32} {μ : zI} {ν : zJ} {out : (Int32 × zI × zJ)} (hr4 : ∀ (x1 : Int32) (x2 : Int32) (μ : zI) (ν : zJ), r4 x1 x2 μ ν = some out → zFr (fun _ => False) (fun _ => False) μ ν out.2.1 out.2.2) (hF : e_S_tops_29  r4 x1 x2 μ ν = some out) : zFr (fun _ => False) (fun _ => False) μ ν out.2.1 out.2.2 := by
  unfold e_S_tops_29 at hF
  have g0 := zFr.rf (fun _ => False) (fun _ => False) μ ν
  exact zFr.tr g0 (hr4 _ _ _ _ hF) (fun _ h => h) (fun _ h => h)
theorem g_S_tops_4  {out : (Int32 × zI × zJ)} : ∀ (n : Nat) (x1 : Int32) (x2 : Int32) (μ : zI) (ν : zJ), f_S_tops_4   n x1 x2 μ ν = some out → zFr (fun _ => False) (fun _ => False) μ ν out.2.1 out.2.2 := by
  intro n
  induction n with
  | zero => intro x1 x2 μ ν hF; cases hF
  | succ n ih =>
    intro x1 x2 μ ν hF
    dsimp only [f_S_tops_4] at hF
    have g0 := zFr.rf (fun _ => False) (fun _ => False) μ ν
    rcases Decidable.em (1000 ≤ x2) with cy1 | cy1
    · replace hF := zh_t cy1 hF
      cases hF
      exact g0
    · replace hF := zh_f cy1 hF
      obtain ⟨ty2, hty2, hF⟩ := zh_bind hF
      have gty2 := zFr.tr g0 (fr_Panel_topEnd hty2) (fun r h => by first | exact h | exact h.elim | omega | (revert h; dsimp only; omega)) (fun r h => by first | exact h | exact h.elim | omega | (revert h; dsimp only; omega))
      rcases Decidable.em (ty2.1 = (-1)) with cy3 | cy3
      · replace hF := zh_t cy3 hF
        exact zFr.tr gty2 (g_S_tops_29 (fun a0 a1 a2 a3 => ih a0 a1 a2 a3) hF) (fun _ h => h) (fun _ h => h)
      · replace hF := zh_f cy3 hF
        exact zFr.tr gty2 (g_S_tops_29 (fun a0 a1 a2 a3 => ih a0 a1 a2 a3) hF) (fun _ h => h) (fun _ h => h)
theorem g_S_tops_0   {μ : zI} {ν : zJ} {out : (Int32 × zI × zJ)} (hF : e_S_tops_0    μ ν = some out) : zFr (fun _ => False) (fun _ => False) μ ν out.2.1 out.2.2 := by
  unfold e_S_tops_0 at hF
  have g0 := zFr.rf (fun _ => False) (fun _ => False) μ ν
  exact zFr.tr g0 (g_S_tops_4  zFuel _ _ _ _ hF) (fun _ h => h) (fun _ h => h)
theorem fr_S_tops {μ : zI} {ν : zJ} {out : (Int32 × zI × zJ)} (hE : E_S_tops  μ ν = some out) : zFr (fun _ => False) (fun _ => False) μ ν out.2.1 out.2.2 := (g_S_tops_0 hE)
theorem g_S_top_13  {x1 : Int32} {x2 : Int32} {μ : zI} {ν : zJ} {out : (Int32 × zI × zJ)} (hF : e_S_top_13   x1 x2 μ ν = some out) : zFr (fun _ => False) (fun _ => False) μ ν out.2.1 out.2.2 := by
  unfold e_S_top_13 at hF
  have g0 := zFr.rf (fun _ => False) (fun _ => False) μ ν
  cases hF
  exact g0
theorem g_S_top_92  {x1 : Int32} {x2 : Int32} {x3 : Int32} {x4 : Int32} {x5 : Int32} {s0 : Int32} {μ : zI} {ν : zJ} {out : (Int32 × zI × zJ)} (hF : e_S_top_92   x1 x2 x3 x4 x5 s0 μ ν = some out) : zFr (fun _ => False) (fun _ => False) μ ν out.2.1 out.2.2 := by
  unfold e_S_top_92 at hF
  have g0 := zFr.rf (fun _ => False) (fun _ => False) μ ν
  cases hF
  exact g0
theorem g_S_top_96 {r20 : Int32 → Int32 → Int32 → Int32 → zI → zJ → Option (Int32 × zI × zJ)} {x1 : Int32} {x2 : Int32} {x3 : Int32} {x4 : Int32} {x5 : Int32} {μ : zI} {ν : zJ} {out : (Int32 × zI × zJ)} (hr20 : ∀ (x1 : Int32) (x2 : Int32) (x3 : Int32) (x4 : Int32) (μ : zI) (ν : zJ), r20 x1 x2 x3 x4 μ ν = some out → zFr (fun _ => False) (fun _ => False) μ ν out.2.1 out.2.2) (hF : e_S_top_96  r20 x1 x2 x3 x4 x5 μ ν = some out) : zFr (fun _ => False) (fun _ => False) μ ν out.2.1 out.2.2 := by
  unfold e_S_top_96 at hF
  have g0 := zFr.rf (fun _ => False) (fun _ => False) μ ν
  exact zFr.tr g0 (hr20 _ _ _ _ _ _ hF) (fun _ h => h) (fun _ h => h)
theorem g_S_top_20  {out : (Int32 × zI × zJ)} : ∀ (n : Nat) (x1 : Int32) (x2 : Int32) (x3 : Int32) (x4 : Int32) (μ : zI) (ν : zJ), f_S_top_20   n x1 x2 x3 x4 μ ν = some out → zFr (fun _ => False) (fun _ => False) μ ν out.2.1 out.2.2 := by
  intro n
  induction n with
  | zero => intro x1 x2 x3 x4 μ ν hF; cases hF
  | succ n ih =>
    intro x1 x2 x3 x4 μ ν hF
    dsimp only [f_S_top_20] at hF
    have g0 := zFr.rf (fun _ => False) (fun _ => False) μ ν
    rcases Decidable.em (1000 ≤ x4) with cy1 | cy1
    · replace hF := zh_t cy1 hF
      cases hF
      exact g0
    · replace hF := zh_f cy1 hF
      obtain ⟨ty2, hty2, hF⟩ := zh_bind hF
      have gty2 := zFr.tr g0 (fr_Panel_topEnd hty2) (fun r h => by first | exact h | exact h.elim | omega | (revert h; dsimp only; omega)) (fun r h => by first | exact h | exact h.elim | omega | (revert h; dsimp only; omega))
      obtain ⟨y3, hy3, hF⟩ := zh_let hF
      rcases (Decidable.em (y3 = (-1))).symm with cy4 | cy4
      · replace hF := zh_f cy4 hF
        rcases (Decidable.em (x3 = x1)).symm with cy5 | cy5
        · replace hF := zh_f cy5 hF
          exact zFr.tr gty2 (g_S_top_96 (fun a0 a1 a2 a3 a4 a5 => ih a0 a1 a2 a3 a4 a5) hF) (fun _ h => h) (fun _ h => h)
        · replace hF := zh_t cy5 hF
          rcases (Decidable.em (x2 = 0)).symm with cy6 | cy6
          · replace hF := zh_f cy6 hF
            rcases (Decidable.em (x2 = 1)).symm with cy7 | cy7
            · replace hF := zh_f cy7 hF
              exact zFr.tr gty2 (g_S_top_92  hF) (fun _ h => h) (fun _ h => h)
            · replace hF := zh_t cy7 hF
              obtain ⟨ty8, hty8, hF⟩ := zh_bind hF
              have gty8 := zFr.tr gty2 (fr_Panel_powerAt hty8) (fun r h => by first | exact h | exact h.elim | omega | (revert h; dsimp only; omega)) (fun r h => by first | exact h | exact h.elim | omega | (revert h; dsimp only; omega))
              exact zFr.tr gty8 (g_S_top_92  hF) (fun _ h => h) (fun _ h => h)
          · replace hF := zh_t cy6 hF
            exact zFr.tr gty2 (g_S_top_92  hF) (fun _ h => h) (fun _ h => h)
      · replace hF := zh_t cy4 hF
        exact zFr.tr gty2 (g_S_top_96 (fun a0 a1 a2 a3 a4 a5 => ih a0 a1 a2 a3 a4 a5) hF) (fun _ h => h) (fun _ h => h)
theorem g_S_top_0  {x1 : Int32} {x2 : Int32} {μ : zI} {ν : zJ} {out : (Int32 × zI × zJ)} (hF : e_S_top_0   x1 x2 μ ν = some out) : zFr (fun _ => False) (fun _ => False) μ ν out.2.1 out.2.2 := by
  unfold e_S_top_0 at hF
  have g0 := zFr.rf (fun _ => False) (fun _ => False) μ ν
  rcases Decidable.em (x1 < 0) with cy1 | cy1
  · replace hF := zh_t cy1 hF
    exact zFr.tr g0 (g_S_top_13  hF) (fun _ h => h) (fun _ h => h)
  · replace hF := zh_f cy1 hF
    obtain ⟨ty2, hty2, hF⟩ := zh_bind hF
    have gty2 := zFr.tr g0 (fr_S_isWithin hty2) (fun r h => by first | exact h | exact h.elim | omega | (revert h; dsimp only; omega)) (fun r h => by first | exact h | exact h.elim | omega | (revert h; dsimp only; omega))
    rcases (Decidable.em (ty2.1 = 0)).symm with cy3 | cy3
    · replace hF := zh_f cy3 hF
      exact zFr.tr gty2 (g_S_top_20  zFuel _ _ _ _ _ _ hF) (fun _ h => h) (fun _ h => h)
    · replace hF := zh_t cy3 hF
      exact zFr.tr gty2 (g_S_top_13  hF) (fun _ h => h) (fun _ h => h)
theorem fr_S_top {x1 : Int32} {x2 : Int32} {μ : zI} {ν : zJ} {out : (Int32 × zI × zJ)} (hE : E_S_top x1 x2 μ ν = some out) : zFr (fun _ => False) (fun _ => False) μ ν out.2.1 out.2.2 := (g_S_top_0 hE)
theorem g_S_best_0  {x1 : Int32} {μ : zI} {ν : zJ} {out : (Int32 × zI × zJ)} (hF : e_S_best_0   x1 μ ν = some out) : zFr (fun _ => False) (fun _ => False) μ ν out.2.1 out.2.2 := by
  unfold e_S_best_0 at hF
  have g0 := zFr.rf (fun _ => False) (fun _ => False) μ ν
  by_cases cy1 : x1 = 0
  · replace hF := zh_t cy1 hF
    cases hF
    exact g0
  · replace hF := zh_f cy1 hF
    by_cases cy2 : x1 = 1
    · replace hF := zh_t cy2 hF
      cases hF
      exact g0
    · replace hF := zh_f cy2 hF
      cases hF
      exact g0
theorem fr_S_best {x1 : Int32} {μ : zI} {ν : zJ} {out : (Int32 × zI × zJ)} (hE : E_S_best x1 μ ν = some out) : zFr (fun _ => False) (fun _ => False) μ ν out.2.1 out.2.2 := (g_S_best_0 hE)
theorem g_S_isNear_15  {x0 : Int32} {x1 : Int32} {x2 : Int32} {s0 : Int32} {μ : zI} {ν : zJ} {out : (Int32 × zI × zJ)} (hF : e_S_isNear_15   x0 x1 x2 s0 μ ν = some out) : zFr (fun _ => False) (fun _ => False) μ ν out.2.1 out.2.2 := by
  unfold e_S_isNear_15 at hF
  have g0 := zFr.rf (fun _ => False) (fun _ => False) μ ν
  obtain ⟨hy1, hF⟩ := zh_if hF
  cases hF
  exact g0
theorem g_S_isNear_0  {x0 : Int32} {x1 : Int32} {x2 : Int32} {μ : zI} {ν : zJ} {out : (Int32 × zI × zJ)} (hF : e_S_isNear_0   x0 x1 x2 μ ν = some out) : zFr (fun _ => False) (fun _ => False) μ ν out.2.1 out.2.2 := by
  unfold e_S_isNear_0 at hF
  have g0 := zFr.rf (fun _ => False) (fun _ => False) μ ν
  rcases Decidable.em ((x0 * 100) < (x1 * x2)) with cy1 | cy1
  · replace hF := zh_t cy1 hF
    exact zFr.tr g0 (g_S_isNear_15  hF) (fun _ h => h) (fun _ h => h)
  · replace hF := zh_f cy1 hF
    exact zFr.tr g0 (g_S_isNear_15  hF) (fun _ h => h) (fun _ h => h)
theorem fr_S_isNear {x0 : Int32} {x1 : Int32} {x2 : Int32} {μ : zI} {ν : zJ} {out : (Int32 × zI × zJ)} (hE : E_S_isNear x0 x1 x2 μ ν = some out) : zFr (fun _ => False) (fun _ => False) μ ν out.2.1 out.2.2 := (g_S_isNear_0 hE)
theorem g_S_band_19  {x1 : Int32} {x2 : Int32} {μ : zI} {ν : zJ} {out : (Int32 × zI × zJ)} (hF : e_S_band_19   x1 x2 μ ν = some out) : zFr (fun _ => False) (fun _ => False) μ ν out.2.1 out.2.2 := by
  unfold e_S_band_19 at hF
  have g0 := zFr.rf (fun _ => False) (fun _ => False) μ ν
  cases hF
  exact g0
theorem g_S_band_104 {r48 : Int32 → Int32 → Int32 → Int32 → Int32 → Int32 → zI → zJ → Option (Int32 × zI × zJ)} {x1 : Int32} {x2 : Int32} {x3 : Int32} {x4 : Int32} {x5 : Int32} {x6 : Int32} {μ : zI} {ν : zJ} {out : (Int32 × zI × zJ)} (hr48 : ∀ (x1 : Int32) (x2 : Int32) (x3 : Int32) (x4 : Int32) (x5 : Int32) (x6 : Int32) (μ : zI) (ν : zJ), r48 x1 x2 x3 x4 x5 x6 μ ν = some out → zFr (fun _ => False) (fun _ => False) μ ν out.2.1 out.2.2) (hF : e_S_band_104  r48 x1 x2 x3 x4 x5 x6 μ ν = some out) : zFr (fun _ => False) (fun _ => False) μ ν out.2.1 out.2.2 := by
  unfold e_S_band_104 at hF
  have g0 := zFr.rf (fun _ => False) (fun _ => False) μ ν
  exact zFr.tr g0 (hr48 _ _ _ _ _ _ _ _ hF) (fun _ h => h) (fun _ h => h)
theorem g_S_band_96 {r48 : Int32 → Int32 → Int32 → Int32 → Int32 → Int32 → zI → zJ → Option (Int32 × zI × zJ)} {x1 : Int32} {x2 : Int32} {x3 : Int32} {x4 : Int32} {x5 : Int32} {x6 : Int32} {s0 : Int32} {μ : zI} {ν : zJ} {out : (Int32 × zI × zJ)} (hr48 : ∀ (x1 : Int32) (x2 : Int32) (x3 : Int32) (x4 : Int32) (x5 : Int32) (x6 : Int32) (μ : zI) (ν : zJ), r48 x1 x2 x3 x4 x5 x6 μ ν = some out → zFr (fun _ => False) (fun _ => False) μ ν out.2.1 out.2.2) (hF : e_S_band_96  r48 x1 x2 x3 x4 x5 x6 s0 μ ν = some out) : zFr (fun _ => False) (fun _ => False) μ ν out.2.1 out.2.2 := by
  unfold e_S_band_96 at hF
  have g0 := zFr.rf (fun _ => False) (fun _ => False) μ ν
  exact zFr.tr g0 (g_S_band_104 hr48 hF) (fun _ h => h) (fun _ h => h)
theorem g_S_band_130  {x1 : Int32} {x2 : Int32} {x3 : Int32} {x4 : Int32} {x5 : Int32} {x6 : Int32} {s0 : Int32} {μ : zI} {ν : zJ} {out : (Int32 × zI × zJ)} (hF : e_S_band_130   x1 x2 x3 x4 x5 x6 s0 μ ν = some out) : zFr (fun _ => False) (fun _ => False) μ ν out.2.1 out.2.2 := by
  unfold e_S_band_130 at hF
  have g0 := zFr.rf (fun _ => False) (fun _ => False) μ ν
  cases hF
  exact g0
theorem g_S_band_48  {out : (Int32 × zI × zJ)} : ∀ (n : Nat) (x1 : Int32) (x2 : Int32) (x3 : Int32) (x4 : Int32) (x5 : Int32) (x6 : Int32) (μ : zI) (ν : zJ), f_S_band_48   n x1 x2 x3 x4 x5 x6 μ ν = some out → zFr (fun _ => False) (fun _ => False) μ ν out.2.1 out.2.2 := by
  intro n
  induction n with
  | zero => intro x1 x2 x3 x4 x5 x6 μ ν hF; cases hF
  | succ n ih =>
    intro x1 x2 x3 x4 x5 x6 μ ν hF
    dsimp only [f_S_band_48] at hF
    have g0 := zFr.rf (fun _ => False) (fun _ => False) μ ν
    rcases Decidable.em (1000 ≤ x6) with cy1 | cy1
    · replace hF := zh_t cy1 hF
      rcases (Decidable.em (x2 = 0)).symm with cy2 | cy2
      · replace hF := zh_f cy2 hF
        rcases (Decidable.em (x2 = 1)).symm with cy3 | cy3
        · replace hF := zh_f cy3 hF
          exact zFr.tr g0 (g_S_band_130  hF) (fun _ h => h) (fun _ h => h)
        · replace hF := zh_t cy3 hF
          exact zFr.tr g0 (g_S_band_130  hF) (fun _ h => h) (fun _ h => h)
      · replace hF := zh_t cy2 hF
        exact zFr.tr g0 (g_S_band_130  hF) (fun _ h => h) (fun _ h => h)
    · replace hF := zh_f cy1 hF
      obtain ⟨ty4, hty4, hF⟩ := zh_bind hF
      have gty4 := zFr.tr g0 (fr_Panel_powerAt hty4) (fun r h => by first | exact h | exact h.elim | omega | (revert h; dsimp only; omega)) (fun r h => by first | exact h | exact h.elim | omega | (revert h; dsimp only; omega))
      obtain ⟨ty5, hty5, hF⟩ := zh_bind hF
      have gty5 := zFr.tr gty4 (fr_S_isNear hty5) (fun r h => by first | exact h | exact h.elim | omega | (revert h; dsimp only; omega)) (fun r h => by first | exact h | exact h.elim | omega | (revert h; dsimp only; omega))
      rcases Decidable.em (ty5.1 = 0) with cy6 | cy6
      · replace hF := zh_t cy6 hF
        exact zFr.tr gty5 (g_S_band_104 (fun a0 a1 a2 a3 a4 a5 a6 a7 => ih a0 a1 a2 a3 a4 a5 a6 a7) hF) (fun _ h => h) (fun _ h => h)
      · replace hF := zh_f cy6 hF
        rcases (Decidable.em (x3 = (-1))).symm with cy7 | cy7
        · replace hF := zh_f cy7 hF
          exact zFr.tr gty5 (g_S_band_96 (fun a0 a1 a2 a3 a4 a5 a6 a7 => ih a0 a1 a2 a3 a4 a5 a6 a7) hF) (fun _ h => h) (fun _ h => h)
        · replace hF := zh_t cy7 hF
          exact zFr.tr gty5 (g_S_band_96 (fun a0 a1 a2 a3 a4 a5 a6 a7 => ih a0 a1 a2 a3 a4 a5 a6 a7) hF) (fun _ h => h) (fun _ h => h)
theorem g_S_band_0  {x1 : Int32} {x2 : Int32} {μ : zI} {ν : zJ} {out : (Int32 × zI × zJ)} (hF : e_S_band_0   x1 x2 μ ν = some out) : zFr (fun _ => False) (fun _ => False) μ ν out.2.1 out.2.2 := by
  unfold e_S_band_0 at hF
  have g0 := zFr.rf (fun _ => False) (fun _ => False) μ ν
  obtain ⟨ty1, hty1, hF⟩ := zh_bind hF
  have gty1 := zFr.tr g0 (fr_S_isWithin hty1) (fun r h => by first | exact h | exact h.elim | omega | (revert h; dsimp only; omega)) (fun r h => by first | exact h | exact h.elim | omega | (revert h; dsimp only; omega))
  rcases Decidable.em (ty1.1 = 0) with cy2 | cy2
  · replace hF := zh_t cy2 hF
    exact zFr.tr gty1 (g_S_band_19  hF) (fun _ h => h) (fun _ h => h)
  · replace hF := zh_f cy2 hF
    obtain ⟨ty3, hty3, hF⟩ := zh_bind hF
    have gty3 := zFr.tr gty1 (fr_S_isWithin hty3) (fun r h => by first | exact h | exact h.elim | omega | (revert h; dsimp only; omega)) (fun r h => by first | exact h | exact h.elim | omega | (revert h; dsimp only; omega))
    rcases (Decidable.em (ty3.1 = 0)).symm with cy4 | cy4
    · replace hF := zh_f cy4 hF
      rcases (Decidable.em ((ty3.2.1 (4 + 3) 2) = 0)).symm with cy5 | cy5
      · replace hF := zh_f cy5 hF
        exact zFr.tr gty3 (g_S_band_48  zFuel _ _ _ _ _ _ _ _ hF) (fun _ h => h) (fun _ h => h)
      · replace hF := zh_t cy5 hF
        cases hF
        exact gty3
    · replace hF := zh_t cy4 hF
      exact zFr.tr gty3 (g_S_band_19  hF) (fun _ h => h) (fun _ h => h)
theorem fr_S_band {x1 : Int32} {x2 : Int32} {μ : zI} {ν : zJ} {out : (Int32 × zI × zJ)} (hE : E_S_band x1 x2 μ ν = some out) : zFr (fun _ => False) (fun _ => False) μ ν out.2.1 out.2.2 := (g_S_band_0 hE)
theorem g_S_climbed_52  {x1 : Int32} {x2 : Int32} {x3 : Int32} {μ : zI} {ν : zJ} {out : (Int32 × zI × zJ)} (hF : e_S_climbed_52   x1 x2 x3 μ ν = some out) : zFr (fun _ => False) (fun _ => False) μ ν out.2.1 out.2.2 := by
  unfold e_S_climbed_52 at hF
  have g0 := zFr.rf (fun _ => False) (fun _ => False) μ ν
  cases hF
  exact g0
theorem g_S_climbed_13  {out : (Int32 × zI × zJ)} : ∀ (n : Nat) (x1 : Int32) (x2 : Int32) (x3 : Int32) (μ : zI) (ν : zJ), f_S_climbed_13   n x1 x2 x3 μ ν = some out → zFr (fun _ => False) (fun _ => False) μ ν out.2.1 out.2.2 := by
  intro n
  induction n with
  | zero => intro x1 x2 x3 μ ν hF; cases hF
  | succ n ih =>
    intro x1 x2 x3 μ ν hF
    dsimp only [f_S_climbed_13] at hF
    have g0 := zFr.rf (fun _ => False) (fun _ => False) μ ν
    rcases Decidable.em (1000 ≤ x3) with cy1 | cy1
    · replace hF := zh_t cy1 hF
      exact zFr.tr g0 (g_S_climbed_52  hF) (fun _ h => h) (fun _ h => h)
    · replace hF := zh_f cy1 hF
      obtain ⟨ty2, hty2, hF⟩ := zh_bind hF
      have gty2 := zFr.tr g0 (fr_Panel_steeperWay hty2) (fun r h => by first | exact h | exact h.elim | omega | (revert h; dsimp only; omega)) (fun r h => by first | exact h | exact h.elim | omega | (revert h; dsimp only; omega))
      obtain ⟨y3, hy3, hF⟩ := zh_let hF
      rcases (Decidable.em (y3 = 0)).symm with cy4 | cy4
      · replace hF := zh_f cy4 hF
        obtain ⟨y5, hy5, hF⟩ := zh_let hF
        exact zFr.tr gty2 (ih _ _ _ _ _ hF) (fun _ h => h) (fun _ h => h)
      · replace hF := zh_t cy4 hF
        exact zFr.tr gty2 (g_S_climbed_52  hF) (fun _ h => h) (fun _ h => h)
theorem g_S_climbed_0  {x1 : Int32} {μ : zI} {ν : zJ} {out : (Int32 × zI × zJ)} (hF : e_S_climbed_0   x1 μ ν = some out) : zFr (fun _ => False) (fun _ => False) μ ν out.2.1 out.2.2 := by
  unfold e_S_climbed_0 at hF
  have g0 := zFr.rf (fun _ => False) (fun _ => False) μ ν
  obtain ⟨ty1, hty1, hF⟩ := zh_bind hF
  have gty1 := zFr.tr g0 (fr_Panel_isPoint hty1) (fun r h => by first | exact h | exact h.elim | omega | (revert h; dsimp only; omega)) (fun r h => by first | exact h | exact h.elim | omega | (revert h; dsimp only; omega))
  rcases (Decidable.em (ty1.1 = 0)).symm with cy2 | cy2
  · replace hF := zh_f cy2 hF
    exact zFr.tr gty1 (g_S_climbed_13  zFuel _ _ _ _ _ hF) (fun _ h => h) (fun _ h => h)
  · replace hF := zh_t cy2 hF
    cases hF
    exact gty1
theorem fr_S_climbed {x1 : Int32} {μ : zI} {ν : zJ} {out : (Int32 × zI × zJ)} (hE : E_S_climbed x1 μ ν = some out) : zFr (fun _ => False) (fun _ => False) μ ν out.2.1 out.2.2 := (g_S_climbed_0 hE)
theorem g_S_bestIfLight_0  {x1 : Int32} {x2 : Int32} {μ : zI} {ν : zJ} {out : (Int32 × zI × zJ)} (hF : e_S_bestIfLight_0   x1 x2 μ ν = some out) : zFr (fun r => (19 ≤ r ∧ r < 19 + 15)) (fun _ => False) μ ν out.2.1 out.2.2 := by
  unfold e_S_bestIfLight_0 at hF
  have g0 := zFr.rf (fun r => (19 ≤ r ∧ r < 19 + 15)) (fun _ => False) μ ν
  obtain ⟨ty1, hty1, hF⟩ := zh_bind hF
  have gty1 := zFr.tr g0 (fr_Panel_copyFrom hty1) (fun r h => by first | exact h | exact h.elim | omega | (revert h; dsimp only; omega)) (fun r h => by first | exact h | exact h.elim | omega | (revert h; dsimp only; omega))
  obtain ⟨ty2, hty2, hF⟩ := zh_bind hF
  have gty2 := zFr.tr gty1 (fr_Panel_setLight hty2) (fun r h => by first | exact h | exact h.elim | omega | (revert h; dsimp only; omega)) (fun r h => by first | exact h | exact h.elim | omega | (revert h; dsimp only; omega))
  obtain ⟨ty3, hty3, hF⟩ := zh_bind hF
  have gty3 := zFr.tr gty2 (fr_Panel_reckon hty3) (fun r h => by first | exact h | exact h.elim | omega | (revert h; dsimp only; omega)) (fun r h => by first | exact h | exact h.elim | omega | (revert h; dsimp only; omega))
  cases hF
  exact gty3
theorem fr_S_bestIfLight {x1 : Int32} {x2 : Int32} {μ : zI} {ν : zJ} {out : (Int32 × zI × zJ)} (hE : E_S_bestIfLight x1 x2 μ ν = some out) : zFr (fun r => (19 ≤ r ∧ r < 19 + 15)) (fun _ => False) μ ν out.2.1 out.2.2 := (g_S_bestIfLight_0 hE)
theorem g_S_shadeOf_30  {x1 : Int32} {s0 : Int32} {μ : zI} {ν : zJ} {out : (Int32 × zI × zJ)} (hF : e_S_shadeOf_30   x1 s0 μ ν = some out) : zFr (fun r => (19 ≤ r ∧ r < 19 + 15)) (fun _ => False) μ ν out.2.1 out.2.2 := by
  unfold e_S_shadeOf_30 at hF
  have g0 := zFr.rf (fun r => (19 ≤ r ∧ r < 19 + 15)) (fun _ => False) μ ν
  cases hF
  exact g0
theorem g_S_shadeOf_0  {x1 : Int32} {μ : zI} {ν : zJ} {out : (Int32 × zI × zJ)} (hF : e_S_shadeOf_0   x1 μ ν = some out) : zFr (fun r => (19 ≤ r ∧ r < 19 + 15)) (fun _ => False) μ ν out.2.1 out.2.2 := by
  unfold e_S_shadeOf_0 at hF
  have g0 := zFr.rf (fun r => (19 ≤ r ∧ r < 19 + 15)) (fun _ => False) μ ν
  obtain ⟨ty1, hty1, hF⟩ := zh_bind hF
  have gty1 := zFr.tr g0 (fr_S_isModule hty1) (fun r h => by first | exact h | exact h.elim | omega | (revert h; dsimp only; omega)) (fun r h => by first | exact h | exact h.elim | omega | (revert h; dsimp only; omega))
  rcases Decidable.em (ty1.1 = 0) with cy2 | cy2
  · replace hF := zh_t cy2 hF
    exact zFr.tr gty1 (g_S_shadeOf_30  hF) (fun _ h => h) (fun _ h => h)
  · replace hF := zh_f cy2 hF
    obtain ⟨ty3, hty3, hF⟩ := zh_bind hF
    have gty3 := zFr.tr gty1 (fr_S_bestIfLight hty3) (fun r h => by first | exact h | exact h.elim | omega | (revert h; dsimp only; omega)) (fun r h => by first | exact h | exact h.elim | omega | (revert h; dsimp only; omega))
    exact zFr.tr gty3 (g_S_shadeOf_30  hF) (fun _ h => h) (fun _ h => h)
theorem fr_S_shadeOf {x1 : Int32} {μ : zI} {ν : zJ} {out : (Int32 × zI × zJ)} (hE : E_S_shadeOf x1 μ ν = some out) : zFr (fun r => (19 ≤ r ∧ r < 19 + 15)) (fun _ => False) μ ν out.2.1 out.2.2 := (g_S_shadeOf_0 hE)
theorem g_S_lightFor_18  {x1 : Int32} {x2 : Int32} {μ : zI} {ν : zJ} {out : (Int32 × zI × zJ)} (hF : e_S_lightFor_18   x1 x2 μ ν = some out) : zFr (fun r => (19 ≤ r ∧ r < 19 + 15)) (fun _ => False) μ ν out.2.1 out.2.2 := by
  unfold e_S_lightFor_18 at hF
  have g0 := zFr.rf (fun r => (19 ≤ r ∧ r < 19 + 15)) (fun _ => False) μ ν
  cases hF
  exact g0
theorem g_S_lightFor_87 {r43 : Int32 → Int32 → Int32 → Int32 → Int32 → zI → zJ → Option (Int32 × zI × zJ)} {x1 : Int32} {x2 : Int32} {x3 : Int32} {x4 : Int32} {x5 : Int32} {x6 : Int32} {μ : zI} {ν : zJ} {out : (Int32 × zI × zJ)} (hr43 : ∀ (x1 : Int32) (x2 : Int32) (x3 : Int32) (x4 : Int32) (x5 : Int32) (μ : zI) (ν : zJ), r43 x1 x2 x3 x4 x5 μ ν = some out → zFr (fun r => (19 ≤ r ∧ r < 19 + 15)) (fun _ => False) μ ν out.2.1 out.2.2) (hF : e_S_lightFor_87  r43 x1 x2 x3 x4 x5 x6 μ ν = some out) : zFr (fun r => (19 ≤ r ∧ r < 19 + 15)) (fun _ => False) μ ν out.2.1 out.2.2 := by
  unfold e_S_lightFor_87 at hF
  have g0 := zFr.rf (fun r => (19 ≤ r ∧ r < 19 + 15)) (fun _ => False) μ ν
  exact zFr.tr g0 (hr43 _ _ _ _ _ _ _ hF) (fun _ h => h) (fun _ h => h)
theorem g_S_lightFor_93  {x1 : Int32} {x2 : Int32} {x3 : Int32} {x4 : Int32} {x5 : Int32} {μ : zI} {ν : zJ} {out : (Int32 × zI × zJ)} (hF : e_S_lightFor_93   x1 x2 x3 x4 x5 μ ν = some out) : zFr (fun r => (19 ≤ r ∧ r < 19 + 15)) (fun _ => False) μ ν out.2.1 out.2.2 := by
  unfold e_S_lightFor_93 at hF
  have g0 := zFr.rf (fun r => (19 ≤ r ∧ r < 19 + 15)) (fun _ => False) μ ν
  cases hF
  exact g0
theorem g_S_lightFor_43  {out : (Int32 × zI × zJ)} : ∀ (n : Nat) (x1 : Int32) (x2 : Int32) (x3 : Int32) (x4 : Int32) (x5 : Int32) (μ : zI) (ν : zJ), f_S_lightFor_43   n x1 x2 x3 x4 x5 μ ν = some out → zFr (fun r => (19 ≤ r ∧ r < 19 + 15)) (fun _ => False) μ ν out.2.1 out.2.2 := by
  intro n
  induction n with
  | zero => intro x1 x2 x3 x4 x5 μ ν hF; cases hF
  | succ n ih =>
    intro x1 x2 x3 x4 x5 μ ν hF
    dsimp only [f_S_lightFor_43] at hF
    have g0 := zFr.rf (fun r => (19 ≤ r ∧ r < 19 + 15)) (fun _ => False) μ ν
    rcases Decidable.em (7 ≤ x5) with cy1 | cy1
    · replace hF := zh_t cy1 hF
      exact zFr.tr g0 (g_S_lightFor_93  hF) (fun _ h => h) (fun _ h => h)
    · replace hF := zh_f cy1 hF
      rcases Decidable.em (x4 ≤ x3) with cy2 | cy2
      · replace hF := zh_t cy2 hF
        exact zFr.tr g0 (g_S_lightFor_93  hF) (fun _ h => h) (fun _ h => h)
      · replace hF := zh_f cy2 hF
        obtain ⟨y3, hy3, hF⟩ := zh_let hF
        obtain ⟨ty4, hty4, hF⟩ := zh_bind hF
        have gty4 := zFr.tr g0 (fr_S_bestIfLight hty4) (fun r h => by first | exact h | exact h.elim | omega | (revert h; dsimp only; omega)) (fun r h => by first | exact h | exact h.elim | omega | (revert h; dsimp only; omega))
        rcases Decidable.em (ty4.1 < x2) with cy5 | cy5
        · replace hF := zh_t cy5 hF
          obtain ⟨y6, hy6, hF⟩ := zh_let hF
          exact zFr.tr gty4 (g_S_lightFor_87 (fun a0 a1 a2 a3 a4 a5 a6 => ih a0 a1 a2 a3 a4 a5 a6) hF) (fun _ h => h) (fun _ h => h)
        · replace hF := zh_f cy5 hF
          exact zFr.tr gty4 (g_S_lightFor_87 (fun a0 a1 a2 a3 a4 a5 a6 => ih a0 a1 a2 a3 a4 a5 a6) hF) (fun _ h => h) (fun _ h => h)
theorem g_S_lightFor_0  {x1 : Int32} {x2 : Int32} {μ : zI} {ν : zJ} {out : (Int32 × zI × zJ)} (hF : e_S_lightFor_0   x1 x2 μ ν = some out) : zFr (fun r => (19 ≤ r ∧ r < 19 + 15)) (fun _ => False) μ ν out.2.1 out.2.2 := by
  unfold e_S_lightFor_0 at hF
  have g0 := zFr.rf (fun r => (19 ≤ r ∧ r < 19 + 15)) (fun _ => False) μ ν
  obtain ⟨ty1, hty1, hF⟩ := zh_bind hF
  have gty1 := zFr.tr g0 (fr_S_isModule hty1) (fun r h => by first | exact h | exact h.elim | omega | (revert h; dsimp only; omega)) (fun r h => by first | exact h | exact h.elim | omega | (revert h; dsimp only; omega))
  rcases Decidable.em (ty1.1 = 0) with cy2 | cy2
  · replace hF := zh_t cy2 hF
    exact zFr.tr gty1 (g_S_lightFor_18  hF) (fun _ h => h) (fun _ h => h)
  · replace hF := zh_f cy2 hF
    obtain ⟨ty3, hty3, hF⟩ := zh_bind hF
    have gty3 := zFr.tr gty1 (fr_S_isWithin hty3) (fun r h => by first | exact h | exact h.elim | omega | (revert h; dsimp only; omega)) (fun r h => by first | exact h | exact h.elim | omega | (revert h; dsimp only; omega))
    rcases (Decidable.em (ty3.1 = 0)).symm with cy4 | cy4
    · replace hF := zh_f cy4 hF
      obtain ⟨ty5, hty5, hF⟩ := zh_bind hF
      have gty5 := zFr.tr gty3 (fr_S_bestIfLight hty5) (fun r h => by first | exact h | exact h.elim | omega | (revert h; dsimp only; omega)) (fun r h => by first | exact h | exact h.elim | omega | (revert h; dsimp only; omega))
      rcases Decidable.em (x2 ≤ ty5.1) with cy6 | cy6
      · replace hF := zh_t cy6 hF
        exact zFr.tr gty5 (g_S_lightFor_43  zFuel _ _ _ _ _ _ _ hF) (fun _ h => h) (fun _ h => h)
      · replace hF := zh_f cy6 hF
        cases hF
        exact gty5
    · replace hF := zh_t cy4 hF
      exact zFr.tr gty3 (g_S_lightFor_18  hF) (fun _ h => h) (fun _ h => h)
theorem fr_S_lightFor {x1 : Int32} {x2 : Int32} {μ : zI} {ν : zJ} {out : (Int32 × zI × zJ)} (hE : E_S_lightFor x1 x2 μ ν = some out) : zFr (fun r => (19 ≤ r ∧ r < 19 + 15)) (fun _ => False) μ ν out.2.1 out.2.2 := (g_S_lightFor_0 hE)
theorem g_S_darkest_52 {r7 : Int32 → Int32 → Int32 → zI → zJ → Option (Int32 × zI × zJ)} {x1 : Int32} {x2 : Int32} {x3 : Int32} {x4 : Int32} {μ : zI} {ν : zJ} {out : (Int32 × zI × zJ)} (hr7 : ∀ (x1 : Int32) (x2 : Int32) (x3 : Int32) (μ : zI) (ν : zJ), r7 x1 x2 x3 μ ν = some out → zFr (fun r => (19 ≤ r ∧ r < 19 + 15)) (fun _ => False) μ ν out.2.1 out.2.2) (hF : e_S_darkest_52  r7 x1 x2 x3 x4 μ ν = some out) : zFr (fun r => (19 ≤ r ∧ r < 19 + 15)) (fun _ => False) μ ν out.2.1 out.2.2 := by
  unfold e_S_darkest_52 at hF
  have g0 := zFr.rf (fun r => (19 ≤ r ∧ r < 19 + 15)) (fun _ => False) μ ν
  exact zFr.tr g0 (hr7 _ _ _ _ _ hF) (fun _ h => h) (fun _ h => h)
theorem g_S_darkest_7  {out : (Int32 × zI × zJ)} : ∀ (n : Nat) (x1 : Int32) (x2 : Int32) (x3 : Int32) (μ : zI) (ν : zJ), f_S_darkest_7   n x1 x2 x3 μ ν = some out → zFr (fun r => (19 ≤ r ∧ r < 19 + 15)) (fun _ => False) μ ν out.2.1 out.2.2 := by
  intro n
  induction n with
  | zero => intro x1 x2 x3 μ ν hF; cases hF
  | succ n ih =>
    intro x1 x2 x3 μ ν hF
    dsimp only [f_S_darkest_7] at hF
    have g0 := zFr.rf (fun r => (19 ≤ r ∧ r < 19 + 15)) (fun _ => False) μ ν
    rcases Decidable.em ((μ (4 + 3) 0) ≤ x3) with cy1 | cy1
    · replace hF := zh_t cy1 hF
      cases hF
      exact g0
    · replace hF := zh_f cy1 hF
      obtain ⟨ty2, hty2, hF⟩ := zh_bind hF
      have gty2 := zFr.tr g0 (fr_S_bestIfLight hty2) (fun r h => by first | exact h | exact h.elim | omega | (revert h; dsimp only; omega)) (fun r h => by first | exact h | exact h.elim | omega | (revert h; dsimp only; omega))
      obtain ⟨y3, hy3, hF⟩ := zh_let hF
      rcases Decidable.em (y3 ≤ x2) with cy4 | cy4
      · replace hF := zh_t cy4 hF
        exact zFr.tr gty2 (g_S_darkest_52 (fun a0 a1 a2 a3 a4 => ih a0 a1 a2 a3 a4) hF) (fun _ h => h) (fun _ h => h)
      · replace hF := zh_f cy4 hF
        exact zFr.tr gty2 (g_S_darkest_52 (fun a0 a1 a2 a3 a4 => ih a0 a1 a2 a3 a4) hF) (fun _ h => h) (fun _ h => h)
theorem g_S_darkest_0   {μ : zI} {ν : zJ} {out : (Int32 × zI × zJ)} (hF : e_S_darkest_0    μ ν = some out) : zFr (fun r => (19 ≤ r ∧ r < 19 + 15)) (fun _ => False) μ ν out.2.1 out.2.2 := by
  unfold e_S_darkest_0 at hF
  have g0 := zFr.rf (fun r => (19 ≤ r ∧ r < 19 + 15)) (fun _ => False) μ ν
  exact zFr.tr g0 (g_S_darkest_7  zFuel _ _ _ _ _ hF) (fun _ h => h) (fun _ h => h)
theorem fr_S_darkest {μ : zI} {ν : zJ} {out : (Int32 × zI × zJ)} (hE : E_S_darkest  μ ν = some out) : zFr (fun r => (19 ≤ r ∧ r < 19 + 15)) (fun _ => False) μ ν out.2.1 out.2.2 := (g_S_darkest_0 hE)
theorem g_S_followerNow_0  {x1 : Int32} {μ : zI} {ν : zJ} {out : (Int32 × zI × zJ)} (hF : e_S_followerNow_0   x1 μ ν = some out) : zFr (fun _ => False) (fun _ => False) μ ν out.2.1 out.2.2 := by
  unfold e_S_followerNow_0 at hF
  have g0 := zFr.rf (fun _ => False) (fun _ => False) μ ν
  by_cases cy1 : x1 = 0
  · replace hF := zh_t cy1 hF
    cases hF
    exact g0
  · replace hF := zh_f cy1 hF
    by_cases cy2 : x1 = 1
    · replace hF := zh_t cy2 hF
      cases hF
      exact g0
    · replace hF := zh_f cy2 hF
      by_cases cy3 : x1 = 2
      · replace hF := zh_t cy3 hF
        cases hF
        exact g0
      · replace hF := zh_f cy3 hF
        by_cases cy4 : x1 = 3
        · replace hF := zh_t cy4 hF
          cases hF
          exact g0
        · replace hF := zh_f cy4 hF
          by_cases cy5 : x1 = 4
          · replace hF := zh_t cy5 hF
            cases hF
            exact g0
          · replace hF := zh_f cy5 hF
            by_cases cy6 : x1 = 5
            · replace hF := zh_t cy6 hF
              cases hF
              exact g0
            · replace hF := zh_f cy6 hF
              by_cases cy7 : x1 = 6
              · replace hF := zh_t cy7 hF
                obtain ⟨ty9, hty9, hF⟩ := zh_bind hF
                have gty9 := zFr.tr g0 (fr_S_flag hty9) (fun r h => by first | exact h | exact h.elim | omega | (revert h; dsimp only; omega)) (fun r h => by first | exact h | exact h.elim | omega | (revert h; dsimp only; omega))
                cases hF
                exact gty9
              · replace hF := zh_f cy7 hF
                by_cases cy8 : x1 = 7
                · replace hF := zh_t cy8 hF
                  cases hF
                  exact g0
                · replace hF := zh_f cy8 hF
                  cases hF
                  exact g0
theorem fr_S_followerNow {x1 : Int32} {μ : zI} {ν : zJ} {out : (Int32 × zI × zJ)} (hE : E_S_followerNow x1 μ ν = some out) : zFr (fun _ => False) (fun _ => False) μ ν out.2.1 out.2.2 := (g_S_followerNow_0 hE)
theorem g_S_behindNow_0  {x1 : Int32} {μ : zI} {ν : zJ} {out : (Int32 × zI × zJ)} (hF : e_S_behindNow_0   x1 μ ν = some out) : zFr (fun _ => False) (fun _ => False) μ ν out.2.1 out.2.2 := by
  unfold e_S_behindNow_0 at hF
  have g0 := zFr.rf (fun _ => False) (fun _ => False) μ ν
  by_cases cy1 : x1 = 8
  · replace hF := zh_t cy1 hF
    cases hF
    exact g0
  · replace hF := zh_f cy1 hF
    by_cases cy2 : x1 = 9
    · replace hF := zh_t cy2 hF
      cases hF
      exact g0
    · replace hF := zh_f cy2 hF
      by_cases cy3 : x1 = 10
      · replace hF := zh_t cy3 hF
        cases hF
        exact g0
      · replace hF := zh_f cy3 hF
        by_cases cy4 : x1 = 11
        · replace hF := zh_t cy4 hF
          obtain ⟨ty11, hty11, hF⟩ := zh_bind hF
          have gty11 := zFr.tr g0 (fr_S_flag hty11) (fun r h => by first | exact h | exact h.elim | omega | (revert h; dsimp only; omega)) (fun r h => by first | exact h | exact h.elim | omega | (revert h; dsimp only; omega))
          cases hF
          exact gty11
        · replace hF := zh_f cy4 hF
          by_cases cy5 : x1 = 12
          · replace hF := zh_t cy5 hF
            cases hF
            exact g0
          · replace hF := zh_f cy5 hF
            by_cases cy6 : x1 = 13
            · replace hF := zh_t cy6 hF
              cases hF
              exact g0
            · replace hF := zh_f cy6 hF
              by_cases cy7 : x1 = 14
              · replace hF := zh_t cy7 hF
                cases hF
                exact g0
              · replace hF := zh_f cy7 hF
                by_cases cy8 : x1 = 15
                · replace hF := zh_t cy8 hF
                  cases hF
                  exact g0
                · replace hF := zh_f cy8 hF
                  by_cases cy9 : x1 = 16
                  · replace hF := zh_t cy9 hF
                    cases hF
                    exact g0
                  · replace hF := zh_f cy9 hF
                    by_cases cy10 : x1 = 17
                    · replace hF := zh_t cy10 hF
                      cases hF
                      exact g0
                    · replace hF := zh_f cy10 hF
                      cases hF
                      exact g0
theorem fr_S_behindNow {x1 : Int32} {μ : zI} {ν : zJ} {out : (Int32 × zI × zJ)} (hE : E_S_behindNow x1 μ ν = some out) : zFr (fun _ => False) (fun _ => False) μ ν out.2.1 out.2.2 := (g_S_behindNow_0 hE)
theorem g_S_now_23  {x1 : Int32} {s0 : Int32} {μ : zI} {ν : zJ} {out : (Int32 × zI × zJ)} (hF : e_S_now_23   x1 s0 μ ν = some out) : zFr (fun _ => False) (fun _ => False) μ ν out.2.1 out.2.2 := by
  unfold e_S_now_23 at hF
  have g0 := zFr.rf (fun _ => False) (fun _ => False) μ ν
  cases hF
  exact g0
theorem g_S_now_0  {x1 : Int32} {μ : zI} {ν : zJ} {out : (Int32 × zI × zJ)} (hF : e_S_now_0   x1 μ ν = some out) : zFr (fun _ => False) (fun _ => False) μ ν out.2.1 out.2.2 := by
  unfold e_S_now_0 at hF
  have g0 := zFr.rf (fun _ => False) (fun _ => False) μ ν
  obtain ⟨ty1, hty1, hF⟩ := zh_bind hF
  have gty1 := zFr.tr g0 (fr_S_isWithin hty1) (fun r h => by first | exact h | exact h.elim | omega | (revert h; dsimp only; omega)) (fun r h => by first | exact h | exact h.elim | omega | (revert h; dsimp only; omega))
  rcases Decidable.em (ty1.1 = 0) with cy2 | cy2
  · replace hF := zh_t cy2 hF
    obtain ⟨ty3, hty3, hF⟩ := zh_bind hF
    have gty3 := zFr.tr gty1 (fr_S_behindNow hty3) (fun r h => by first | exact h | exact h.elim | omega | (revert h; dsimp only; omega)) (fun r h => by first | exact h | exact h.elim | omega | (revert h; dsimp only; omega))
    exact zFr.tr gty3 (g_S_now_23  hF) (fun _ h => h) (fun _ h => h)
  · replace hF := zh_f cy2 hF
    obtain ⟨ty4, hty4, hF⟩ := zh_bind hF
    have gty4 := zFr.tr gty1 (fr_S_followerNow hty4) (fun r h => by first | exact h | exact h.elim | omega | (revert h; dsimp only; omega)) (fun r h => by first | exact h | exact h.elim | omega | (revert h; dsimp only; omega))
    exact zFr.tr gty4 (g_S_now_23  hF) (fun _ h => h) (fun _ h => h)
theorem fr_S_now {x1 : Int32} {μ : zI} {ν : zJ} {out : (Int32 × zI × zJ)} (hE : E_S_now x1 μ ν = some out) : zFr (fun _ => False) (fun _ => False) μ ν out.2.1 out.2.2 := (g_S_now_0 hE)
theorem g_Station_isSum_15 {b : Nat}  {x1 : Int32} {s0 : Int32} {μ : zI} {ν : zJ} {out : (Int32 × zI × zJ)} (hF : e_Station_isSum_15 b  x1 s0 μ ν = some out) : zFr (fun _ => False) (fun _ => False) μ ν out.2.1 out.2.2 := by
  unfold e_Station_isSum_15 at hF
  have g0 := zFr.rf (fun _ => False) (fun _ => False) μ ν
  obtain ⟨hy1, hF⟩ := zh_if hF
  cases hF
  exact g0
theorem g_Station_isSum_14 {b : Nat}  {x1 : Int32} {μ : zI} {ν : zJ} {out : (Int32 × zI × zJ)} (hF : e_Station_isSum_14 b  x1 μ ν = some out) : zFr (fun _ => False) (fun _ => False) μ ν out.2.1 out.2.2 := by
  unfold e_Station_isSum_14 at hF
  have g0 := zFr.rf (fun _ => False) (fun _ => False) μ ν
  exact zFr.tr g0 (g_Station_isSum_15  hF) (fun _ h => h) (fun _ h => h)
theorem g_Station_isSum_0 {b : Nat}  {x1 : Int32} {μ : zI} {ν : zJ} {out : (Int32 × zI × zJ)} (hF : e_Station_isSum_0 b  x1 μ ν = some out) : zFr (fun _ => False) (fun _ => False) μ ν out.2.1 out.2.2 := by
  unfold e_Station_isSum_0 at hF
  have g0 := zFr.rf (fun _ => False) (fun _ => False) μ ν
  rcases Decidable.em (x1 < 0) with cy1 | cy1
  · replace hF := zh_t cy1 hF
    exact zFr.tr g0 (g_Station_isSum_14  hF) (fun _ h => h) (fun _ h => h)
  · replace hF := zh_f cy1 hF
    rcases Decidable.em (11 ≤ x1) with cy2 | cy2
    · replace hF := zh_t cy2 hF
      exact zFr.tr g0 (g_Station_isSum_14  hF) (fun _ h => h) (fun _ h => h)
    · replace hF := zh_f cy2 hF
      exact zFr.tr g0 (g_Station_isSum_15  hF) (fun _ h => h) (fun _ h => h)
theorem fr_Station_isSum {b : Nat} {x1 : Int32} {μ : zI} {ν : zJ} {out : (Int32 × zI × zJ)} (hE : E_Station_isSum b x1 μ ν = some out) : zFr (fun _ => False) (fun _ => False) μ ν out.2.1 out.2.2 := (g_Station_isSum_0 hE)
theorem g_Station_sumOf_18 {b : Nat}  {x1 : Int32} {v0 : Int64} {μ : zI} {ν : zJ} {out : (Int64 × zI × zJ)} (hF : e_Station_sumOf_18 b  x1 v0 μ ν = some out) : zFr (fun _ => False) (fun _ => False) μ ν out.2.1 out.2.2 := by
  unfold e_Station_sumOf_18 at hF
  have g0 := zFr.rf (fun _ => False) (fun _ => False) μ ν
  cases hF
  exact g0
theorem g_Station_sumOf_0 {b : Nat}  {x1 : Int32} {μ : zI} {ν : zJ} {out : (Int64 × zI × zJ)} (hF : e_Station_sumOf_0 b  x1 μ ν = some out) : zFr (fun _ => False) (fun _ => False) μ ν out.2.1 out.2.2 := by
  unfold e_Station_sumOf_0 at hF
  have g0 := zFr.rf (fun _ => False) (fun _ => False) μ ν
  obtain ⟨ty1, hty1, hF⟩ := zh_bind hF
  have gty1 := zFr.tr g0 (fr_Station_isSum hty1) (fun r h => by first | exact h | exact h.elim | omega | (revert h; dsimp only; omega)) (fun r h => by first | exact h | exact h.elim | omega | (revert h; dsimp only; omega))
  rcases Decidable.em (ty1.1 = 0) with cy2 | cy2
  · replace hF := zh_t cy2 hF
    exact zFr.tr gty1 (g_Station_sumOf_18  hF) (fun _ h => h) (fun _ h => h)
  · replace hF := zh_f cy2 hF
    obtain ⟨hy3, hF⟩ := zh_if hF
    exact zFr.tr gty1 (g_Station_sumOf_18  hF) (fun _ h => h) (fun _ h => h)
theorem fr_Station_sumOf {b : Nat} {x1 : Int32} {μ : zI} {ν : zJ} {out : (Int64 × zI × zJ)} (hE : E_Station_sumOf b x1 μ ν = some out) : zFr (fun _ => False) (fun _ => False) μ ν out.2.1 out.2.2 := (g_Station_sumOf_0 hE)
theorem g_S_sum_25  {x1 : Int32} {v0 : Int64} {μ : zI} {ν : zJ} {out : (Int64 × zI × zJ)} (hF : e_S_sum_25   x1 v0 μ ν = some out) : zFr (fun _ => False) (fun _ => False) μ ν out.2.1 out.2.2 := by
  unfold e_S_sum_25 at hF
  have g0 := zFr.rf (fun _ => False) (fun _ => False) μ ν
  cases hF
  exact g0
theorem g_S_sum_0  {x1 : Int32} {μ : zI} {ν : zJ} {out : (Int64 × zI × zJ)} (hF : e_S_sum_0   x1 μ ν = some out) : zFr (fun _ => False) (fun _ => False) μ ν out.2.1 out.2.2 := by
  unfold e_S_sum_0 at hF
  have g0 := zFr.rf (fun _ => False) (fun _ => False) μ ν
  obtain ⟨ty1, hty1, hF⟩ := zh_bind hF
  have gty1 := zFr.tr g0 (fr_Station_isSum hty1) (fun r h => by first | exact h | exact h.elim | omega | (revert h; dsimp only; omega)) (fun r h => by first | exact h | exact h.elim | omega | (revert h; dsimp only; omega))
  rcases Decidable.em (ty1.1 = 0) with cy2 | cy2
  · replace hF := zh_t cy2 hF
    exact zFr.tr gty1 (g_S_sum_25  hF) (fun _ h => h) (fun _ h => h)
  · replace hF := zh_f cy2 hF
    obtain ⟨ty3, hty3, hF⟩ := zh_bind hF
    have gty3 := zFr.tr gty1 (fr_Station_sumOf hty3) (fun r h => by first | exact h | exact h.elim | omega | (revert h; dsimp only; omega)) (fun r h => by first | exact h | exact h.elim | omega | (revert h; dsimp only; omega))
    exact zFr.tr gty3 (g_S_sum_25  hF) (fun _ h => h) (fun _ h => h)
theorem fr_S_sum {x1 : Int32} {μ : zI} {ν : zJ} {out : (Int64 × zI × zJ)} (hE : E_S_sum x1 μ ν = some out) : zFr (fun _ => False) (fun _ => False) μ ν out.2.1 out.2.2 := (g_S_sum_0 hE)
theorem g_Log_get_22  {x1 : Int32} {x2 : Int32} {μ : zI} {ν : zJ} {out : (Int32 × zI × zJ)} (hF : e_Log_get_22   x1 x2 μ ν = some out) : zFr (fun _ => False) (fun _ => False) μ ν out.2.1 out.2.2 := by
  unfold e_Log_get_22 at hF
  have g0 := zFr.rf (fun _ => False) (fun _ => False) μ ν
  cases hF
  exact g0
theorem g_Log_get_0  {x1 : Int32} {x2 : Int32} {μ : zI} {ν : zJ} {out : (Int32 × zI × zJ)} (hF : e_Log_get_0   x1 x2 μ ν = some out) : zFr (fun _ => False) (fun _ => False) μ ν out.2.1 out.2.2 := by
  unfold e_Log_get_0 at hF
  have g0 := zFr.rf (fun _ => False) (fun _ => False) μ ν
  rcases Decidable.em (x1 < 0) with cy1 | cy1
  · replace hF := zh_t cy1 hF
    exact zFr.tr g0 (g_Log_get_22  hF) (fun _ h => h) (fun _ h => h)
  · replace hF := zh_f cy1 hF
    rcases Decidable.em ((μ 34 0) ≤ x1) with cy2 | cy2
    · replace hF := zh_t cy2 hF
      exact zFr.tr g0 (g_Log_get_22  hF) (fun _ h => h) (fun _ h => h)
    · replace hF := zh_f cy2 hF
      rcases Decidable.em (x2 < 0) with cy3 | cy3
      · replace hF := zh_t cy3 hF
        exact zFr.tr g0 (g_Log_get_22  hF) (fun _ h => h) (fun _ h => h)
      · replace hF := zh_f cy3 hF
        rcases Decidable.em (x2 < 10) with cy4 | cy4
        · replace hF := zh_t cy4 hF
          obtain ⟨hy5, hF⟩ := zh_if hF
          cases hF
          exact g0
        · replace hF := zh_f cy4 hF
          exact zFr.tr g0 (g_Log_get_22  hF) (fun _ h => h) (fun _ h => h)
theorem fr_Log_get {x1 : Int32} {x2 : Int32} {μ : zI} {ν : zJ} {out : (Int32 × zI × zJ)} (hE : E_Log_get x1 x2 μ ν = some out) : zFr (fun _ => False) (fun _ => False) μ ν out.2.1 out.2.2 := (g_Log_get_0 hE)
theorem g_S_past_14  {x1 : Int32} {x2 : Int32} {μ : zI} {ν : zJ} {out : (Int32 × zI × zJ)} (hF : e_S_past_14   x1 x2 μ ν = some out) : zFr (fun _ => False) (fun _ => False) μ ν out.2.1 out.2.2 := by
  unfold e_S_past_14 at hF
  have g0 := zFr.rf (fun _ => False) (fun _ => False) μ ν
  cases hF
  exact g0
theorem g_S_past_41  {x1 : Int32} {x2 : Int32} {s0 : Int32} {μ : zI} {ν : zJ} {out : (Int32 × zI × zJ)} (hF : e_S_past_41   x1 x2 s0 μ ν = some out) : zFr (fun _ => False) (fun _ => False) μ ν out.2.1 out.2.2 := by
  unfold e_S_past_41 at hF
  have g0 := zFr.rf (fun _ => False) (fun _ => False) μ ν
  cases hF
  exact g0
theorem g_S_past_0  {x1 : Int32} {x2 : Int32} {μ : zI} {ν : zJ} {out : (Int32 × zI × zJ)} (hF : e_S_past_0   x1 x2 μ ν = some out) : zFr (fun _ => False) (fun _ => False) μ ν out.2.1 out.2.2 := by
  unfold e_S_past_0 at hF
  have g0 := zFr.rf (fun _ => False) (fun _ => False) μ ν
  rcases Decidable.em (x1 < 0) with cy1 | cy1
  · replace hF := zh_t cy1 hF
    exact zFr.tr g0 (g_S_past_14  hF) (fun _ h => h) (fun _ h => h)
  · replace hF := zh_f cy1 hF
    obtain ⟨ty2, hty2, hF⟩ := zh_bind hF
    have gty2 := zFr.tr g0 (fr_S_isWithin hty2) (fun r h => by first | exact h | exact h.elim | omega | (revert h; dsimp only; omega)) (fun r h => by first | exact h | exact h.elim | omega | (revert h; dsimp only; omega))
    rcases (Decidable.em (ty2.1 = 0)).symm with cy3 | cy3
    · replace hF := zh_f cy3 hF
      rcases Decidable.em ((ty2.2.1 34 0) ≤ x1) with cy4 | cy4
      · replace hF := zh_t cy4 hF
        exact zFr.tr gty2 (g_S_past_41  hF) (fun _ h => h) (fun _ h => h)
      · replace hF := zh_f cy4 hF
        obtain ⟨ty5, hty5, hF⟩ := zh_bind hF
        have gty5 := zFr.tr gty2 (fr_Log_get hty5) (fun r h => by first | exact h | exact h.elim | omega | (revert h; dsimp only; omega)) (fun r h => by first | exact h | exact h.elim | omega | (revert h; dsimp only; omega))
        exact zFr.tr gty5 (g_S_past_41  hF) (fun _ h => h) (fun _ h => h)
    · replace hF := zh_t cy3 hF
      exact zFr.tr gty2 (g_S_past_14  hF) (fun _ h => h) (fun _ h => h)
theorem fr_S_past {x1 : Int32} {x2 : Int32} {μ : zI} {ν : zJ} {out : (Int32 × zI × zJ)} (hE : E_S_past x1 x2 μ ν = some out) : zFr (fun _ => False) (fun _ => False) μ ν out.2.1 out.2.2 := (g_S_past_0 hE)
theorem g_Log_wasNear_0  {x1 : Int32} {x2 : Int32} {μ : zI} {ν : zJ} {out : (Int32 × zI × zJ)} (hF : e_Log_wasNear_0   x1 x2 μ ν = some out) : zFr (fun _ => False) (fun _ => False) μ ν out.2.1 out.2.2 := by
  unfold e_Log_wasNear_0 at hF
  have g0 := zFr.rf (fun _ => False) (fun _ => False) μ ν
  obtain ⟨ty1, hty1, hF⟩ := zh_bind hF
  have gty1 := zFr.tr g0 (fr_Log_get hty1) (fun r h => by first | exact h | exact h.elim | omega | (revert h; dsimp only; omega)) (fun r h => by first | exact h | exact h.elim | omega | (revert h; dsimp only; omega))
  obtain ⟨ty2, hty2, hF⟩ := zh_bind hF
  have gty2 := zFr.tr gty1 (fr_Log_get hty2) (fun r h => by first | exact h | exact h.elim | omega | (revert h; dsimp only; omega)) (fun r h => by first | exact h | exact h.elim | omega | (revert h; dsimp only; omega))
  obtain ⟨ty3, hty3, hF⟩ := zh_bind hF
  have gty3 := zFr.tr gty2 (fr_S_isNear hty3) (fun r h => by first | exact h | exact h.elim | omega | (revert h; dsimp only; omega)) (fun r h => by first | exact h | exact h.elim | omega | (revert h; dsimp only; omega))
  obtain ⟨hy4, hF⟩ := zh_if hF
  cases hF
  exact gty3
theorem fr_Log_wasNear {x1 : Int32} {x2 : Int32} {μ : zI} {ν : zJ} {out : (Int32 × zI × zJ)} (hE : E_Log_wasNear x1 x2 μ ν = some out) : zFr (fun _ => False) (fun _ => False) μ ν out.2.1 out.2.2 := (g_Log_wasNear_0 hE)
theorem g_S_near_42 {r16 : Int32 → Int32 → Int32 → zI → zJ → Option (Int32 × zI × zJ)} {x1 : Int32} {x2 : Int32} {x3 : Int32} {μ : zI} {ν : zJ} {out : (Int32 × zI × zJ)} (hr16 : ∀ (x1 : Int32) (x2 : Int32) (x3 : Int32) (μ : zI) (ν : zJ), r16 x1 x2 x3 μ ν = some out → zFr (fun _ => False) (fun _ => False) μ ν out.2.1 out.2.2) (hF : e_S_near_42  r16 x1 x2 x3 μ ν = some out) : zFr (fun _ => False) (fun _ => False) μ ν out.2.1 out.2.2 := by
  unfold e_S_near_42 at hF
  have g0 := zFr.rf (fun _ => False) (fun _ => False) μ ν
  exact zFr.tr g0 (hr16 _ _ _ _ _ hF) (fun _ h => h) (fun _ h => h)
theorem g_S_near_16  {out : (Int32 × zI × zJ)} : ∀ (n : Nat) (x1 : Int32) (x2 : Int32) (x3 : Int32) (μ : zI) (ν : zJ), f_S_near_16   n x1 x2 x3 μ ν = some out → zFr (fun _ => False) (fun _ => False) μ ν out.2.1 out.2.2 := by
  intro n
  induction n with
  | zero => intro x1 x2 x3 μ ν hF; cases hF
  | succ n ih =>
    intro x1 x2 x3 μ ν hF
    dsimp only [f_S_near_16] at hF
    have g0 := zFr.rf (fun _ => False) (fun _ => False) μ ν
    rcases Decidable.em ((μ 34 0) ≤ x3) with cy1 | cy1
    · replace hF := zh_t cy1 hF
      cases hF
      exact g0
    · replace hF := zh_f cy1 hF
      obtain ⟨ty2, hty2, hF⟩ := zh_bind hF
      have gty2 := zFr.tr g0 (fr_Log_wasNear hty2) (fun r h => by first | exact h | exact h.elim | omega | (revert h; dsimp only; omega)) (fun r h => by first | exact h | exact h.elim | omega | (revert h; dsimp only; omega))
      rcases Decidable.em (ty2.1 = 0) with cy3 | cy3
      · replace hF := zh_t cy3 hF
        exact zFr.tr gty2 (g_S_near_42 (fun a0 a1 a2 a3 a4 => ih a0 a1 a2 a3 a4) hF) (fun _ h => h) (fun _ h => h)
      · replace hF := zh_f cy3 hF
        exact zFr.tr gty2 (g_S_near_42 (fun a0 a1 a2 a3 a4 => ih a0 a1 a2 a3 a4) hF) (fun _ h => h) (fun _ h => h)
theorem g_S_near_0  {x1 : Int32} {μ : zI} {ν : zJ} {out : (Int32 × zI × zJ)} (hF : e_S_near_0   x1 μ ν = some out) : zFr (fun _ => False) (fun _ => False) μ ν out.2.1 out.2.2 := by
  unfold e_S_near_0 at hF
  have g0 := zFr.rf (fun _ => False) (fun _ => False) μ ν
  obtain ⟨ty1, hty1, hF⟩ := zh_bind hF
  have gty1 := zFr.tr g0 (fr_S_isWithin hty1) (fun r h => by first | exact h | exact h.elim | omega | (revert h; dsimp only; omega)) (fun r h => by first | exact h | exact h.elim | omega | (revert h; dsimp only; omega))
  rcases (Decidable.em (ty1.1 = 0)).symm with cy2 | cy2
  · replace hF := zh_f cy2 hF
    exact zFr.tr gty1 (g_S_near_16  zFuel _ _ _ _ _ hF) (fun _ h => h) (fun _ h => h)
  · replace hF := zh_t cy2 hF
    cases hF
    exact gty1
theorem fr_S_near {x1 : Int32} {μ : zI} {ν : zJ} {out : (Int32 × zI × zJ)} (hE : E_S_near x1 μ ν = some out) : zFr (fun _ => False) (fun _ => False) μ ν out.2.1 out.2.2 := (g_S_near_0 hE)
theorem g_S_longestAway_51 {r19 : Int32 → Int32 → Int32 → Int32 → zI → zJ → Option (Int32 × zI × zJ)} {x1 : Int32} {x2 : Int32} {x3 : Int32} {x4 : Int32} {s0 : Int32} {μ : zI} {ν : zJ} {out : (Int32 × zI × zJ)} (hr19 : ∀ (x1 : Int32) (x2 : Int32) (x3 : Int32) (x4 : Int32) (μ : zI) (ν : zJ), r19 x1 x2 x3 x4 μ ν = some out → zFr (fun _ => False) (fun _ => False) μ ν out.2.1 out.2.2) (hF : e_S_longestAway_51  r19 x1 x2 x3 x4 s0 μ ν = some out) : zFr (fun _ => False) (fun _ => False) μ ν out.2.1 out.2.2 := by
  unfold e_S_longestAway_51 at hF
  have g0 := zFr.rf (fun _ => False) (fun _ => False) μ ν
  obtain ⟨y1, hy1, hF⟩ := zh_let hF
  exact zFr.tr g0 (hr19 _ _ _ _ _ _ hF) (fun _ h => h) (fun _ h => h)
theorem g_S_longestAway_19  {out : (Int32 × zI × zJ)} : ∀ (n : Nat) (x1 : Int32) (x2 : Int32) (x3 : Int32) (x4 : Int32) (μ : zI) (ν : zJ), f_S_longestAway_19   n x1 x2 x3 x4 μ ν = some out → zFr (fun _ => False) (fun _ => False) μ ν out.2.1 out.2.2 := by
  intro n
  induction n with
  | zero => intro x1 x2 x3 x4 μ ν hF; cases hF
  | succ n ih =>
    intro x1 x2 x3 x4 μ ν hF
    dsimp only [f_S_longestAway_19] at hF
    have g0 := zFr.rf (fun _ => False) (fun _ => False) μ ν
    rcases Decidable.em ((μ 34 0) ≤ x4) with cy1 | cy1
    · replace hF := zh_t cy1 hF
      cases hF
      exact g0
    · replace hF := zh_f cy1 hF
      obtain ⟨ty2, hty2, hF⟩ := zh_bind hF
      have gty2 := zFr.tr g0 (fr_Log_wasNear hty2) (fun r h => by first | exact h | exact h.elim | omega | (revert h; dsimp only; omega)) (fun r h => by first | exact h | exact h.elim | omega | (revert h; dsimp only; omega))
      rcases Decidable.em (ty2.1 = 0) with cy3 | cy3
      · replace hF := zh_t cy3 hF
        exact zFr.tr gty2 (g_S_longestAway_51 (fun a0 a1 a2 a3 a4 a5 => ih a0 a1 a2 a3 a4 a5) hF) (fun _ h => h) (fun _ h => h)
      · replace hF := zh_f cy3 hF
        exact zFr.tr gty2 (g_S_longestAway_51 (fun a0 a1 a2 a3 a4 a5 => ih a0 a1 a2 a3 a4 a5) hF) (fun _ h => h) (fun _ h => h)
theorem g_S_longestAway_0  {x1 : Int32} {μ : zI} {ν : zJ} {out : (Int32 × zI × zJ)} (hF : e_S_longestAway_0   x1 μ ν = some out) : zFr (fun _ => False) (fun _ => False) μ ν out.2.1 out.2.2 := by
  unfold e_S_longestAway_0 at hF
  have g0 := zFr.rf (fun _ => False) (fun _ => False) μ ν
  obtain ⟨ty1, hty1, hF⟩ := zh_bind hF
  have gty1 := zFr.tr g0 (fr_S_isWithin hty1) (fun r h => by first | exact h | exact h.elim | omega | (revert h; dsimp only; omega)) (fun r h => by first | exact h | exact h.elim | omega | (revert h; dsimp only; omega))
  rcases (Decidable.em (ty1.1 = 0)).symm with cy2 | cy2
  · replace hF := zh_f cy2 hF
    exact zFr.tr gty1 (g_S_longestAway_19  zFuel _ _ _ _ _ _ hF) (fun _ h => h) (fun _ h => h)
  · replace hF := zh_t cy2 hF
    cases hF
    exact gty1
theorem fr_S_longestAway {x1 : Int32} {μ : zI} {ν : zJ} {out : (Int32 × zI × zJ)} (hE : E_S_longestAway x1 μ ν = some out) : zFr (fun _ => False) (fun _ => False) μ ν out.2.1 out.2.2 := (g_S_longestAway_0 hE)
theorem g_S_ripple_90  {x1 : Int32} {x2 : Int32} {x3 : Int32} {x4 : Int32} {μ : zI} {ν : zJ} {out : (Int32 × zI × zJ)} (hF : e_S_ripple_90   x1 x2 x3 x4 μ ν = some out) : zFr (fun _ => False) (fun _ => False) μ ν out.2.1 out.2.2 := by
  unfold e_S_ripple_90 at hF
  have g0 := zFr.rf (fun _ => False) (fun _ => False) μ ν
  cases hF
  exact g0
theorem g_S_ripple_40  {out : (Int32 × zI × zJ)} : ∀ (n : Nat) (x1 : Int32) (x2 : Int32) (x3 : Int32) (x4 : Int32) (μ : zI) (ν : zJ), f_S_ripple_40   n x1 x2 x3 x4 μ ν = some out → zFr (fun _ => False) (fun _ => False) μ ν out.2.1 out.2.2 := by
  intro n
  induction n with
  | zero => intro x1 x2 x3 x4 μ ν hF; cases hF
  | succ n ih =>
    intro x1 x2 x3 x4 μ ν hF
    dsimp only [f_S_ripple_40] at hF
    have g0 := zFr.rf (fun _ => False) (fun _ => False) μ ν
    rcases Decidable.em (x1 ≤ x4) with cy1 | cy1
    · replace hF := zh_t cy1 hF
      exact zFr.tr g0 (g_S_ripple_90  hF) (fun _ h => h) (fun _ h => h)
    · replace hF := zh_f cy1 hF
      rcases Decidable.em ((μ 34 0) ≤ x4) with cy2 | cy2
      · replace hF := zh_t cy2 hF
        exact zFr.tr g0 (g_S_ripple_90  hF) (fun _ h => h) (fun _ h => h)
      · replace hF := zh_f cy2 hF
        obtain ⟨ty3, hty3, hF⟩ := zh_bind hF
        have gty3 := zFr.tr g0 (fr_Log_get hty3) (fun r h => by first | exact h | exact h.elim | omega | (revert h; dsimp only; omega)) (fun r h => by first | exact h | exact h.elim | omega | (revert h; dsimp only; omega))
        obtain ⟨y4, hy4, hF⟩ := zh_let hF
        obtain ⟨y5, hy5, hF⟩ := zh_let hF
        obtain ⟨y6, hy6, hF⟩ := zh_let hF
        exact zFr.tr gty3 (ih _ _ _ _ _ _ hF) (fun _ h => h) (fun _ h => h)
theorem g_S_ripple_0  {x1 : Int32} {μ : zI} {ν : zJ} {out : (Int32 × zI × zJ)} (hF : e_S_ripple_0   x1 μ ν = some out) : zFr (fun _ => False) (fun _ => False) μ ν out.2.1 out.2.2 := by
  unfold e_S_ripple_0 at hF
  have g0 := zFr.rf (fun _ => False) (fun _ => False) μ ν
  obtain ⟨ty1, hty1, hF⟩ := zh_bind hF
  have gty1 := zFr.tr g0 (fr_S_isWithin hty1) (fun r h => by first | exact h | exact h.elim | omega | (revert h; dsimp only; omega)) (fun r h => by first | exact h | exact h.elim | omega | (revert h; dsimp only; omega))
  rcases (Decidable.em (ty1.1 = 0)).symm with cy2 | cy2
  · replace hF := zh_f cy2 hF
    rcases (Decidable.em ((ty1.2.1 34 0) = 0)).symm with cy3 | cy3
    · replace hF := zh_f cy3 hF
      obtain ⟨ty4, hty4, hF⟩ := zh_bind hF
      have gty4 := zFr.tr gty1 (fr_Log_get hty4) (fun r h => by first | exact h | exact h.elim | omega | (revert h; dsimp only; omega)) (fun r h => by first | exact h | exact h.elim | omega | (revert h; dsimp only; omega))
      obtain ⟨y5, hy5, hF⟩ := zh_let hF
      exact zFr.tr gty4 (g_S_ripple_40  zFuel _ _ _ _ _ _ hF) (fun _ h => h) (fun _ h => h)
    · replace hF := zh_t cy3 hF
      cases hF
      exact gty1
  · replace hF := zh_t cy2 hF
    cases hF
    exact gty1
theorem fr_S_ripple {x1 : Int32} {μ : zI} {ν : zJ} {out : (Int32 × zI × zJ)} (hE : E_S_ripple x1 μ ν = some out) : zFr (fun _ => False) (fun _ => False) μ ν out.2.1 out.2.2 := (g_S_ripple_0 hE)
theorem g_S_average_36  {out : (Int32 × zI × zJ)} : ∀ (n : Nat) (x1 : Int32) (x2 : Int32) (x3 : Int32) (x4 : Int32) (μ : zI) (ν : zJ), f_S_average_36   n x1 x2 x3 x4 μ ν = some out → zFr (fun _ => False) (fun _ => False) μ ν out.2.1 out.2.2 := by
  intro n
  induction n with
  | zero => intro x1 x2 x3 x4 μ ν hF; cases hF
  | succ n ih =>
    intro x1 x2 x3 x4 μ ν hF
    dsimp only [f_S_average_36] at hF
    have g0 := zFr.rf (fun _ => False) (fun _ => False) μ ν
    rcases Decidable.em (x2 ≤ x4) with cy1 | cy1
    · replace hF := zh_t cy1 hF
      obtain ⟨hy2, hF⟩ := zh_ne hF
      cases hF
      exact g0
    · replace hF := zh_f cy1 hF
      obtain ⟨ty3, hty3, hF⟩ := zh_bind hF
      have gty3 := zFr.tr g0 (fr_Log_get hty3) (fun r h => by first | exact h | exact h.elim | omega | (revert h; dsimp only; omega)) (fun r h => by first | exact h | exact h.elim | omega | (revert h; dsimp only; omega))
      obtain ⟨y4, hy4, hF⟩ := zh_let hF
      exact zFr.tr gty3 (ih _ _ _ _ _ _ hF) (fun _ h => h) (fun _ h => h)
theorem g_S_average_0  {x1 : Int32} {μ : zI} {ν : zJ} {out : (Int32 × zI × zJ)} (hF : e_S_average_0   x1 μ ν = some out) : zFr (fun _ => False) (fun _ => False) μ ν out.2.1 out.2.2 := by
  unfold e_S_average_0 at hF
  have g0 := zFr.rf (fun _ => False) (fun _ => False) μ ν
  obtain ⟨ty1, hty1, hF⟩ := zh_bind hF
  have gty1 := zFr.tr g0 (fr_S_isWithin hty1) (fun r h => by first | exact h | exact h.elim | omega | (revert h; dsimp only; omega)) (fun r h => by first | exact h | exact h.elim | omega | (revert h; dsimp only; omega))
  rcases (Decidable.em (ty1.1 = 0)).symm with cy2 | cy2
  · replace hF := zh_f cy2 hF
    obtain ⟨y3, hy3, hF⟩ := zh_let hF
    rcases (Decidable.em (y3 = 0)).symm with cy4 | cy4
    · replace hF := zh_f cy4 hF
      exact zFr.tr gty1 (g_S_average_36  zFuel _ _ _ _ _ _ hF) (fun _ h => h) (fun _ h => h)
    · replace hF := zh_t cy4 hF
      cases hF
      exact gty1
  · replace hF := zh_t cy2 hF
    cases hF
    exact gty1
theorem fr_S_average {x1 : Int32} {μ : zI} {ν : zJ} {out : (Int32 × zI × zJ)} (hE : E_S_average x1 μ ν = some out) : zFr (fun _ => False) (fun _ => False) μ ν out.2.1 out.2.2 := (g_S_average_0 hE)
theorem g_S_worst_78 {r31 : Int32 → Int32 → Int32 → Int32 → zI → zJ → Option (Int32 × zI × zJ)} {x1 : Int32} {x2 : Int32} {x3 : Int32} {x4 : Int32} {x5 : Int32} {μ : zI} {ν : zJ} {out : (Int32 × zI × zJ)} (hr31 : ∀ (x1 : Int32) (x2 : Int32) (x3 : Int32) (x4 : Int32) (μ : zI) (ν : zJ), r31 x1 x2 x3 x4 μ ν = some out → zFr (fun _ => False) (fun _ => False) μ ν out.2.1 out.2.2) (hF : e_S_worst_78  r31 x1 x2 x3 x4 x5 μ ν = some out) : zFr (fun _ => False) (fun _ => False) μ ν out.2.1 out.2.2 := by
  unfold e_S_worst_78 at hF
  have g0 := zFr.rf (fun _ => False) (fun _ => False) μ ν
  exact zFr.tr g0 (hr31 _ _ _ _ _ _ hF) (fun _ h => h) (fun _ h => h)
theorem g_S_worst_93  {x1 : Int32} {x2 : Int32} {x3 : Int32} {x4 : Int32} {s0 : Int32} {μ : zI} {ν : zJ} {out : (Int32 × zI × zJ)} (hF : e_S_worst_93   x1 x2 x3 x4 s0 μ ν = some out) : zFr (fun _ => False) (fun _ => False) μ ν out.2.1 out.2.2 := by
  unfold e_S_worst_93 at hF
  have g0 := zFr.rf (fun _ => False) (fun _ => False) μ ν
  cases hF
  exact g0
theorem g_S_worst_31  {out : (Int32 × zI × zJ)} : ∀ (n : Nat) (x1 : Int32) (x2 : Int32) (x3 : Int32) (x4 : Int32) (μ : zI) (ν : zJ), f_S_worst_31   n x1 x2 x3 x4 μ ν = some out → zFr (fun _ => False) (fun _ => False) μ ν out.2.1 out.2.2 := by
  intro n
  induction n with
  | zero => intro x1 x2 x3 x4 μ ν hF; cases hF
  | succ n ih =>
    intro x1 x2 x3 x4 μ ν hF
    dsimp only [f_S_worst_31] at hF
    have g0 := zFr.rf (fun _ => False) (fun _ => False) μ ν
    rcases Decidable.em ((μ 34 0) ≤ x4) with cy1 | cy1
    · replace hF := zh_t cy1 hF
      rcases (Decidable.em (x1 = 0)).symm with cy2 | cy2
      · replace hF := zh_f cy2 hF
        exact zFr.tr g0 (g_S_worst_93  hF) (fun _ h => h) (fun _ h => h)
      · replace hF := zh_t cy2 hF
        exact zFr.tr g0 (g_S_worst_93  hF) (fun _ h => h) (fun _ h => h)
    · replace hF := zh_f cy1 hF
      obtain ⟨ty3, hty3, hF⟩ := zh_bind hF
      have gty3 := zFr.tr g0 (fr_Log_get hty3) (fun r h => by first | exact h | exact h.elim | omega | (revert h; dsimp only; omega)) (fun r h => by first | exact h | exact h.elim | omega | (revert h; dsimp only; omega))
      obtain ⟨ty4, hty4, hF⟩ := zh_bind hF
      have gty4 := zFr.tr gty3 (fr_Log_get hty4) (fun r h => by first | exact h | exact h.elim | omega | (revert h; dsimp only; omega)) (fun r h => by first | exact h | exact h.elim | omega | (revert h; dsimp only; omega))
      obtain ⟨y5, hy5, hF⟩ := zh_let hF
      rcases Decidable.em (y5 ≤ x3) with cy6 | cy6
      · replace hF := zh_t cy6 hF
        exact zFr.tr gty4 (g_S_worst_78 (fun a0 a1 a2 a3 a4 a5 => ih a0 a1 a2 a3 a4 a5) hF) (fun _ h => h) (fun _ h => h)
      · replace hF := zh_f cy6 hF
        exact zFr.tr gty4 (g_S_worst_78 (fun a0 a1 a2 a3 a4 a5 => ih a0 a1 a2 a3 a4 a5) hF) (fun _ h => h) (fun _ h => h)
theorem g_S_worst_0  {x1 : Int32} {μ : zI} {ν : zJ} {out : (Int32 × zI × zJ)} (hF : e_S_worst_0   x1 μ ν = some out) : zFr (fun _ => False) (fun _ => False) μ ν out.2.1 out.2.2 := by
  unfold e_S_worst_0 at hF
  have g0 := zFr.rf (fun _ => False) (fun _ => False) μ ν
  obtain ⟨ty1, hty1, hF⟩ := zh_bind hF
  have gty1 := zFr.tr g0 (fr_S_isWithin hty1) (fun r h => by first | exact h | exact h.elim | omega | (revert h; dsimp only; omega)) (fun r h => by first | exact h | exact h.elim | omega | (revert h; dsimp only; omega))
  rcases (Decidable.em (ty1.1 = 0)).symm with cy2 | cy2
  · replace hF := zh_f cy2 hF
    rcases (Decidable.em ((ty1.2.1 34 0) = 0)).symm with cy3 | cy3
    · replace hF := zh_f cy3 hF
      exact zFr.tr gty1 (g_S_worst_31  zFuel _ _ _ _ _ _ hF) (fun _ h => h) (fun _ h => h)
    · replace hF := zh_t cy3 hF
      cases hF
      exact gty1
  · replace hF := zh_t cy2 hF
    cases hF
    exact gty1
theorem fr_S_worst {x1 : Int32} {μ : zI} {ν : zJ} {out : (Int32 × zI × zJ)} (hE : E_S_worst x1 μ ν = some out) : zFr (fun _ => False) (fun _ => False) μ ν out.2.1 out.2.2 := (g_S_worst_0 hE)
theorem g_S_comes_13  {x1 : Int32} {x2 : Int32} {μ : zI} {ν : zJ} {out : (Int32 × zI × zJ)} (hF : e_S_comes_13   x1 x2 μ ν = some out) : zFr (fun _ => False) (fun _ => False) μ ν out.2.1 out.2.2 := by
  unfold e_S_comes_13 at hF
  have g0 := zFr.rf (fun _ => False) (fun _ => False) μ ν
  cases hF
  exact g0
theorem g_S_comes_46  {x1 : Int32} {x2 : Int32} {s0 : Int32} {μ : zI} {ν : zJ} {out : (Int32 × zI × zJ)} (hF : e_S_comes_46   x1 x2 s0 μ ν = some out) : zFr (fun _ => False) (fun _ => False) μ ν out.2.1 out.2.2 := by
  unfold e_S_comes_46 at hF
  have g0 := zFr.rf (fun _ => False) (fun _ => False) μ ν
  cases hF
  exact g0
theorem g_S_comes_0  {x1 : Int32} {x2 : Int32} {μ : zI} {ν : zJ} {out : (Int32 × zI × zJ)} (hF : e_S_comes_0   x1 x2 μ ν = some out) : zFr (fun _ => False) (fun _ => False) μ ν out.2.1 out.2.2 := by
  unfold e_S_comes_0 at hF
  have g0 := zFr.rf (fun _ => False) (fun _ => False) μ ν
  rcases Decidable.em (x1 < 0) with cy1 | cy1
  · replace hF := zh_t cy1 hF
    exact zFr.tr g0 (g_S_comes_13  hF) (fun _ h => h) (fun _ h => h)
  · replace hF := zh_f cy1 hF
    obtain ⟨ty2, hty2, hF⟩ := zh_bind hF
    have gty2 := zFr.tr g0 (fr_S_isWithin hty2) (fun r h => by first | exact h | exact h.elim | omega | (revert h; dsimp only; omega)) (fun r h => by first | exact h | exact h.elim | omega | (revert h; dsimp only; omega))
    rcases (Decidable.em (ty2.1 = 0)).symm with cy3 | cy3
    · replace hF := zh_f cy3 hF
      obtain ⟨ty4, hty4, hF⟩ := zh_bind hF
      have gty4 := zFr.tr gty2 (fr_Schedule_left hty4) (fun r h => by first | exact h | exact h.elim | omega | (revert h; dsimp only; omega)) (fun r h => by first | exact h | exact h.elim | omega | (revert h; dsimp only; omega))
      rcases Decidable.em (ty4.1 ≤ x1) with cy5 | cy5
      · replace hF := zh_t cy5 hF
        exact zFr.tr gty4 (g_S_comes_46  hF) (fun _ h => h) (fun _ h => h)
      · replace hF := zh_f cy5 hF
        obtain ⟨ty6, hty6, hF⟩ := zh_bind hF
        have gty6 := zFr.tr gty4 (fr_Schedule_get hty6) (fun r h => by first | exact h | exact h.elim | omega | (revert h; dsimp only; omega)) (fun r h => by first | exact h | exact h.elim | omega | (revert h; dsimp only; omega))
        exact zFr.tr gty6 (g_S_comes_46  hF) (fun _ h => h) (fun _ h => h)
    · replace hF := zh_t cy3 hF
      exact zFr.tr gty2 (g_S_comes_13  hF) (fun _ h => h) (fun _ h => h)
theorem fr_S_comes {x1 : Int32} {x2 : Int32} {μ : zI} {ν : zJ} {out : (Int32 × zI × zJ)} (hE : E_S_comes x1 x2 μ ν = some out) : zFr (fun _ => False) (fun _ => False) μ ν out.2.1 out.2.2 := (g_S_comes_0 hE)
theorem g_Schedule_drop_12 {b : Nat}  {x1 : Int32} {μ : zI} {ν : zJ} {out : (zI × zJ)} (hF : e_Schedule_drop_12 b  x1 μ ν = some out) : zFr (fun r => (b ≤ r ∧ r < b + 15)) (fun _ => False) μ ν out.1 out.2 := by
  unfold e_Schedule_drop_12 at hF
  have g0 := zFr.rf (fun r => (b ≤ r ∧ r < b + 15)) (fun _ => False) μ ν
  cases hF
  exact g0
theorem g_Schedule_drop_0 {b : Nat}  {x1 : Int32} {μ : zI} {ν : zJ} {out : (zI × zJ)} (hF : e_Schedule_drop_0 b  x1 μ ν = some out) : zFr (fun r => (b ≤ r ∧ r < b + 15)) (fun _ => False) μ ν out.1 out.2 := by
  unfold e_Schedule_drop_0 at hF
  have g0 := zFr.rf (fun r => (b ≤ r ∧ r < b + 15)) (fun _ => False) μ ν
  rcases Decidable.em (x1 < 0) with cy1 | cy1
  · replace hF := zh_t cy1 hF
    exact zFr.tr g0 (g_Schedule_drop_12  hF) (fun _ h => h) (fun _ h => h)
  · replace hF := zh_f cy1 hF
    obtain ⟨ty2, hty2, hF⟩ := zh_bind hF
    have gty2 := zFr.tr g0 (fr_Schedule_left hty2) (fun r h => by first | exact h | exact h.elim | omega | (revert h; dsimp only; omega)) (fun r h => by first | exact h | exact h.elim | omega | (revert h; dsimp only; omega))
    rcases Decidable.em (x1 < ty2.1) with cy3 | cy3
    · replace hF := zh_t cy3 hF
      obtain ⟨y4, hy4, hF⟩ := zh_let hF
      obtain ⟨hy5, hF⟩ := zh_if hF
      obtain ⟨hy6, hF⟩ := zh_if hF
      obtain ⟨μy7, hy7, hF⟩ := zh_let hF
      have gy7 := zFr.row gty2 (r := (b + 10)) (by first | omega | (dsimp only; omega)) hy7
      obtain ⟨μy8, hy8, hF⟩ := zh_let hF
      have gy8 := zFr.put gy7 (r := (b + 9)) (by first | omega | (dsimp only; omega)) hy8
      cases hF
      exact gy8
    · replace hF := zh_f cy3 hF
      exact zFr.tr gty2 (g_Schedule_drop_12  hF) (fun _ h => h) (fun _ h => h)
theorem fr_Schedule_drop {b : Nat} {x1 : Int32} {μ : zI} {ν : zJ} {out : (zI × zJ)} (hE : E_Schedule_drop b x1 μ ν = some out) : zFr (fun r => (b ≤ r ∧ r < b + 15)) (fun _ => False) μ ν out.1 out.2 := (g_Schedule_drop_0 hE)
theorem g_S_cancel_0  {x1 : Int32} {μ : zI} {ν : zJ} {out : (Int32 × zI × zJ)} (hF : e_S_cancel_0   x1 μ ν = some out) : zFr (fun r => (4 ≤ r ∧ r < 4 + 15)) (fun _ => False) μ ν out.2.1 out.2.2 := by
  unfold e_S_cancel_0 at hF
  have g0 := zFr.rf (fun r => (4 ≤ r ∧ r < 4 + 15)) (fun _ => False) μ ν
  rcases Decidable.em (0 ≤ x1) with cy1 | cy1
  · replace hF := zh_t cy1 hF
    obtain ⟨ty2, hty2, hF⟩ := zh_bind hF
    have gty2 := zFr.tr g0 (fr_Schedule_left hty2) (fun r h => by first | exact h | exact h.elim | omega | (revert h; dsimp only; omega)) (fun r h => by first | exact h | exact h.elim | omega | (revert h; dsimp only; omega))
    rcases Decidable.em (x1 < ty2.1) with cy3 | cy3
    · replace hF := zh_t cy3 hF
      obtain ⟨ty4, hty4, hF⟩ := zh_bind hF
      have gty4 := zFr.tr gty2 (fr_Schedule_drop hty4) (fun r h => by first | exact h | exact h.elim | omega | (revert h; dsimp only; omega)) (fun r h => by first | exact h | exact h.elim | omega | (revert h; dsimp only; omega))
      obtain ⟨ty5, hty5, hF⟩ := zh_bind hF
      have gty5 := zFr.tr gty4 (fr_Schedule_left hty5) (fun r h => by first | exact h | exact h.elim | omega | (revert h; dsimp only; omega)) (fun r h => by first | exact h | exact h.elim | omega | (revert h; dsimp only; omega))
      cases hF
      exact gty5
    · replace hF := zh_f cy3 hF
      cases hF
      exact gty2
  · replace hF := zh_f cy1 hF
    cases hF
    exact g0
theorem fr_S_cancel {x1 : Int32} {μ : zI} {ν : zJ} {out : (Int32 × zI × zJ)} (hE : E_S_cancel x1 μ ν = some out) : zFr (fun r => (4 ≤ r ∧ r < 4 + 15)) (fun _ => False) μ ν out.2.1 out.2.2 := (g_S_cancel_0 hE)
theorem g_S_mayTry_23  {x1 : Int32} {s0 : Int32} {μ : zI} {ν : zJ} {out : (Int32 × zI × zJ)} (hF : e_S_mayTry_23   x1 s0 μ ν = some out) : zFr (fun _ => False) (fun _ => False) μ ν out.2.1 out.2.2 := by
  unfold e_S_mayTry_23 at hF
  have g0 := zFr.rf (fun _ => False) (fun _ => False) μ ν
  obtain ⟨hy1, hF⟩ := zh_if hF
  cases hF
  exact g0
theorem g_S_mayTry_22  {x1 : Int32} {μ : zI} {ν : zJ} {out : (Int32 × zI × zJ)} (hF : e_S_mayTry_22   x1 μ ν = some out) : zFr (fun _ => False) (fun _ => False) μ ν out.2.1 out.2.2 := by
  unfold e_S_mayTry_22 at hF
  have g0 := zFr.rf (fun _ => False) (fun _ => False) μ ν
  exact zFr.tr g0 (g_S_mayTry_23  hF) (fun _ h => h) (fun _ h => h)
theorem g_S_mayTry_0  {x1 : Int32} {μ : zI} {ν : zJ} {out : (Int32 × zI × zJ)} (hF : e_S_mayTry_0   x1 μ ν = some out) : zFr (fun _ => False) (fun _ => False) μ ν out.2.1 out.2.2 := by
  unfold e_S_mayTry_0 at hF
  have g0 := zFr.rf (fun _ => False) (fun _ => False) μ ν
  obtain ⟨ty1, hty1, hF⟩ := zh_bind hF
  have gty1 := zFr.tr g0 (fr_S_isWithin hty1) (fun r h => by first | exact h | exact h.elim | omega | (revert h; dsimp only; omega)) (fun r h => by first | exact h | exact h.elim | omega | (revert h; dsimp only; omega))
  rcases Decidable.em (ty1.1 = 0) with cy2 | cy2
  · replace hF := zh_t cy2 hF
    exact zFr.tr gty1 (g_S_mayTry_22  hF) (fun _ h => h) (fun _ h => h)
  · replace hF := zh_f cy2 hF
    obtain ⟨ty3, hty3, hF⟩ := zh_bind hF
    have gty3 := zFr.tr gty1 (fr_S_hasModules hty3) (fun r h => by first | exact h | exact h.elim | omega | (revert h; dsimp only; omega)) (fun r h => by first | exact h | exact h.elim | omega | (revert h; dsimp only; omega))
    rcases Decidable.em (ty3.1 = 0) with cy4 | cy4
    · replace hF := zh_t cy4 hF
      exact zFr.tr gty3 (g_S_mayTry_22  hF) (fun _ h => h) (fun _ h => h)
    · replace hF := zh_f cy4 hF
      exact zFr.tr gty3 (g_S_mayTry_23  hF) (fun _ h => h) (fun _ h => h)
theorem fr_S_mayTry {x1 : Int32} {μ : zI} {ν : zJ} {out : (Int32 × zI × zJ)} (hE : E_S_mayTry x1 μ ν = some out) : zFr (fun _ => False) (fun _ => False) μ ν out.2.1 out.2.2 := (g_S_mayTry_0 hE)
theorem g_S_beginTrial_0   {μ : zI} {ν : zJ} {out : (zI × zJ)} (hF : e_S_beginTrial_0    μ ν = some out) : zFr (fun r => (19 ≤ r ∧ r < 19 + 15)) (fun r => (19 ≤ r ∧ r < 19 + 15)) μ ν out.1 out.2 := by
  unfold e_S_beginTrial_0 at hF
  have g0 := zFr.rf (fun r => (19 ≤ r ∧ r < 19 + 15)) (fun r => (19 ≤ r ∧ r < 19 + 15)) μ ν
  obtain ⟨ty1, hty1, hF⟩ := zh_bind hF
  have gty1 := zFr.tr g0 (fr_Station_copyFrom hty1) (fun r h => by first | exact h | exact h.elim | omega | (revert h; dsimp only; omega)) (fun r h => by first | exact h | exact h.elim | omega | (revert h; dsimp only; omega))
  obtain ⟨ty2, hty2, hF⟩ := zh_bind hF
  have gty2 := zFr.tr gty1 (fr_Station_clearSums hty2) (fun r h => by first | exact h | exact h.elim | omega | (revert h; dsimp only; omega)) (fun r h => by first | exact h | exact h.elim | omega | (revert h; dsimp only; omega))
  cases hF
  exact gty2
theorem fr_S_beginTrial {μ : zI} {ν : zJ} {out : (zI × zJ)} (hE : E_S_beginTrial  μ ν = some out) : zFr (fun r => (19 ≤ r ∧ r < 19 + 15)) (fun r => (19 ≤ r ∧ r < 19 + 15)) μ ν out.1 out.2 := (g_S_beginTrial_0 hE)
theorem g_Station_advanceBy_2 {b : Nat}  {out : (zI × zJ)} : ∀ (n : Nat) (x1 : Int32) (x2 : Int32) (μ : zI) (ν : zJ), f_Station_advanceBy_2 b  n x1 x2 μ ν = some out → zFr (fun r => (b ≤ r ∧ r < b + 15)) (fun r => (b ≤ r ∧ r < b + 15)) μ ν out.1 out.2 := by
  intro n
  induction n with
  | zero => intro x1 x2 μ ν hF; cases hF
  | succ n ih =>
    intro x1 x2 μ ν hF
    dsimp only [f_Station_advanceBy_2] at hF
    have g0 := zFr.rf (fun r => (b ≤ r ∧ r < b + 15)) (fun r => (b ≤ r ∧ r < b + 15)) μ ν
    rcases Decidable.em (x1 ≤ x2) with cy1 | cy1
    · replace hF := zh_t cy1 hF
      cases hF
      exact g0
    · replace hF := zh_f cy1 hF
      obtain ⟨ty2, hty2, hF⟩ := zh_bind hF
      have gty2 := zFr.tr g0 (fr_Station_advance hty2) (fun r h => by first | exact h | exact h.elim | omega | (revert h; dsimp only; omega)) (fun r h => by first | exact h | exact h.elim | omega | (revert h; dsimp only; omega))
      exact zFr.tr gty2 (ih _ _ _ _ hF) (fun _ h => h) (fun _ h => h)
theorem g_Station_advanceBy_0 {b : Nat}  {x1 : Int32} {μ : zI} {ν : zJ} {out : (zI × zJ)} (hF : e_Station_advanceBy_0 b  x1 μ ν = some out) : zFr (fun r => (b ≤ r ∧ r < b + 15)) (fun r => (b ≤ r ∧ r < b + 15)) μ ν out.1 out.2 := by
  unfold e_Station_advanceBy_0 at hF
  have g0 := zFr.rf (fun r => (b ≤ r ∧ r < b + 15)) (fun r => (b ≤ r ∧ r < b + 15)) μ ν
  exact zFr.tr g0 (g_Station_advanceBy_2  zFuel _ _ _ _ hF) (fun _ h => h) (fun _ h => h)
theorem fr_Station_advanceBy {b : Nat} {x1 : Int32} {μ : zI} {ν : zJ} {out : (zI × zJ)} (hE : E_Station_advanceBy b x1 μ ν = some out) : zFr (fun r => (b ≤ r ∧ r < b + 15)) (fun r => (b ≤ r ∧ r < b + 15)) μ ν out.1 out.2 := (g_Station_advanceBy_0 hE)
theorem g_S_ifTicks_18  {x1 : Int32} {x2 : Int32} {μ : zI} {ν : zJ} {out : (Int32 × zI × zJ)} (hF : e_S_ifTicks_18   x1 x2 μ ν = some out) : zFr (fun r => (19 ≤ r ∧ r < 19 + 15)) (fun r => (19 ≤ r ∧ r < 19 + 15)) μ ν out.2.1 out.2.2 := by
  unfold e_S_ifTicks_18 at hF
  have g0 := zFr.rf (fun r => (19 ≤ r ∧ r < 19 + 15)) (fun r => (19 ≤ r ∧ r < 19 + 15)) μ ν
  cases hF
  exact g0
theorem g_S_ifTicks_0  {x1 : Int32} {x2 : Int32} {μ : zI} {ν : zJ} {out : (Int32 × zI × zJ)} (hF : e_S_ifTicks_0   x1 x2 μ ν = some out) : zFr (fun r => (19 ≤ r ∧ r < 19 + 15)) (fun r => (19 ≤ r ∧ r < 19 + 15)) μ ν out.2.1 out.2.2 := by
  unfold e_S_ifTicks_0 at hF
  have g0 := zFr.rf (fun r => (19 ≤ r ∧ r < 19 + 15)) (fun r => (19 ≤ r ∧ r < 19 + 15)) μ ν
  obtain ⟨ty1, hty1, hF⟩ := zh_bind hF
  have gty1 := zFr.tr g0 (fr_S_mayTry hty1) (fun r h => by first | exact h | exact h.elim | omega | (revert h; dsimp only; omega)) (fun r h => by first | exact h | exact h.elim | omega | (revert h; dsimp only; omega))
  rcases Decidable.em (ty1.1 = 0) with cy2 | cy2
  · replace hF := zh_t cy2 hF
    exact zFr.tr gty1 (g_S_ifTicks_18  hF) (fun _ h => h) (fun _ h => h)
  · replace hF := zh_f cy2 hF
    obtain ⟨ty3, hty3, hF⟩ := zh_bind hF
    have gty3 := zFr.tr gty1 (fr_S_isWithin hty3) (fun r h => by first | exact h | exact h.elim | omega | (revert h; dsimp only; omega)) (fun r h => by first | exact h | exact h.elim | omega | (revert h; dsimp only; omega))
    rcases (Decidable.em (ty3.1 = 0)).symm with cy4 | cy4
    · replace hF := zh_f cy4 hF
      obtain ⟨ty5, hty5, hF⟩ := zh_bind hF
      have gty5 := zFr.tr gty3 (fr_S_beginTrial hty5) (fun r h => by first | exact h | exact h.elim | omega | (revert h; dsimp only; omega)) (fun r h => by first | exact h | exact h.elim | omega | (revert h; dsimp only; omega))
      obtain ⟨ty6, hty6, hF⟩ := zh_bind hF
      have gty6 := zFr.tr gty5 (fr_Station_advanceBy hty6) (fun r h => by first | exact h | exact h.elim | omega | (revert h; dsimp only; omega)) (fun r h => by first | exact h | exact h.elim | omega | (revert h; dsimp only; omega))
      by_cases cy7 : x2 = 0
      · replace hF := zh_t cy7 hF
        obtain ⟨ty14, hty14, hF⟩ := zh_bind hF
        have gty14 := zFr.tr gty6 (fr_Station_sumOf hty14) (fun r h => by first | exact h | exact h.elim | omega | (revert h; dsimp only; omega)) (fun r h => by first | exact h | exact h.elim | omega | (revert h; dsimp only; omega))
        cases hF
        exact gty14
      · replace hF := zh_f cy7 hF
        by_cases cy8 : x2 = 1
        · replace hF := zh_t cy8 hF
          obtain ⟨ty15, hty15, hF⟩ := zh_bind hF
          have gty15 := zFr.tr gty6 (fr_Station_sumOf hty15) (fun r h => by first | exact h | exact h.elim | omega | (revert h; dsimp only; omega)) (fun r h => by first | exact h | exact h.elim | omega | (revert h; dsimp only; omega))
          cases hF
          exact gty15
        · replace hF := zh_f cy8 hF
          by_cases cy9 : x2 = 2
          · replace hF := zh_t cy9 hF
            obtain ⟨ty16, hty16, hF⟩ := zh_bind hF
            have gty16 := zFr.tr gty6 (fr_Station_sumOf hty16) (fun r h => by first | exact h | exact h.elim | omega | (revert h; dsimp only; omega)) (fun r h => by first | exact h | exact h.elim | omega | (revert h; dsimp only; omega))
            cases hF
            exact gty16
          · replace hF := zh_f cy9 hF
            by_cases cy10 : x2 = 3
            · replace hF := zh_t cy10 hF
              obtain ⟨ty17, hty17, hF⟩ := zh_bind hF
              have gty17 := zFr.tr gty6 (fr_Station_sumOf hty17) (fun r h => by first | exact h | exact h.elim | omega | (revert h; dsimp only; omega)) (fun r h => by first | exact h | exact h.elim | omega | (revert h; dsimp only; omega))
              cases hF
              exact gty17
            · replace hF := zh_f cy10 hF
              by_cases cy11 : x2 = 4
              · replace hF := zh_t cy11 hF
                cases hF
                exact gty6
              · replace hF := zh_f cy11 hF
                by_cases cy12 : x2 = 5
                · replace hF := zh_t cy12 hF
                  cases hF
                  exact gty6
                · replace hF := zh_f cy12 hF
                  by_cases cy13 : x2 = 6
                  · replace hF := zh_t cy13 hF
                    obtain ⟨ty18, hty18, hF⟩ := zh_bind hF
                    have gty18 := zFr.tr gty6 (fr_Station_sumOf hty18) (fun r h => by first | exact h | exact h.elim | omega | (revert h; dsimp only; omega)) (fun r h => by first | exact h | exact h.elim | omega | (revert h; dsimp only; omega))
                    cases hF
                    exact gty18
                  · replace hF := zh_f cy13 hF
                    cases hF
                    exact gty6
    · replace hF := zh_t cy4 hF
      exact zFr.tr gty3 (g_S_ifTicks_18  hF) (fun _ h => h) (fun _ h => h)
theorem fr_S_ifTicks {x1 : Int32} {x2 : Int32} {μ : zI} {ν : zJ} {out : (Int32 × zI × zJ)} (hE : E_S_ifTicks x1 x2 μ ν = some out) : zFr (fun r => (19 ≤ r ∧ r < 19 + 15)) (fun r => (19 ≤ r ∧ r < 19 + 15)) μ ν out.2.1 out.2.2 := (g_S_ifTicks_0 hE)
theorem g_Station_holds_52 {b : Nat}  {x1 : Int32} {s0 : Int32} {μ : zI} {ν : zJ} {out : (Int32 × zI × zJ)} (hF : e_Station_holds_52 b  x1 s0 μ ν = some out) : zFr (fun _ => False) (fun _ => False) μ ν out.2.1 out.2.2 := by
  unfold e_Station_holds_52 at hF
  have g0 := zFr.rf (fun _ => False) (fun _ => False) μ ν
  obtain ⟨hy1, hF⟩ := zh_if hF
  cases hF
  exact g0
theorem g_Station_holds_76 {b : Nat}  {x1 : Int32} {s0 : Int32} {μ : zI} {ν : zJ} {out : (Int32 × zI × zJ)} (hF : e_Station_holds_76 b  x1 s0 μ ν = some out) : zFr (fun _ => False) (fun _ => False) μ ν out.2.1 out.2.2 := by
  unfold e_Station_holds_76 at hF
  have g0 := zFr.rf (fun _ => False) (fun _ => False) μ ν
  obtain ⟨hy1, hF⟩ := zh_if hF
  cases hF
  exact g0
theorem g_Station_holds_0 {b : Nat}  {x1 : Int32} {μ : zI} {ν : zJ} {out : (Int32 × zI × zJ)} (hF : e_Station_holds_0 b  x1 μ ν = some out) : zFr (fun _ => False) (fun _ => False) μ ν out.2.1 out.2.2 := by
  unfold e_Station_holds_0 at hF
  have g0 := zFr.rf (fun _ => False) (fun _ => False) μ ν
  by_cases cy1 : x1 = 0
  · replace hF := zh_t cy1 hF
    obtain ⟨hy3, hF⟩ := zh_if hF
    cases hF
    exact g0
  · replace hF := zh_f cy1 hF
    by_cases cy2 : x1 = 1
    · replace hF := zh_t cy2 hF
      rcases (Decidable.em ((μ (b + 12) 1) = 2)).symm with cy4 | cy4
      · replace hF := zh_f cy4 hF
        exact zFr.tr g0 (g_Station_holds_52  hF) (fun _ h => h) (fun _ h => h)
      · replace hF := zh_t cy4 hF
        exact zFr.tr g0 (g_Station_holds_52  hF) (fun _ h => h) (fun _ h => h)
    · replace hF := zh_f cy2 hF
      obtain ⟨ty5, hty5, hF⟩ := zh_bind hF
      have gty5 := zFr.tr g0 (fr_Told_get hty5) (fun r h => by first | exact h | exact h.elim | omega | (revert h; dsimp only; omega)) (fun r h => by first | exact h | exact h.elim | omega | (revert h; dsimp only; omega))
      rcases (Decidable.em ((μ (b + 12) 0) = ty5.1)).symm with cy6 | cy6
      · replace hF := zh_f cy6 hF
        exact zFr.tr gty5 (g_Station_holds_76  hF) (fun _ h => h) (fun _ h => h)
      · replace hF := zh_t cy6 hF
        exact zFr.tr gty5 (g_Station_holds_76  hF) (fun _ h => h) (fun _ h => h)
theorem fr_Station_holds {b : Nat} {x1 : Int32} {μ : zI} {ν : zJ} {out : (Int32 × zI × zJ)} (hE : E_Station_holds b x1 μ ν = some out) : zFr (fun _ => False) (fun _ => False) μ ν out.2.1 out.2.2 := (g_Station_holds_0 hE)
theorem g_S_firstTick_6  {out : (Int32 × zI × zJ)} : ∀ (n : Nat) (x1 : Int32) (x2 : Int32) (x3 : Int32) (μ : zI) (ν : zJ), f_S_firstTick_6   n x1 x2 x3 μ ν = some out → zFr (fun r => (19 ≤ r ∧ r < 19 + 15)) (fun r => (19 ≤ r ∧ r < 19 + 15)) μ ν out.2.1 out.2.2 := by
  intro n
  induction n with
  | zero => intro x1 x2 x3 μ ν hF; cases hF
  | succ n ih =>
    intro x1 x2 x3 μ ν hF
    dsimp only [f_S_firstTick_6] at hF
    have g0 := zFr.rf (fun r => (19 ≤ r ∧ r < 19 + 15)) (fun r => (19 ≤ r ∧ r < 19 + 15)) μ ν
    rcases Decidable.em (x1 < x3) with cy1 | cy1
    · replace hF := zh_t cy1 hF
      cases hF
      exact g0
    · replace hF := zh_f cy1 hF
      obtain ⟨ty2, hty2, hF⟩ := zh_bind hF
      have gty2 := zFr.tr g0 (fr_Station_advance hty2) (fun r h => by first | exact h | exact h.elim | omega | (revert h; dsimp only; omega)) (fun r h => by first | exact h | exact h.elim | omega | (revert h; dsimp only; omega))
      obtain ⟨ty3, hty3, hF⟩ := zh_bind hF
      have gty3 := zFr.tr gty2 (fr_Station_holds hty3) (fun r h => by first | exact h | exact h.elim | omega | (revert h; dsimp only; omega)) (fun r h => by first | exact h | exact h.elim | omega | (revert h; dsimp only; omega))
      rcases Decidable.em (ty3.1 = 0) with cy4 | cy4
      · replace hF := zh_t cy4 hF
        exact zFr.tr gty3 (ih _ _ _ _ _ hF) (fun _ h => h) (fun _ h => h)
      · replace hF := zh_f cy4 hF
        cases hF
        exact gty3
theorem g_S_firstTick_0  {x1 : Int32} {x2 : Int32} {μ : zI} {ν : zJ} {out : (Int32 × zI × zJ)} (hF : e_S_firstTick_0   x1 x2 μ ν = some out) : zFr (fun r => (19 ≤ r ∧ r < 19 + 15)) (fun r => (19 ≤ r ∧ r < 19 + 15)) μ ν out.2.1 out.2.2 := by
  unfold e_S_firstTick_0 at hF
  have g0 := zFr.rf (fun r => (19 ≤ r ∧ r < 19 + 15)) (fun r => (19 ≤ r ∧ r < 19 + 15)) μ ν
  obtain ⟨ty1, hty1, hF⟩ := zh_bind hF
  have gty1 := zFr.tr g0 (fr_S_beginTrial hty1) (fun r h => by first | exact h | exact h.elim | omega | (revert h; dsimp only; omega)) (fun r h => by first | exact h | exact h.elim | omega | (revert h; dsimp only; omega))
  exact zFr.tr gty1 (g_S_firstTick_6  zFuel _ _ _ _ _ hF) (fun _ h => h) (fun _ h => h)
theorem fr_S_firstTick {x1 : Int32} {x2 : Int32} {μ : zI} {ν : zJ} {out : (Int32 × zI × zJ)} (hE : E_S_firstTick x1 x2 μ ν = some out) : zFr (fun r => (19 ≤ r ∧ r < 19 + 15)) (fun r => (19 ≤ r ∧ r < 19 + 15)) μ ν out.2.1 out.2.2 := (g_S_firstTick_0 hE)
theorem g_S_firstSeen_18  {x1 : Int32} {s0 : Int32} {μ : zI} {ν : zJ} {out : (Int32 × zI × zJ)} (hF : e_S_firstSeen_18   x1 s0 μ ν = some out) : zFr (fun r => (19 ≤ r ∧ r < 19 + 15)) (fun r => (19 ≤ r ∧ r < 19 + 15)) μ ν out.2.1 out.2.2 := by
  unfold e_S_firstSeen_18 at hF
  have g0 := zFr.rf (fun r => (19 ≤ r ∧ r < 19 + 15)) (fun r => (19 ≤ r ∧ r < 19 + 15)) μ ν
  cases hF
  exact g0
theorem g_S_firstSeen_0  {x1 : Int32} {μ : zI} {ν : zJ} {out : (Int32 × zI × zJ)} (hF : e_S_firstSeen_0   x1 μ ν = some out) : zFr (fun r => (19 ≤ r ∧ r < 19 + 15)) (fun r => (19 ≤ r ∧ r < 19 + 15)) μ ν out.2.1 out.2.2 := by
  unfold e_S_firstSeen_0 at hF
  have g0 := zFr.rf (fun r => (19 ≤ r ∧ r < 19 + 15)) (fun r => (19 ≤ r ∧ r < 19 + 15)) μ ν
  obtain ⟨ty1, hty1, hF⟩ := zh_bind hF
  have gty1 := zFr.tr g0 (fr_S_mayTry hty1) (fun r h => by first | exact h | exact h.elim | omega | (revert h; dsimp only; omega)) (fun r h => by first | exact h | exact h.elim | omega | (revert h; dsimp only; omega))
  rcases Decidable.em (ty1.1 = 0) with cy2 | cy2
  · replace hF := zh_t cy2 hF
    exact zFr.tr gty1 (g_S_firstSeen_18  hF) (fun _ h => h) (fun _ h => h)
  · replace hF := zh_f cy2 hF
    obtain ⟨ty3, hty3, hF⟩ := zh_bind hF
    have gty3 := zFr.tr gty1 (fr_S_firstTick hty3) (fun r h => by first | exact h | exact h.elim | omega | (revert h; dsimp only; omega)) (fun r h => by first | exact h | exact h.elim | omega | (revert h; dsimp only; omega))
    exact zFr.tr gty3 (g_S_firstSeen_18  hF) (fun _ h => h) (fun _ h => h)
theorem fr_S_firstSeen {x1 : Int32} {μ : zI} {ν : zJ} {out : (Int32 × zI × zJ)} (hE : E_S_firstSeen x1 μ ν = some out) : zFr (fun r => (19 ≤ r ∧ r < 19 + 15)) (fun r => (19 ≤ r ∧ r < 19 + 15)) μ ν out.2.1 out.2.2 := (g_S_firstSeen_0 hE)
theorem g_S_firstFloat_18  {x1 : Int32} {s0 : Int32} {μ : zI} {ν : zJ} {out : (Int32 × zI × zJ)} (hF : e_S_firstFloat_18   x1 s0 μ ν = some out) : zFr (fun r => (19 ≤ r ∧ r < 19 + 15)) (fun r => (19 ≤ r ∧ r < 19 + 15)) μ ν out.2.1 out.2.2 := by
  unfold e_S_firstFloat_18 at hF
  have g0 := zFr.rf (fun r => (19 ≤ r ∧ r < 19 + 15)) (fun r => (19 ≤ r ∧ r < 19 + 15)) μ ν
  cases hF
  exact g0
theorem g_S_firstFloat_0  {x1 : Int32} {μ : zI} {ν : zJ} {out : (Int32 × zI × zJ)} (hF : e_S_firstFloat_0   x1 μ ν = some out) : zFr (fun r => (19 ≤ r ∧ r < 19 + 15)) (fun r => (19 ≤ r ∧ r < 19 + 15)) μ ν out.2.1 out.2.2 := by
  unfold e_S_firstFloat_0 at hF
  have g0 := zFr.rf (fun r => (19 ≤ r ∧ r < 19 + 15)) (fun r => (19 ≤ r ∧ r < 19 + 15)) μ ν
  obtain ⟨ty1, hty1, hF⟩ := zh_bind hF
  have gty1 := zFr.tr g0 (fr_S_mayTry hty1) (fun r h => by first | exact h | exact h.elim | omega | (revert h; dsimp only; omega)) (fun r h => by first | exact h | exact h.elim | omega | (revert h; dsimp only; omega))
  rcases Decidable.em (ty1.1 = 0) with cy2 | cy2
  · replace hF := zh_t cy2 hF
    exact zFr.tr gty1 (g_S_firstFloat_18  hF) (fun _ h => h) (fun _ h => h)
  · replace hF := zh_f cy2 hF
    obtain ⟨ty3, hty3, hF⟩ := zh_bind hF
    have gty3 := zFr.tr gty1 (fr_S_firstTick hty3) (fun r h => by first | exact h | exact h.elim | omega | (revert h; dsimp only; omega)) (fun r h => by first | exact h | exact h.elim | omega | (revert h; dsimp only; omega))
    exact zFr.tr gty3 (g_S_firstFloat_18  hF) (fun _ h => h) (fun _ h => h)
theorem fr_S_firstFloat {x1 : Int32} {μ : zI} {ν : zJ} {out : (Int32 × zI × zJ)} (hE : E_S_firstFloat x1 μ ν = some out) : zFr (fun r => (19 ≤ r ∧ r < 19 + 15)) (fun r => (19 ≤ r ∧ r < 19 + 15)) μ ν out.2.1 out.2.2 := (g_S_firstFloat_0 hE)
theorem g_Inverter_firstAlone_48 {b : Nat} {r15 : Int32 → Int32 → Int32 → Int32 → Int32 → Int32 → zI → zJ → Option (Int32 × zI × zJ)} {x1 : Int32} {x2 : Int32} {x3 : Int32} {x5 : Int32} {x6 : Int32} {x7 : Int32} {s0 : Int32} {μ : zI} {ν : zJ} {out : (Int32 × zI × zJ)} (hr15 : ∀ (x1 : Int32) (x2 : Int32) (x3 : Int32) (x5 : Int32) (x6 : Int32) (x7 : Int32) (μ : zI) (ν : zJ), r15 x1 x2 x3 x5 x6 x7 μ ν = some out → zFr (fun _ => False) (fun _ => False) μ ν out.2.1 out.2.2) (hF : e_Inverter_firstAlone_48 b r15 x1 x2 x3 x5 x6 x7 s0 μ ν = some out) : zFr (fun _ => False) (fun _ => False) μ ν out.2.1 out.2.2 := by
  unfold e_Inverter_firstAlone_48 at hF
  have g0 := zFr.rf (fun _ => False) (fun _ => False) μ ν
  obtain ⟨ty1, hty1, hF⟩ := zh_bind hF
  have gty1 := zFr.tr g0 (fr_Told_get hty1) (fun r h => by first | exact h | exact h.elim | omega | (revert h; dsimp only; omega)) (fun r h => by first | exact h | exact h.elim | omega | (revert h; dsimp only; omega))
  rcases Decidable.em (s0 < ty1.1) with cy2 | cy2
  · replace hF := zh_t cy2 hF
    exact zFr.tr gty1 (hr15 _ _ _ _ _ _ _ _ hF) (fun _ h => h) (fun _ h => h)
  · replace hF := zh_f cy2 hF
    cases hF
    exact gty1
theorem g_Inverter_firstAlone_15 {b : Nat}  {out : (Int32 × zI × zJ)} : ∀ (n : Nat) (x1 : Int32) (x2 : Int32) (x3 : Int32) (x5 : Int32) (x6 : Int32) (x7 : Int32) (μ : zI) (ν : zJ), f_Inverter_firstAlone_15 b  n x1 x2 x3 x5 x6 x7 μ ν = some out → zFr (fun _ => False) (fun _ => False) μ ν out.2.1 out.2.2 := by
  intro n
  induction n with
  | zero => intro x1 x2 x3 x5 x6 x7 μ ν hF; cases hF
  | succ n ih =>
    intro x1 x2 x3 x5 x6 x7 μ ν hF
    dsimp only [f_Inverter_firstAlone_15] at hF
    have g0 := zFr.rf (fun _ => False) (fun _ => False) μ ν
    rcases Decidable.em (x3 < x7) with cy1 | cy1
    · replace hF := zh_t cy1 hF
      cases hF
      exact g0
    · replace hF := zh_f cy1 hF
      obtain ⟨ty2, hty2, hF⟩ := zh_bind hF
      have gty2 := zFr.tr g0 (fr_Inverter_pushed hty2) (fun r h => by first | exact h | exact h.elim | omega | (revert h; dsimp only; omega)) (fun r h => by first | exact h | exact h.elim | omega | (revert h; dsimp only; omega))
      obtain ⟨y3, hy3, hF⟩ := zh_let hF
      obtain ⟨ty4, hty4, hF⟩ := zh_bind hF
      have gty4 := zFr.tr gty2 (fr_Inverter_isFar hty4) (fun r h => by first | exact h | exact h.elim | omega | (revert h; dsimp only; omega)) (fun r h => by first | exact h | exact h.elim | omega | (revert h; dsimp only; omega))
      rcases Decidable.em (ty4.1 = 0) with cy5 | cy5
      · replace hF := zh_t cy5 hF
        exact zFr.tr gty4 (g_Inverter_firstAlone_48 (fun a0 a1 a2 a3 a4 a5 a6 a7 => ih a0 a1 a2 a3 a4 a5 a6 a7) hF) (fun _ h => h) (fun _ h => h)
      · replace hF := zh_f cy5 hF
        exact zFr.tr gty4 (g_Inverter_firstAlone_48 (fun a0 a1 a2 a3 a4 a5 a6 a7 => ih a0 a1 a2 a3 a4 a5 a6 a7) hF) (fun _ h => h) (fun _ h => h)
theorem g_Inverter_firstAlone_0 {b : Nat}  {x1 : Int32} {x2 : Int32} {x3 : Int32} {μ : zI} {ν : zJ} {out : (Int32 × zI × zJ)} (hF : e_Inverter_firstAlone_0 b  x1 x2 x3 μ ν = some out) : zFr (fun _ => False) (fun _ => False) μ ν out.2.1 out.2.2 := by
  unfold e_Inverter_firstAlone_0 at hF
  have g0 := zFr.rf (fun _ => False) (fun _ => False) μ ν
  obtain ⟨y1, hy1, hF⟩ := zh_let hF
  obtain ⟨y2, hy2, hF⟩ := zh_let hF
  exact zFr.tr g0 (g_Inverter_firstAlone_15  zFuel _ _ _ _ _ _ _ _ hF) (fun _ h => h) (fun _ h => h)
theorem fr_Inverter_firstAlone {b : Nat} {x1 : Int32} {x2 : Int32} {x3 : Int32} {μ : zI} {ν : zJ} {out : (Int32 × zI × zJ)} (hE : E_Inverter_firstAlone b x1 x2 x3 μ ν = some out) : zFr (fun _ => False) (fun _ => False) μ ν out.2.1 out.2.2 := (g_Inverter_firstAlone_0 hE)
theorem g_S_leastPush_19  {out : (Int32 × zI × zJ)} : ∀ (n : Nat) (x1 : Int32) (x2 : Int32) (μ : zI) (ν : zJ), f_S_leastPush_19   n x1 x2 μ ν = some out → zFr (fun _ => False) (fun _ => False) μ ν out.2.1 out.2.2 := by
  intro n
  induction n with
  | zero => intro x1 x2 μ ν hF; cases hF
  | succ n ih =>
    intro x1 x2 μ ν hF
    dsimp only [f_S_leastPush_19] at hF
    have g0 := zFr.rf (fun _ => False) (fun _ => False) μ ν
    obtain ⟨ty1, hty1, hF⟩ := zh_bind hF
    have gty1 := zFr.tr g0 (fr_Told_mostOf hty1) (fun r h => by first | exact h | exact h.elim | omega | (revert h; dsimp only; omega)) (fun r h => by first | exact h | exact h.elim | omega | (revert h; dsimp only; omega))
    rcases Decidable.em (ty1.1 < x2) with cy2 | cy2
    · replace hF := zh_t cy2 hF
      cases hF
      exact gty1
    · replace hF := zh_f cy2 hF
      obtain ⟨ty3, hty3, hF⟩ := zh_bind hF
      have gty3 := zFr.tr gty1 (fr_Inverter_firstAlone hty3) (fun r h => by first | exact h | exact h.elim | omega | (revert h; dsimp only; omega)) (fun r h => by first | exact h | exact h.elim | omega | (revert h; dsimp only; omega))
      rcases Decidable.em (ty3.1 = (-2)) with cy4 | cy4
      · replace hF := zh_t cy4 hF
        exact zFr.tr gty3 (ih _ _ _ _ hF) (fun _ h => h) (fun _ h => h)
      · replace hF := zh_f cy4 hF
        cases hF
        exact gty3
theorem g_S_leastPush_0  {x1 : Int32} {μ : zI} {ν : zJ} {out : (Int32 × zI × zJ)} (hF : e_S_leastPush_0   x1 μ ν = some out) : zFr (fun _ => False) (fun _ => False) μ ν out.2.1 out.2.2 := by
  unfold e_S_leastPush_0 at hF
  have g0 := zFr.rf (fun _ => False) (fun _ => False) μ ν
  obtain ⟨ty1, hty1, hF⟩ := zh_bind hF
  have gty1 := zFr.tr g0 (fr_S_isWithin hty1) (fun r h => by first | exact h | exact h.elim | omega | (revert h; dsimp only; omega)) (fun r h => by first | exact h | exact h.elim | omega | (revert h; dsimp only; omega))
  rcases (Decidable.em (ty1.1 = 0)).symm with cy2 | cy2
  · replace hF := zh_f cy2 hF
    obtain ⟨ty3, hty3, hF⟩ := zh_bind hF
    have gty3 := zFr.tr gty1 (fr_Told_leastOf hty3) (fun r h => by first | exact h | exact h.elim | omega | (revert h; dsimp only; omega)) (fun r h => by first | exact h | exact h.elim | omega | (revert h; dsimp only; omega))
    obtain ⟨y4, hy4, hF⟩ := zh_let hF
    exact zFr.tr gty3 (g_S_leastPush_19  zFuel _ _ _ _ hF) (fun _ h => h) (fun _ h => h)
  · replace hF := zh_t cy2 hF
    cases hF
    exact gty1
theorem fr_S_leastPush {x1 : Int32} {μ : zI} {ν : zJ} {out : (Int32 × zI × zJ)} (hE : E_S_leastPush x1 μ ν = some out) : zFr (fun _ => False) (fun _ => False) μ ν out.2.1 out.2.2 := (g_S_leastPush_0 hE)
theorem g_S_bestStep_89 {r19 : Int32 → Int32 → Int64 → Int32 → zI → zJ → Option (Int32 × zI × zJ)} {x1 : Int32} {x2 : Int32} {w3 : Int64} {x5 : Int32} {μ : zI} {ν : zJ} {out : (Int32 × zI × zJ)} (hr19 : ∀ (x1 : Int32) (x2 : Int32) (w3 : Int64) (x5 : Int32) (μ : zI) (ν : zJ), r19 x1 x2 w3 x5 μ ν = some out → zFr (fun r => (19 ≤ r ∧ r < 19 + 15)) (fun r => (19 ≤ r ∧ r < 19 + 15)) μ ν out.2.1 out.2.2) (hF : e_S_bestStep_89  r19 x1 x2 w3 x5 μ ν = some out) : zFr (fun r => (19 ≤ r ∧ r < 19 + 15)) (fun r => (19 ≤ r ∧ r < 19 + 15)) μ ν out.2.1 out.2.2 := by
  unfold e_S_bestStep_89 at hF
  have g0 := zFr.rf (fun r => (19 ≤ r ∧ r < 19 + 15)) (fun r => (19 ≤ r ∧ r < 19 + 15)) μ ν
  obtain ⟨y1, hy1, hF⟩ := zh_let hF
  exact zFr.tr g0 (hr19 _ _ _ _ _ _ hF) (fun _ h => h) (fun _ h => h)
theorem g_S_bestStep_19  {out : (Int32 × zI × zJ)} : ∀ (n : Nat) (x1 : Int32) (x2 : Int32) (w3 : Int64) (x5 : Int32) (μ : zI) (ν : zJ), f_S_bestStep_19   n x1 x2 w3 x5 μ ν = some out → zFr (fun r => (19 ≤ r ∧ r < 19 + 15)) (fun r => (19 ≤ r ∧ r < 19 + 15)) μ ν out.2.1 out.2.2 := by
  intro n
  induction n with
  | zero => intro x1 x2 w3 x5 μ ν hF; cases hF
  | succ n ih =>
    intro x1 x2 w3 x5 μ ν hF
    dsimp only [f_S_bestStep_19] at hF
    have g0 := zFr.rf (fun r => (19 ≤ r ∧ r < 19 + 15)) (fun r => (19 ≤ r ∧ r < 19 + 15)) μ ν
    rcases Decidable.em (64 < x5) with cy1 | cy1
    · replace hF := zh_t cy1 hF
      cases hF
      exact g0
    · replace hF := zh_f cy1 hF
      obtain ⟨ty2, hty2, hF⟩ := zh_bind hF
      have gty2 := zFr.tr g0 (fr_S_beginTrial hty2) (fun r h => by first | exact h | exact h.elim | omega | (revert h; dsimp only; omega)) (fun r h => by first | exact h | exact h.elim | omega | (revert h; dsimp only; omega))
      obtain ⟨ty3, hty3, hF⟩ := zh_bind hF
      have gty3 := zFr.tr gty2 (fr_Told_put hty3) (fun r h => by first | exact h | exact h.elim | omega | (revert h; dsimp only; omega)) (fun r h => by first | exact h | exact h.elim | omega | (revert h; dsimp only; omega))
      obtain ⟨μy4, hy4, hF⟩ := zh_let hF
      have gy4 := zFr.put gty3 (r := (19 + 11)) (by first | omega | (dsimp only; omega)) hy4
      obtain ⟨ty5, hty5, hF⟩ := zh_bind hF
      have gty5 := zFr.tr gy4 (fr_Station_advanceBy hty5) (fun r h => by first | exact h | exact h.elim | omega | (revert h; dsimp only; omega)) (fun r h => by first | exact h | exact h.elim | omega | (revert h; dsimp only; omega))
      obtain ⟨ty6, hty6, hF⟩ := zh_bind hF
      have gty6 := zFr.tr gty5 (fr_Station_sumOf hty6) (fun r h => by first | exact h | exact h.elim | omega | (revert h; dsimp only; omega)) (fun r h => by first | exact h | exact h.elim | omega | (revert h; dsimp only; omega))
      rcases Decidable.em ((lg_cmp ty6.1 w3) ≤ 0) with cy7 | cy7
      · replace hF := zh_t cy7 hF
        exact zFr.tr gty6 (g_S_bestStep_89 (fun a0 a1 a2 a3 a4 a5 => ih a0 a1 a2 a3 a4 a5) hF) (fun _ h => h) (fun _ h => h)
      · replace hF := zh_f cy7 hF
        obtain ⟨ty8, hty8, hF⟩ := zh_bind hF
        have gty8 := zFr.tr gty6 (fr_Station_sumOf hty8) (fun r h => by first | exact h | exact h.elim | omega | (revert h; dsimp only; omega)) (fun r h => by first | exact h | exact h.elim | omega | (revert h; dsimp only; omega))
        obtain ⟨y9, hy9, hF⟩ := zh_let hF
        exact zFr.tr gty8 (g_S_bestStep_89 (fun a0 a1 a2 a3 a4 a5 => ih a0 a1 a2 a3 a4 a5) hF) (fun _ h => h) (fun _ h => h)
theorem g_S_bestStep_0  {x1 : Int32} {μ : zI} {ν : zJ} {out : (Int32 × zI × zJ)} (hF : e_S_bestStep_0   x1 μ ν = some out) : zFr (fun r => (19 ≤ r ∧ r < 19 + 15)) (fun r => (19 ≤ r ∧ r < 19 + 15)) μ ν out.2.1 out.2.2 := by
  unfold e_S_bestStep_0 at hF
  have g0 := zFr.rf (fun r => (19 ≤ r ∧ r < 19 + 15)) (fun r => (19 ≤ r ∧ r < 19 + 15)) μ ν
  obtain ⟨ty1, hty1, hF⟩ := zh_bind hF
  have gty1 := zFr.tr g0 (fr_S_mayTry hty1) (fun r h => by first | exact h | exact h.elim | omega | (revert h; dsimp only; omega)) (fun r h => by first | exact h | exact h.elim | omega | (revert h; dsimp only; omega))
  rcases (Decidable.em (ty1.1 = 0)).symm with cy2 | cy2
  · replace hF := zh_f cy2 hF
    exact zFr.tr gty1 (g_S_bestStep_19  zFuel _ _ _ _ _ _ hF) (fun _ h => h) (fun _ h => h)
  · replace hF := zh_t cy2 hF
    cases hF
    exact gty1
theorem fr_S_bestStep {x1 : Int32} {μ : zI} {ν : zJ} {out : (Int32 × zI × zJ)} (hE : E_S_bestStep x1 μ ν = some out) : zFr (fun r => (19 ≤ r ∧ r < 19 + 15)) (fun r => (19 ≤ r ∧ r < 19 + 15)) μ ν out.2.1 out.2.2 := (g_S_bestStep_0 hE)
theorem g_S_bestWay_84 {r23 : Int32 → Int32 → Int64 → Int32 → zI → zJ → Option (Int32 × zI × zJ)} {x1 : Int32} {x2 : Int32} {w3 : Int64} {x5 : Int32} {μ : zI} {ν : zJ} {out : (Int32 × zI × zJ)} (hr23 : ∀ (x1 : Int32) (x2 : Int32) (w3 : Int64) (x5 : Int32) (μ : zI) (ν : zJ), r23 x1 x2 w3 x5 μ ν = some out → zFr (fun r => (19 ≤ r ∧ r < 19 + 15)) (fun r => (19 ≤ r ∧ r < 19 + 15)) μ ν out.2.1 out.2.2) (hF : e_S_bestWay_84  r23 x1 x2 w3 x5 μ ν = some out) : zFr (fun r => (19 ≤ r ∧ r < 19 + 15)) (fun r => (19 ≤ r ∧ r < 19 + 15)) μ ν out.2.1 out.2.2 := by
  unfold e_S_bestWay_84 at hF
  have g0 := zFr.rf (fun r => (19 ≤ r ∧ r < 19 + 15)) (fun r => (19 ≤ r ∧ r < 19 + 15)) μ ν
  exact zFr.tr g0 (hr23 _ _ _ _ _ _ hF) (fun _ h => h) (fun _ h => h)
theorem g_S_bestWay_23  {out : (Int32 × zI × zJ)} : ∀ (n : Nat) (x1 : Int32) (x2 : Int32) (w3 : Int64) (x5 : Int32) (μ : zI) (ν : zJ), f_S_bestWay_23   n x1 x2 w3 x5 μ ν = some out → zFr (fun r => (19 ≤ r ∧ r < 19 + 15)) (fun r => (19 ≤ r ∧ r < 19 + 15)) μ ν out.2.1 out.2.2 := by
  intro n
  induction n with
  | zero => intro x1 x2 w3 x5 μ ν hF; cases hF
  | succ n ih =>
    intro x1 x2 w3 x5 μ ν hF
    dsimp only [f_S_bestWay_23] at hF
    have g0 := zFr.rf (fun r => (19 ≤ r ∧ r < 19 + 15)) (fun r => (19 ≤ r ∧ r < 19 + 15)) μ ν
    obtain ⟨ty1, hty1, hF⟩ := zh_bind hF
    have gty1 := zFr.tr g0 (fr_Told_mostOf hty1) (fun r h => by first | exact h | exact h.elim | omega | (revert h; dsimp only; omega)) (fun r h => by first | exact h | exact h.elim | omega | (revert h; dsimp only; omega))
    rcases Decidable.em (ty1.1 < x5) with cy2 | cy2
    · replace hF := zh_t cy2 hF
      cases hF
      exact gty1
    · replace hF := zh_f cy2 hF
      obtain ⟨ty3, hty3, hF⟩ := zh_bind hF
      have gty3 := zFr.tr gty1 (fr_S_beginTrial hty3) (fun r h => by first | exact h | exact h.elim | omega | (revert h; dsimp only; omega)) (fun r h => by first | exact h | exact h.elim | omega | (revert h; dsimp only; omega))
      obtain ⟨ty4, hty4, hF⟩ := zh_bind hF
      have gty4 := zFr.tr gty3 (fr_Told_put hty4) (fun r h => by first | exact h | exact h.elim | omega | (revert h; dsimp only; omega)) (fun r h => by first | exact h | exact h.elim | omega | (revert h; dsimp only; omega))
      obtain ⟨ty5, hty5, hF⟩ := zh_bind hF
      have gty5 := zFr.tr gty4 (fr_Station_advanceBy hty5) (fun r h => by first | exact h | exact h.elim | omega | (revert h; dsimp only; omega)) (fun r h => by first | exact h | exact h.elim | omega | (revert h; dsimp only; omega))
      obtain ⟨ty6, hty6, hF⟩ := zh_bind hF
      have gty6 := zFr.tr gty5 (fr_Station_sumOf hty6) (fun r h => by first | exact h | exact h.elim | omega | (revert h; dsimp only; omega)) (fun r h => by first | exact h | exact h.elim | omega | (revert h; dsimp only; omega))
      rcases Decidable.em ((lg_cmp ty6.1 w3) ≤ 0) with cy7 | cy7
      · replace hF := zh_t cy7 hF
        exact zFr.tr gty6 (g_S_bestWay_84 (fun a0 a1 a2 a3 a4 a5 => ih a0 a1 a2 a3 a4 a5) hF) (fun _ h => h) (fun _ h => h)
      · replace hF := zh_f cy7 hF
        obtain ⟨ty8, hty8, hF⟩ := zh_bind hF
        have gty8 := zFr.tr gty6 (fr_Station_sumOf hty8) (fun r h => by first | exact h | exact h.elim | omega | (revert h; dsimp only; omega)) (fun r h => by first | exact h | exact h.elim | omega | (revert h; dsimp only; omega))
        obtain ⟨y9, hy9, hF⟩ := zh_let hF
        exact zFr.tr gty8 (g_S_bestWay_84 (fun a0 a1 a2 a3 a4 a5 => ih a0 a1 a2 a3 a4 a5) hF) (fun _ h => h) (fun _ h => h)
theorem g_S_bestWay_0  {x1 : Int32} {μ : zI} {ν : zJ} {out : (Int32 × zI × zJ)} (hF : e_S_bestWay_0   x1 μ ν = some out) : zFr (fun r => (19 ≤ r ∧ r < 19 + 15)) (fun r => (19 ≤ r ∧ r < 19 + 15)) μ ν out.2.1 out.2.2 := by
  unfold e_S_bestWay_0 at hF
  have g0 := zFr.rf (fun r => (19 ≤ r ∧ r < 19 + 15)) (fun r => (19 ≤ r ∧ r < 19 + 15)) μ ν
  obtain ⟨ty1, hty1, hF⟩ := zh_bind hF
  have gty1 := zFr.tr g0 (fr_S_mayTry hty1) (fun r h => by first | exact h | exact h.elim | omega | (revert h; dsimp only; omega)) (fun r h => by first | exact h | exact h.elim | omega | (revert h; dsimp only; omega))
  rcases (Decidable.em (ty1.1 = 0)).symm with cy2 | cy2
  · replace hF := zh_f cy2 hF
    obtain ⟨ty3, hty3, hF⟩ := zh_bind hF
    have gty3 := zFr.tr gty1 (fr_Told_leastOf hty3) (fun r h => by first | exact h | exact h.elim | omega | (revert h; dsimp only; omega)) (fun r h => by first | exact h | exact h.elim | omega | (revert h; dsimp only; omega))
    obtain ⟨y4, hy4, hF⟩ := zh_let hF
    exact zFr.tr gty3 (g_S_bestWay_23  zFuel _ _ _ _ _ _ hF) (fun _ h => h) (fun _ h => h)
  · replace hF := zh_t cy2 hF
    cases hF
    exact gty1
theorem fr_S_bestWay {x1 : Int32} {μ : zI} {ν : zJ} {out : (Int32 × zI × zJ)} (hE : E_S_bestWay x1 μ ν = some out) : zFr (fun r => (19 ≤ r ∧ r < 19 + 15)) (fun r => (19 ≤ r ∧ r < 19 + 15)) μ ν out.2.1 out.2.2 := (g_S_bestWay_0 hE)
theorem g_S_bestShare_63 {r20 : Int32 → Int32 → Int32 → zI → zJ → Option (Int32 × zI × zJ)} {x1 : Int32} {x2 : Int32} {x3 : Int32} {x4 : Int32} {μ : zI} {ν : zJ} {out : (Int32 × zI × zJ)} (hr20 : ∀ (x1 : Int32) (x2 : Int32) (x3 : Int32) (μ : zI) (ν : zJ), r20 x1 x2 x3 μ ν = some out → zFr (fun _ => False) (fun _ => False) μ ν out.2.1 out.2.2) (hF : e_S_bestShare_63  r20 x1 x2 x3 x4 μ ν = some out) : zFr (fun _ => False) (fun _ => False) μ ν out.2.1 out.2.2 := by
  unfold e_S_bestShare_63 at hF
  have g0 := zFr.rf (fun _ => False) (fun _ => False) μ ν
  exact zFr.tr g0 (hr20 _ _ _ _ _ hF) (fun _ h => h) (fun _ h => h)
theorem g_S_bestShare_20  {out : (Int32 × zI × zJ)} : ∀ (n : Nat) (x1 : Int32) (x2 : Int32) (x3 : Int32) (μ : zI) (ν : zJ), f_S_bestShare_20   n x1 x2 x3 μ ν = some out → zFr (fun _ => False) (fun _ => False) μ ν out.2.1 out.2.2 := by
  intro n
  induction n with
  | zero => intro x1 x2 x3 μ ν hF; cases hF
  | succ n ih =>
    intro x1 x2 x3 μ ν hF
    dsimp only [f_S_bestShare_20] at hF
    have g0 := zFr.rf (fun _ => False) (fun _ => False) μ ν
    obtain ⟨ty1, hty1, hF⟩ := zh_bind hF
    have gty1 := zFr.tr g0 (fr_Told_mostOf hty1) (fun r h => by first | exact h | exact h.elim | omega | (revert h; dsimp only; omega)) (fun r h => by first | exact h | exact h.elim | omega | (revert h; dsimp only; omega))
    rcases Decidable.em (ty1.1 < x3) with cy2 | cy2
    · replace hF := zh_t cy2 hF
      cases hF
      exact gty1
    · replace hF := zh_f cy2 hF
      obtain ⟨ty3, hty3, hF⟩ := zh_bind hF
      have gty3 := zFr.tr gty1 (fr_Panel_pointOfShare hty3) (fun r h => by first | exact h | exact h.elim | omega | (revert h; dsimp only; omega)) (fun r h => by first | exact h | exact h.elim | omega | (revert h; dsimp only; omega))
      obtain ⟨ty4, hty4, hF⟩ := zh_bind hF
      have gty4 := zFr.tr gty3 (fr_Panel_powerAt hty4) (fun r h => by first | exact h | exact h.elim | omega | (revert h; dsimp only; omega)) (fun r h => by first | exact h | exact h.elim | omega | (revert h; dsimp only; omega))
      obtain ⟨y5, hy5, hF⟩ := zh_let hF
      rcases Decidable.em (y5 ≤ x2) with cy6 | cy6
      · replace hF := zh_t cy6 hF
        exact zFr.tr gty4 (g_S_bestShare_63 (fun a0 a1 a2 a3 a4 => ih a0 a1 a2 a3 a4) hF) (fun _ h => h) (fun _ h => h)
      · replace hF := zh_f cy6 hF
        exact zFr.tr gty4 (g_S_bestShare_63 (fun a0 a1 a2 a3 a4 => ih a0 a1 a2 a3 a4) hF) (fun _ h => h) (fun _ h => h)
theorem g_S_bestShare_0   {μ : zI} {ν : zJ} {out : (Int32 × zI × zJ)} (hF : e_S_bestShare_0    μ ν = some out) : zFr (fun _ => False) (fun _ => False) μ ν out.2.1 out.2.2 := by
  unfold e_S_bestShare_0 at hF
  have g0 := zFr.rf (fun _ => False) (fun _ => False) μ ν
  obtain ⟨ty1, hty1, hF⟩ := zh_bind hF
  have gty1 := zFr.tr g0 (fr_S_hasModules hty1) (fun r h => by first | exact h | exact h.elim | omega | (revert h; dsimp only; omega)) (fun r h => by first | exact h | exact h.elim | omega | (revert h; dsimp only; omega))
  rcases (Decidable.em (ty1.1 = 0)).symm with cy2 | cy2
  · replace hF := zh_f cy2 hF
    obtain ⟨ty3, hty3, hF⟩ := zh_bind hF
    have gty3 := zFr.tr gty1 (fr_Told_leastOf hty3) (fun r h => by first | exact h | exact h.elim | omega | (revert h; dsimp only; omega)) (fun r h => by first | exact h | exact h.elim | omega | (revert h; dsimp only; omega))
    obtain ⟨y4, hy4, hF⟩ := zh_let hF
    exact zFr.tr gty3 (g_S_bestShare_20  zFuel _ _ _ _ _ hF) (fun _ h => h) (fun _ h => h)
  · replace hF := zh_t cy2 hF
    cases hF
    exact gty1
theorem fr_S_bestShare {μ : zI} {ν : zJ} {out : (Int32 × zI × zJ)} (hE : E_S_bestShare  μ ν = some out) : zFr (fun _ => False) (fun _ => False) μ ν out.2.1 out.2.2 := (g_S_bestShare_0 hE)
theorem g_S_slope_16  {x1 : Int32} {μ : zI} {ν : zJ} {out : (Int32 × zI × zJ)} (hF : e_S_slope_16   x1 μ ν = some out) : zFr (fun _ => False) (fun _ => False) μ ν out.2.1 out.2.2 := by
  unfold e_S_slope_16 at hF
  have g0 := zFr.rf (fun _ => False) (fun _ => False) μ ν
  cases hF
  exact g0
theorem g_S_slope_0  {x1 : Int32} {μ : zI} {ν : zJ} {out : (Int32 × zI × zJ)} (hF : e_S_slope_0   x1 μ ν = some out) : zFr (fun _ => False) (fun _ => False) μ ν out.2.1 out.2.2 := by
  unfold e_S_slope_0 at hF
  have g0 := zFr.rf (fun _ => False) (fun _ => False) μ ν
  obtain ⟨ty1, hty1, hF⟩ := zh_bind hF
  have gty1 := zFr.tr g0 (fr_Panel_isPoint hty1) (fun r h => by first | exact h | exact h.elim | omega | (revert h; dsimp only; omega)) (fun r h => by first | exact h | exact h.elim | omega | (revert h; dsimp only; omega))
  rcases Decidable.em (ty1.1 = 0) with cy2 | cy2
  · replace hF := zh_t cy2 hF
    exact zFr.tr gty1 (g_S_slope_16  hF) (fun _ h => h) (fun _ h => h)
  · replace hF := zh_f cy2 hF
    obtain ⟨ty3, hty3, hF⟩ := zh_bind hF
    have gty3 := zFr.tr gty1 (fr_Panel_isPoint hty3) (fun r h => by first | exact h | exact h.elim | omega | (revert h; dsimp only; omega)) (fun r h => by first | exact h | exact h.elim | omega | (revert h; dsimp only; omega))
    rcases (Decidable.em (ty3.1 = 0)).symm with cy4 | cy4
    · replace hF := zh_f cy4 hF
      obtain ⟨ty5, hty5, hF⟩ := zh_bind hF
      have gty5 := zFr.tr gty3 (fr_Panel_powerAt hty5) (fun r h => by first | exact h | exact h.elim | omega | (revert h; dsimp only; omega)) (fun r h => by first | exact h | exact h.elim | omega | (revert h; dsimp only; omega))
      obtain ⟨ty6, hty6, hF⟩ := zh_bind hF
      have gty6 := zFr.tr gty5 (fr_Panel_powerAt hty6) (fun r h => by first | exact h | exact h.elim | omega | (revert h; dsimp only; omega)) (fun r h => by first | exact h | exact h.elim | omega | (revert h; dsimp only; omega))
      cases hF
      exact gty6
    · replace hF := zh_t cy4 hF
      exact zFr.tr gty3 (g_S_slope_16  hF) (fun _ h => h) (fun _ h => h)
theorem fr_S_slope {x1 : Int32} {μ : zI} {ν : zJ} {out : (Int32 × zI × zJ)} (hE : E_S_slope x1 μ ν = some out) : zFr (fun _ => False) (fun _ => False) μ ν out.2.1 out.2.2 := (g_S_slope_0 hE)
theorem g_S_firstFull_18  {x1 : Int32} {s0 : Int32} {μ : zI} {ν : zJ} {out : (Int32 × zI × zJ)} (hF : e_S_firstFull_18   x1 s0 μ ν = some out) : zFr (fun r => (19 ≤ r ∧ r < 19 + 15)) (fun r => (19 ≤ r ∧ r < 19 + 15)) μ ν out.2.1 out.2.2 := by
  unfold e_S_firstFull_18 at hF
  have g0 := zFr.rf (fun r => (19 ≤ r ∧ r < 19 + 15)) (fun r => (19 ≤ r ∧ r < 19 + 15)) μ ν
  cases hF
  exact g0
theorem g_S_firstFull_0  {x1 : Int32} {μ : zI} {ν : zJ} {out : (Int32 × zI × zJ)} (hF : e_S_firstFull_0   x1 μ ν = some out) : zFr (fun r => (19 ≤ r ∧ r < 19 + 15)) (fun r => (19 ≤ r ∧ r < 19 + 15)) μ ν out.2.1 out.2.2 := by
  unfold e_S_firstFull_0 at hF
  have g0 := zFr.rf (fun r => (19 ≤ r ∧ r < 19 + 15)) (fun r => (19 ≤ r ∧ r < 19 + 15)) μ ν
  obtain ⟨ty1, hty1, hF⟩ := zh_bind hF
  have gty1 := zFr.tr g0 (fr_S_mayTry hty1) (fun r h => by first | exact h | exact h.elim | omega | (revert h; dsimp only; omega)) (fun r h => by first | exact h | exact h.elim | omega | (revert h; dsimp only; omega))
  rcases Decidable.em (ty1.1 = 0) with cy2 | cy2
  · replace hF := zh_t cy2 hF
    exact zFr.tr gty1 (g_S_firstFull_18  hF) (fun _ h => h) (fun _ h => h)
  · replace hF := zh_f cy2 hF
    obtain ⟨ty3, hty3, hF⟩ := zh_bind hF
    have gty3 := zFr.tr gty1 (fr_S_firstTick hty3) (fun r h => by first | exact h | exact h.elim | omega | (revert h; dsimp only; omega)) (fun r h => by first | exact h | exact h.elim | omega | (revert h; dsimp only; omega))
    exact zFr.tr gty3 (g_S_firstFull_18  hF) (fun _ h => h) (fun _ h => h)
theorem fr_S_firstFull {x1 : Int32} {μ : zI} {ν : zJ} {out : (Int32 × zI × zJ)} (hE : E_S_firstFull x1 μ ν = some out) : zFr (fun r => (19 ≤ r ∧ r < 19 + 15)) (fun r => (19 ≤ r ∧ r < 19 + 15)) μ ν out.2.1 out.2.2 := (g_S_firstFull_0 hE)
theorem g_S_seenBy_22  {x1 : Int32} {x2 : Int32} {μ : zI} {ν : zJ} {out : (Int32 × zI × zJ)} (hF : e_S_seenBy_22   x1 x2 μ ν = some out) : zFr (fun _ => False) (fun _ => False) μ ν out.2.1 out.2.2 := by
  unfold e_S_seenBy_22 at hF
  have g0 := zFr.rf (fun _ => False) (fun _ => False) μ ν
  cases hF
  exact g0
theorem g_S_seenBy_0  {x1 : Int32} {x2 : Int32} {μ : zI} {ν : zJ} {out : (Int32 × zI × zJ)} (hF : e_S_seenBy_0   x1 x2 μ ν = some out) : zFr (fun _ => False) (fun _ => False) μ ν out.2.1 out.2.2 := by
  unfold e_S_seenBy_0 at hF
  have g0 := zFr.rf (fun _ => False) (fun _ => False) μ ν
  obtain ⟨ty1, hty1, hF⟩ := zh_bind hF
  have gty1 := zFr.tr g0 (fr_S_isWithin hty1) (fun r h => by first | exact h | exact h.elim | omega | (revert h; dsimp only; omega)) (fun r h => by first | exact h | exact h.elim | omega | (revert h; dsimp only; omega))
  rcases Decidable.em (ty1.1 = 0) with cy2 | cy2
  · replace hF := zh_t cy2 hF
    exact zFr.tr gty1 (g_S_seenBy_22  hF) (fun _ h => h) (fun _ h => h)
  · replace hF := zh_f cy2 hF
    obtain ⟨ty3, hty3, hF⟩ := zh_bind hF
    have gty3 := zFr.tr gty1 (fr_S_isWithin hty3) (fun r h => by first | exact h | exact h.elim | omega | (revert h; dsimp only; omega)) (fun r h => by first | exact h | exact h.elim | omega | (revert h; dsimp only; omega))
    rcases (Decidable.em (ty3.1 = 0)).symm with cy4 | cy4
    · replace hF := zh_f cy4 hF
      obtain ⟨ty5, hty5, hF⟩ := zh_bind hF
      have gty5 := zFr.tr gty3 (fr_Told_get hty5) (fun r h => by first | exact h | exact h.elim | omega | (revert h; dsimp only; omega)) (fun r h => by first | exact h | exact h.elim | omega | (revert h; dsimp only; omega))
      obtain ⟨ty6, hty6, hF⟩ := zh_bind hF
      have gty6 := zFr.tr gty5 (fr_Inverter_firstAlone hty6) (fun r h => by first | exact h | exact h.elim | omega | (revert h; dsimp only; omega)) (fun r h => by first | exact h | exact h.elim | omega | (revert h; dsimp only; omega))
      cases hF
      exact gty6
    · replace hF := zh_t cy4 hF
      exact zFr.tr gty3 (g_S_seenBy_22  hF) (fun _ h => h) (fun _ h => h)
theorem fr_S_seenBy {x1 : Int32} {x2 : Int32} {μ : zI} {ν : zJ} {out : (Int32 × zI × zJ)} (hE : E_S_seenBy x1 x2 μ ν = some out) : zFr (fun _ => False) (fun _ => False) μ ν out.2.1 out.2.2 := (g_S_seenBy_0 hE)
theorem g_S_blind_63 {r18 : Int32 → Int32 → Int32 → zI → zJ → Option (Int32 × zI × zJ)} {x1 : Int32} {x2 : Int32} {x3 : Int32} {μ : zI} {ν : zJ} {out : (Int32 × zI × zJ)} (hr18 : ∀ (x1 : Int32) (x2 : Int32) (x3 : Int32) (μ : zI) (ν : zJ), r18 x1 x2 x3 μ ν = some out → zFr (fun _ => False) (fun _ => False) μ ν out.2.1 out.2.2) (hF : e_S_blind_63  r18 x1 x2 x3 μ ν = some out) : zFr (fun _ => False) (fun _ => False) μ ν out.2.1 out.2.2 := by
  unfold e_S_blind_63 at hF
  have g0 := zFr.rf (fun _ => False) (fun _ => False) μ ν
  exact zFr.tr g0 (hr18 _ _ _ _ _ hF) (fun _ h => h) (fun _ h => h)
theorem g_S_blind_18  {out : (Int32 × zI × zJ)} : ∀ (n : Nat) (x1 : Int32) (x2 : Int32) (x3 : Int32) (μ : zI) (ν : zJ), f_S_blind_18   n x1 x2 x3 μ ν = some out → zFr (fun _ => False) (fun _ => False) μ ν out.2.1 out.2.2 := by
  intro n
  induction n with
  | zero => intro x1 x2 x3 μ ν hF; cases hF
  | succ n ih =>
    intro x1 x2 x3 μ ν hF
    dsimp only [f_S_blind_18] at hF
    have g0 := zFr.rf (fun _ => False) (fun _ => False) μ ν
    rcases Decidable.em (55000 < x3) with cy1 | cy1
    · replace hF := zh_t cy1 hF
      cases hF
      exact g0
    · replace hF := zh_f cy1 hF
      obtain ⟨ty2, hty2, hF⟩ := zh_bind hF
      have gty2 := zFr.tr g0 (fr_Told_get hty2) (fun r h => by first | exact h | exact h.elim | omega | (revert h; dsimp only; omega)) (fun r h => by first | exact h | exact h.elim | omega | (revert h; dsimp only; omega))
      obtain ⟨ty3, hty3, hF⟩ := zh_bind hF
      have gty3 := zFr.tr gty2 (fr_Inverter_firstAlone hty3) (fun r h => by first | exact h | exact h.elim | omega | (revert h; dsimp only; omega)) (fun r h => by first | exact h | exact h.elim | omega | (revert h; dsimp only; omega))
      rcases (Decidable.em (ty3.1 = (-2))).symm with cy4 | cy4
      · replace hF := zh_f cy4 hF
        exact zFr.tr gty3 (g_S_blind_63 (fun a0 a1 a2 a3 a4 => ih a0 a1 a2 a3 a4) hF) (fun _ h => h) (fun _ h => h)
      · replace hF := zh_t cy4 hF
        exact zFr.tr gty3 (g_S_blind_63 (fun a0 a1 a2 a3 a4 => ih a0 a1 a2 a3 a4) hF) (fun _ h => h) (fun _ h => h)
theorem g_S_blind_0  {x1 : Int32} {μ : zI} {ν : zJ} {out : (Int32 × zI × zJ)} (hF : e_S_blind_0   x1 μ ν = some out) : zFr (fun _ => False) (fun _ => False) μ ν out.2.1 out.2.2 := by
  unfold e_S_blind_0 at hF
  have g0 := zFr.rf (fun _ => False) (fun _ => False) μ ν
  obtain ⟨ty1, hty1, hF⟩ := zh_bind hF
  have gty1 := zFr.tr g0 (fr_S_isWithin hty1) (fun r h => by first | exact h | exact h.elim | omega | (revert h; dsimp only; omega)) (fun r h => by first | exact h | exact h.elim | omega | (revert h; dsimp only; omega))
  rcases (Decidable.em (ty1.1 = 0)).symm with cy2 | cy2
  · replace hF := zh_f cy2 hF
    exact zFr.tr gty1 (g_S_blind_18  zFuel _ _ _ _ _ hF) (fun _ h => h) (fun _ h => h)
  · replace hF := zh_t cy2 hF
    cases hF
    exact gty1
theorem fr_S_blind {x1 : Int32} {μ : zI} {ν : zJ} {out : (Int32 × zI × zJ)} (hE : E_S_blind x1 μ ν = some out) : zFr (fun _ => False) (fun _ => False) μ ν out.2.1 out.2.2 := (g_S_blind_0 hE)
theorem g_S_bestGap_94 {r23 : Int32 → Int32 → Int64 → Int32 → zI → zJ → Option (Int32 × zI × zJ)} {x1 : Int32} {x2 : Int32} {w3 : Int64} {x5 : Int32} {μ : zI} {ν : zJ} {out : (Int32 × zI × zJ)} (hr23 : ∀ (x1 : Int32) (x2 : Int32) (w3 : Int64) (x5 : Int32) (μ : zI) (ν : zJ), r23 x1 x2 w3 x5 μ ν = some out → zFr (fun r => (19 ≤ r ∧ r < 19 + 15)) (fun r => (19 ≤ r ∧ r < 19 + 15)) μ ν out.2.1 out.2.2) (hF : e_S_bestGap_94  r23 x1 x2 w3 x5 μ ν = some out) : zFr (fun r => (19 ≤ r ∧ r < 19 + 15)) (fun r => (19 ≤ r ∧ r < 19 + 15)) μ ν out.2.1 out.2.2 := by
  unfold e_S_bestGap_94 at hF
  have g0 := zFr.rf (fun r => (19 ≤ r ∧ r < 19 + 15)) (fun r => (19 ≤ r ∧ r < 19 + 15)) μ ν
  exact zFr.tr g0 (hr23 _ _ _ _ _ _ hF) (fun _ h => h) (fun _ h => h)
theorem g_S_bestGap_23  {out : (Int32 × zI × zJ)} : ∀ (n : Nat) (x1 : Int32) (x2 : Int32) (w3 : Int64) (x5 : Int32) (μ : zI) (ν : zJ), f_S_bestGap_23   n x1 x2 w3 x5 μ ν = some out → zFr (fun r => (19 ≤ r ∧ r < 19 + 15)) (fun r => (19 ≤ r ∧ r < 19 + 15)) μ ν out.2.1 out.2.2 := by
  intro n
  induction n with
  | zero => intro x1 x2 w3 x5 μ ν hF; cases hF
  | succ n ih =>
    intro x1 x2 w3 x5 μ ν hF
    dsimp only [f_S_bestGap_23] at hF
    have g0 := zFr.rf (fun r => (19 ≤ r ∧ r < 19 + 15)) (fun r => (19 ≤ r ∧ r < 19 + 15)) μ ν
    obtain ⟨ty1, hty1, hF⟩ := zh_bind hF
    have gty1 := zFr.tr g0 (fr_Told_mostOf hty1) (fun r h => by first | exact h | exact h.elim | omega | (revert h; dsimp only; omega)) (fun r h => by first | exact h | exact h.elim | omega | (revert h; dsimp only; omega))
    rcases Decidable.em (ty1.1 < x5) with cy2 | cy2
    · replace hF := zh_t cy2 hF
      cases hF
      exact gty1
    · replace hF := zh_f cy2 hF
      obtain ⟨ty3, hty3, hF⟩ := zh_bind hF
      have gty3 := zFr.tr gty1 (fr_S_beginTrial hty3) (fun r h => by first | exact h | exact h.elim | omega | (revert h; dsimp only; omega)) (fun r h => by first | exact h | exact h.elim | omega | (revert h; dsimp only; omega))
      obtain ⟨ty4, hty4, hF⟩ := zh_bind hF
      have gty4 := zFr.tr gty3 (fr_Told_put hty4) (fun r h => by first | exact h | exact h.elim | omega | (revert h; dsimp only; omega)) (fun r h => by first | exact h | exact h.elim | omega | (revert h; dsimp only; omega))
      obtain ⟨ty5, hty5, hF⟩ := zh_bind hF
      have gty5 := zFr.tr gty4 (fr_Follower_beginScan hty5) (fun r h => by first | exact h | exact h.elim | omega | (revert h; dsimp only; omega)) (fun r h => by first | exact h | exact h.elim | omega | (revert h; dsimp only; omega))
      obtain ⟨ty6, hty6, hF⟩ := zh_bind hF
      have gty6 := zFr.tr gty5 (fr_Station_advanceBy hty6) (fun r h => by first | exact h | exact h.elim | omega | (revert h; dsimp only; omega)) (fun r h => by first | exact h | exact h.elim | omega | (revert h; dsimp only; omega))
      obtain ⟨ty7, hty7, hF⟩ := zh_bind hF
      have gty7 := zFr.tr gty6 (fr_Station_sumOf hty7) (fun r h => by first | exact h | exact h.elim | omega | (revert h; dsimp only; omega)) (fun r h => by first | exact h | exact h.elim | omega | (revert h; dsimp only; omega))
      rcases Decidable.em ((lg_cmp ty7.1 w3) ≤ 0) with cy8 | cy8
      · replace hF := zh_t cy8 hF
        exact zFr.tr gty7 (g_S_bestGap_94 (fun a0 a1 a2 a3 a4 a5 => ih a0 a1 a2 a3 a4 a5) hF) (fun _ h => h) (fun _ h => h)
      · replace hF := zh_f cy8 hF
        obtain ⟨ty9, hty9, hF⟩ := zh_bind hF
        have gty9 := zFr.tr gty7 (fr_Station_sumOf hty9) (fun r h => by first | exact h | exact h.elim | omega | (revert h; dsimp only; omega)) (fun r h => by first | exact h | exact h.elim | omega | (revert h; dsimp only; omega))
        obtain ⟨y10, hy10, hF⟩ := zh_let hF
        exact zFr.tr gty9 (g_S_bestGap_94 (fun a0 a1 a2 a3 a4 a5 => ih a0 a1 a2 a3 a4 a5) hF) (fun _ h => h) (fun _ h => h)
theorem g_S_bestGap_0  {x1 : Int32} {μ : zI} {ν : zJ} {out : (Int32 × zI × zJ)} (hF : e_S_bestGap_0   x1 μ ν = some out) : zFr (fun r => (19 ≤ r ∧ r < 19 + 15)) (fun r => (19 ≤ r ∧ r < 19 + 15)) μ ν out.2.1 out.2.2 := by
  unfold e_S_bestGap_0 at hF
  have g0 := zFr.rf (fun r => (19 ≤ r ∧ r < 19 + 15)) (fun r => (19 ≤ r ∧ r < 19 + 15)) μ ν
  obtain ⟨ty1, hty1, hF⟩ := zh_bind hF
  have gty1 := zFr.tr g0 (fr_S_mayTry hty1) (fun r h => by first | exact h | exact h.elim | omega | (revert h; dsimp only; omega)) (fun r h => by first | exact h | exact h.elim | omega | (revert h; dsimp only; omega))
  rcases (Decidable.em (ty1.1 = 0)).symm with cy2 | cy2
  · replace hF := zh_f cy2 hF
    obtain ⟨ty3, hty3, hF⟩ := zh_bind hF
    have gty3 := zFr.tr gty1 (fr_Told_leastOf hty3) (fun r h => by first | exact h | exact h.elim | omega | (revert h; dsimp only; omega)) (fun r h => by first | exact h | exact h.elim | omega | (revert h; dsimp only; omega))
    obtain ⟨y4, hy4, hF⟩ := zh_let hF
    exact zFr.tr gty3 (g_S_bestGap_23  zFuel _ _ _ _ _ _ hF) (fun _ h => h) (fun _ h => h)
  · replace hF := zh_t cy2 hF
    cases hF
    exact gty1
theorem fr_S_bestGap {x1 : Int32} {μ : zI} {ν : zJ} {out : (Int32 × zI × zJ)} (hE : E_S_bestGap x1 μ ν = some out) : zFr (fun r => (19 ≤ r ∧ r < 19 + 15)) (fun r => (19 ≤ r ∧ r < 19 + 15)) μ ν out.2.1 out.2.2 := (g_S_bestGap_0 hE)
theorem g_S_ifNear_18  {x1 : Int32} {x2 : Int32} {μ : zI} {ν : zJ} {out : (Int32 × zI × zJ)} (hF : e_S_ifNear_18   x1 x2 μ ν = some out) : zFr (fun r => (19 ≤ r ∧ r < 19 + 15)) (fun r => (19 ≤ r ∧ r < 19 + 15)) μ ν out.2.1 out.2.2 := by
  unfold e_S_ifNear_18 at hF
  have g0 := zFr.rf (fun r => (19 ≤ r ∧ r < 19 + 15)) (fun r => (19 ≤ r ∧ r < 19 + 15)) μ ν
  cases hF
  exact g0
theorem g_S_ifNear_72 {r29 : Int32 → Int32 → Int32 → Int32 → zI → zJ → Option (Int32 × zI × zJ)} {x1 : Int32} {x2 : Int32} {x3 : Int32} {x4 : Int32} {μ : zI} {ν : zJ} {out : (Int32 × zI × zJ)} (hr29 : ∀ (x1 : Int32) (x2 : Int32) (x3 : Int32) (x4 : Int32) (μ : zI) (ν : zJ), r29 x1 x2 x3 x4 μ ν = some out → zFr (fun r => (19 ≤ r ∧ r < 19 + 15)) (fun r => (19 ≤ r ∧ r < 19 + 15)) μ ν out.2.1 out.2.2) (hF : e_S_ifNear_72  r29 x1 x2 x3 x4 μ ν = some out) : zFr (fun r => (19 ≤ r ∧ r < 19 + 15)) (fun r => (19 ≤ r ∧ r < 19 + 15)) μ ν out.2.1 out.2.2 := by
  unfold e_S_ifNear_72 at hF
  have g0 := zFr.rf (fun r => (19 ≤ r ∧ r < 19 + 15)) (fun r => (19 ≤ r ∧ r < 19 + 15)) μ ν
  exact zFr.tr g0 (hr29 _ _ _ _ _ _ hF) (fun _ h => h) (fun _ h => h)
theorem g_S_ifNear_29  {out : (Int32 × zI × zJ)} : ∀ (n : Nat) (x1 : Int32) (x2 : Int32) (x3 : Int32) (x4 : Int32) (μ : zI) (ν : zJ), f_S_ifNear_29   n x1 x2 x3 x4 μ ν = some out → zFr (fun r => (19 ≤ r ∧ r < 19 + 15)) (fun r => (19 ≤ r ∧ r < 19 + 15)) μ ν out.2.1 out.2.2 := by
  intro n
  induction n with
  | zero => intro x1 x2 x3 x4 μ ν hF; cases hF
  | succ n ih =>
    intro x1 x2 x3 x4 μ ν hF
    dsimp only [f_S_ifNear_29] at hF
    have g0 := zFr.rf (fun r => (19 ≤ r ∧ r < 19 + 15)) (fun r => (19 ≤ r ∧ r < 19 + 15)) μ ν
    rcases Decidable.em (x1 ≤ x4) with cy1 | cy1
    · replace hF := zh_t cy1 hF
      cases hF
      exact g0
    · replace hF := zh_f cy1 hF
      obtain ⟨ty2, hty2, hF⟩ := zh_bind hF
      have gty2 := zFr.tr g0 (fr_Station_advance hty2) (fun r h => by first | exact h | exact h.elim | omega | (revert h; dsimp only; omega)) (fun r h => by first | exact h | exact h.elim | omega | (revert h; dsimp only; omega))
      obtain ⟨ty3, hty3, hF⟩ := zh_bind hF
      have gty3 := zFr.tr gty2 (fr_S_isNear hty3) (fun r h => by first | exact h | exact h.elim | omega | (revert h; dsimp only; omega)) (fun r h => by first | exact h | exact h.elim | omega | (revert h; dsimp only; omega))
      rcases Decidable.em (ty3.1 = 0) with cy4 | cy4
      · replace hF := zh_t cy4 hF
        exact zFr.tr gty3 (g_S_ifNear_72 (fun a0 a1 a2 a3 a4 a5 => ih a0 a1 a2 a3 a4 a5) hF) (fun _ h => h) (fun _ h => h)
      · replace hF := zh_f cy4 hF
        exact zFr.tr gty3 (g_S_ifNear_72 (fun a0 a1 a2 a3 a4 a5 => ih a0 a1 a2 a3 a4 a5) hF) (fun _ h => h) (fun _ h => h)
theorem g_S_ifNear_0  {x1 : Int32} {x2 : Int32} {μ : zI} {ν : zJ} {out : (Int32 × zI × zJ)} (hF : e_S_ifNear_0   x1 x2 μ ν = some out) : zFr (fun r => (19 ≤ r ∧ r < 19 + 15)) (fun r => (19 ≤ r ∧ r < 19 + 15)) μ ν out.2.1 out.2.2 := by
  unfold e_S_ifNear_0 at hF
  have g0 := zFr.rf (fun r => (19 ≤ r ∧ r < 19 + 15)) (fun r => (19 ≤ r ∧ r < 19 + 15)) μ ν
  obtain ⟨ty1, hty1, hF⟩ := zh_bind hF
  have gty1 := zFr.tr g0 (fr_S_mayTry hty1) (fun r h => by first | exact h | exact h.elim | omega | (revert h; dsimp only; omega)) (fun r h => by first | exact h | exact h.elim | omega | (revert h; dsimp only; omega))
  rcases Decidable.em (ty1.1 = 0) with cy2 | cy2
  · replace hF := zh_t cy2 hF
    exact zFr.tr gty1 (g_S_ifNear_18  hF) (fun _ h => h) (fun _ h => h)
  · replace hF := zh_f cy2 hF
    obtain ⟨ty3, hty3, hF⟩ := zh_bind hF
    have gty3 := zFr.tr gty1 (fr_S_isWithin hty3) (fun r h => by first | exact h | exact h.elim | omega | (revert h; dsimp only; omega)) (fun r h => by first | exact h | exact h.elim | omega | (revert h; dsimp only; omega))
    rcases (Decidable.em (ty3.1 = 0)).symm with cy4 | cy4
    · replace hF := zh_f cy4 hF
      obtain ⟨ty5, hty5, hF⟩ := zh_bind hF
      have gty5 := zFr.tr gty3 (fr_S_beginTrial hty5) (fun r h => by first | exact h | exact h.elim | omega | (revert h; dsimp only; omega)) (fun r h => by first | exact h | exact h.elim | omega | (revert h; dsimp only; omega))
      exact zFr.tr gty5 (g_S_ifNear_29  zFuel _ _ _ _ _ _ hF) (fun _ h => h) (fun _ h => h)
    · replace hF := zh_t cy4 hF
      exact zFr.tr gty3 (g_S_ifNear_18  hF) (fun _ h => h) (fun _ h => h)
theorem fr_S_ifNear {x1 : Int32} {x2 : Int32} {μ : zI} {ν : zJ} {out : (Int32 × zI × zJ)} (hE : E_S_ifNear x1 x2 μ ν = some out) : zFr (fun r => (19 ≤ r ∧ r < 19 + 15)) (fun r => (19 ≤ r ∧ r < 19 + 15)) μ ν out.2.1 out.2.2 := (g_S_ifNear_0 hE)
theorem g_S_count_0  {x1 : Int32} {μ : zI} {ν : zJ} {out : (Int32 × zI × zJ)} (hF : e_S_count_0   x1 μ ν = some out) : zFr (fun _ => False) (fun _ => False) μ ν out.2.1 out.2.2 := by
  unfold e_S_count_0 at hF
  have g0 := zFr.rf (fun _ => False) (fun _ => False) μ ν
  by_cases cy1 : x1 = 0
  · replace hF := zh_t cy1 hF
    cases hF
    exact g0
  · replace hF := zh_f cy1 hF
    by_cases cy2 : x1 = 1
    · replace hF := zh_t cy2 hF
      obtain ⟨ty5, hty5, hF⟩ := zh_bind hF
      have gty5 := zFr.tr g0 (fr_Schedule_left hty5) (fun r h => by first | exact h | exact h.elim | omega | (revert h; dsimp only; omega)) (fun r h => by first | exact h | exact h.elim | omega | (revert h; dsimp only; omega))
      cases hF
      exact gty5
    · replace hF := zh_f cy2 hF
      by_cases cy3 : x1 = 2
      · replace hF := zh_t cy3 hF
        cases hF
        exact g0
      · replace hF := zh_f cy3 hF
        by_cases cy4 : x1 = 3
        · replace hF := zh_t cy4 hF
          cases hF
          exact g0
        · replace hF := zh_f cy4 hF
          cases hF
          exact g0
theorem fr_S_count {x1 : Int32} {μ : zI} {ν : zJ} {out : (Int32 × zI × zJ)} (hE : E_S_count x1 μ ν = some out) : zFr (fun _ => False) (fun _ => False) μ ν out.2.1 out.2.2 := (g_S_count_0 hE)
