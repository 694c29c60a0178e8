theorem g_M_puts_38 {q : Nat} {r8 : Int32 → Int32 → zI → zJ → Option (zI × zJ)} {out : (zI × zJ)} (hr8 : ∀ (x1 : Int32) (x2 : Int32) (μ : zI) (ν : zJ), r8 x1 x2 μ ν = some out → zFr (fun r => (q ≤ r ∧ r < q + 12)) (fun _ => False) μ ν out.1 out.2) : ∀ (n : Nat) (x1 : Int32) (x2 : Int32) (x3 : Int32) (μ : zI) (ν : zJ), f_M_puts_38 q r8 n x1 x2 x3 μ ν = some out → zFr (fun r => (q ≤ r ∧ r < q + 12)) (fun _ => False) μ ν out.1 out.2 := by
  intro n
  induction n with
  | zero => intro x1 x2 x3 μ ν hF; cases hF
  | succ n ih =>
    intro x1 x2 x3 μ ν hF
    dsimp only [f_M_puts_38] at hF
    have g0 := zFr.rf (fun r => (q ≤ r ∧ r < q + 12)) (fun _ => False) μ ν
    rcases Decidable.em (4 ≤ x3) with cy1 | cy1
    · replace hF := zh_t cy1 hF
      exact zFr.tr g0 (hr8 _ _ _ _ hF) (fun _ h => h) (fun _ h => h)
    · replace hF := zh_f cy1 hF
      obtain ⟨hy2, hF⟩ := zh_if hF
      obtain ⟨hy3, hF⟩ := zh_if hF
      obtain ⟨μy4, hy4, hF⟩ := zh_let hF
      have gy4 := zFr.put g0 (r := (q + 7)) (by first | omega | (dsimp only; omega)) hy4
      exact zFr.tr gy4 (ih _ _ _ _ _ hF) (fun _ h => h) (fun _ h => h)
theorem g_M_puts_85 {q : Nat}  {out : (zI × zJ)} : ∀ (n : Nat) (x1 : Int32) (x2 : Int32) (x3 : Int32) (μ : zI) (ν : zJ), f_M_puts_85 q  n x1 x2 x3 μ ν = some out → zFr (fun r => (q ≤ r ∧ r < q + 12)) (fun _ => False) μ ν out.1 out.2 := by
  intro n
  induction n with
  | zero => intro x1 x2 x3 μ ν hF; cases hF
  | succ n ih =>
    intro x1 x2 x3 μ ν hF
    dsimp only [f_M_puts_85] at hF
    have g0 := zFr.rf (fun r => (q ≤ r ∧ r < q + 12)) (fun _ => False) μ ν
    rcases Decidable.em (4 ≤ x3) with cy1 | cy1
    · replace hF := zh_t cy1 hF
      obtain ⟨μy2, hy2, hF⟩ := zh_let hF
      have gy2 := zFr.put g0 (r := (q + 7)) (by first | omega | (dsimp only; omega)) hy2
      cases hF
      exact gy2
    · replace hF := zh_f cy1 hF
      obtain ⟨hy3, hF⟩ := zh_if hF
      obtain ⟨hy4, hF⟩ := zh_if hF
      obtain ⟨μy5, hy5, hF⟩ := zh_let hF
      have gy5 := zFr.put g0 (r := (q + 7)) (by first | omega | (dsimp only; omega)) hy5
      exact zFr.tr gy5 (ih _ _ _ _ _ hF) (fun _ h => h) (fun _ h => h)
theorem g_M_puts_83 {q : Nat}  {x1 : Int32} {x2 : Int32} {μ : zI} {ν : zJ} {out : (zI × zJ)} (hF : e_M_puts_83 q  x1 x2 μ ν = some out) : zFr (fun r => (q ≤ r ∧ r < q + 12)) (fun _ => False) μ ν out.1 out.2 := by
  unfold e_M_puts_83 at hF
  have g0 := zFr.rf (fun r => (q ≤ r ∧ r < q + 12)) (fun _ => False) μ ν
  exact zFr.tr g0 (g_M_puts_85  zFuel _ _ _ _ _ hF) (fun _ h => h) (fun _ h => h)
theorem g_M_puts_8 {q : Nat}  {out : (zI × zJ)} : ∀ (n : Nat) (x1 : Int32) (x2 : Int32) (μ : zI) (ν : zJ), f_M_puts_8 q  n x1 x2 μ ν = some out → zFr (fun r => (q ≤ r ∧ r < q + 12)) (fun _ => False) μ ν out.1 out.2 := by
  intro n
  induction n with
  | zero => intro x1 x2 μ ν hF; cases hF
  | succ n ih =>
    intro x1 x2 μ ν hF
    dsimp only [f_M_puts_8] at hF
    have g0 := zFr.rf (fun r => (q ≤ r ∧ r < q + 12)) (fun _ => False) μ ν
    rcases Decidable.em (x2 ≤ 0) with cy1 | cy1
    · replace hF := zh_t cy1 hF
      exact zFr.tr g0 (g_M_puts_83  hF) (fun _ h => h) (fun _ h => h)
    · replace hF := zh_f cy1 hF
      obtain ⟨hy2, hF⟩ := zh_if hF
      obtain ⟨hy3, hF⟩ := zh_if hF
      rcases Decidable.em ((μ (q + 7) (Int32.toNatClampNeg ((47 + (4 * x2)) - 4))) ≤ (μ (q + 6) (Int32.toNatClampNeg (4 * x1)))) with cy4 | cy4
      · replace hF := zh_t cy4 hF
        exact zFr.tr g0 (g_M_puts_83  hF) (fun _ h => h) (fun _ h => h)
      · replace hF := zh_f cy4 hF
        exact zFr.tr g0 (g_M_puts_38 (fun a0 a1 a2 a3 => ih a0 a1 a2 a3) zFuel _ _ _ _ _ hF) (fun _ h => h) (fun _ h => h)
theorem g_M_puts_0 {q : Nat}  {x1 : Int32} {μ : zI} {ν : zJ} {out : (zI × zJ)} (hF : e_M_puts_0 q  x1 μ ν = some out) : zFr (fun r => (q ≤ r ∧ r < q + 12)) (fun _ => False) μ ν out.1 out.2 := by
  unfold e_M_puts_0 at hF
  have g0 := zFr.rf (fun r => (q ≤ r ∧ r < q + 12)) (fun _ => False) μ ν
  obtain ⟨y1, hy1, hF⟩ := zh_let hF
  exact zFr.tr g0 (g_M_puts_8  zFuel _ _ _ _ hF) (fun _ h => h) (fun _ h => h)
theorem fr_M_puts {q : Nat} {x1 : Int32} {μ : zI} {ν : zJ} {out : (zI × zJ)} (hE : E_M_puts q x1 μ ν = some out) : zFr (fun r => (q ≤ r ∧ r < q + 12)) (fun _ => False) μ ν out.1 out.2 := (g_M_puts_0 hE)
theorem g_M_begins_30 {q : Nat} {r2 : Int32 → zI → zJ → Option (zI × zJ)} {x1 : Int32} {s1 : Int32} {s2 : Int32} {μ : zI} {ν : zJ} {out : (zI × zJ)} (hr2 : ∀ (x1 : Int32) (μ : zI) (ν : zJ), r2 x1 μ ν = some out → zFr (fun r => (q ≤ r ∧ r < q + 12)) (fun r => (q ≤ r ∧ r < q + 12)) μ ν out.1 out.2) (hF : e_M_begins_30 q r2 x1 s1 s2 μ ν = some out) : zFr (fun r => (q ≤ r ∧ r < q + 12)) (fun r => (q ≤ r ∧ r < q + 12)) μ ν out.1 out.2 := by
  unfold e_M_begins_30 at hF
  have g0 := zFr.rf (fun r => (q ≤ r ∧ r < q + 12)) (fun r => (q ≤ r ∧ r < q + 12)) μ ν
  obtain ⟨hy1, hF⟩ := zh_if hF
  obtain ⟨μy2, hy2, hF⟩ := zh_let hF
  have gy2 := zFr.put g0 (r := (q + 7)) (by first | omega | (dsimp only; omega)) hy2
  exact zFr.tr gy2 (hr2 _ _ _ hF) (fun _ h => h) (fun _ h => h)
theorem g_M_begins_192 {q : Nat}  {out : (zI × zJ)} : ∀ (n : Nat) (x1 : Int32) (μ : zI) (ν : zJ), f_M_begins_192 q  n x1 μ ν = some out → zFr (fun r => (q ≤ r ∧ r < q + 12)) (fun r => (q ≤ r ∧ r < q + 12)) μ ν out.1 out.2 := by
  intro n
  induction n with
  | zero => intro x1 μ ν hF; cases hF
  | succ n ih =>
    intro x1 μ ν hF
    dsimp only [f_M_begins_192] at hF
    have g0 := zFr.rf (fun r => (q ≤ r ∧ r < q + 12)) (fun r => (q ≤ r ∧ r < q + 12)) μ ν
    rcases Decidable.em (11 ≤ x1) with cy1 | cy1
    · replace hF := zh_t cy1 hF
      obtain ⟨μy2, hy2, hF⟩ := zh_let hF
      have gy2 := zFr.put g0 (r := q) (by first | omega | (dsimp only; omega)) hy2
      cases hF
      exact gy2
    · replace hF := zh_f cy1 hF
      obtain ⟨hy3, hF⟩ := zh_if hF
      obtain ⟨νy4, hy4, hF⟩ := zh_let hF
      have gy4 := zFr.putl g0 (r := (q + 9)) (by first | omega | (dsimp only; omega)) hy4
      exact zFr.tr gy4 (ih _ _ _ hF) (fun _ h => h) (fun _ h => h)
theorem g_M_begins_171 {q : Nat}  {out : (zI × zJ)} : ∀ (n : Nat) (x1 : Int32) (μ : zI) (ν : zJ), f_M_begins_171 q  n x1 μ ν = some out → zFr (fun r => (q ≤ r ∧ r < q + 12)) (fun r => (q ≤ r ∧ r < q + 12)) μ ν out.1 out.2 := by
  intro n
  induction n with
  | zero => intro x1 μ ν hF; cases hF
  | succ n ih =>
    intro x1 μ ν hF
    dsimp only [f_M_begins_171] at hF
    have g0 := zFr.rf (fun r => (q ≤ r ∧ r < q + 12)) (fun r => (q ≤ r ∧ r < q + 12)) μ ν
    rcases Decidable.em ((μ q 12) ≤ x1) with cy1 | cy1
    · replace hF := zh_t cy1 hF
      exact zFr.tr g0 (g_M_begins_192  zFuel _ _ _ hF) (fun _ h => h) (fun _ h => h)
    · replace hF := zh_f cy1 hF
      obtain ⟨ty2, hty2, hF⟩ := zh_bind hF
      have gty2 := zFr.tr g0 (fr_M_puts hty2) (fun r h => by first | exact h | exact h.elim | omega | (revert h; dsimp only; omega)) (fun r h => by first | exact h | exact h.elim | omega | (revert h; dsimp only; omega))
      exact zFr.tr gty2 (ih _ _ _ hF) (fun _ h => h) (fun _ h => h)
theorem g_M_begins_47 {q : Nat}  {out : (zI × zJ)} : ∀ (n : Nat) (x1 : Int32) (μ : zI) (ν : zJ), f_M_begins_47 q  n x1 μ ν = some out → zFr (fun r => (q ≤ r ∧ r < q + 12)) (fun r => (q ≤ r ∧ r < q + 12)) μ ν out.1 out.2 := by
  intro n
  induction n with
  | zero => intro x1 μ ν hF; cases hF
  | succ n ih =>
    intro x1 μ ν hF
    dsimp only [f_M_begins_47] at hF
    have g0 := zFr.rf (fun r => (q ≤ r ∧ r < q + 12)) (fun r => (q ≤ r ∧ r < q + 12)) μ ν
    rcases Decidable.em ((μ q 9) ≤ x1) with cy1 | cy1
    · replace hF := zh_t cy1 hF
      obtain ⟨μy2, hy2, hF⟩ := zh_let hF
      have gy2 := zFr.put g0 (r := (q + 7)) (by first | omega | (dsimp only; omega)) hy2
      obtain ⟨μy3, hy3, hF⟩ := zh_let hF
      have gy3 := zFr.put gy2 (r := (q + 7)) (by first | omega | (dsimp only; omega)) hy3
      obtain ⟨μy4, hy4, hF⟩ := zh_let hF
      have gy4 := zFr.put gy3 (r := (q + 7)) (by first | omega | (dsimp only; omega)) hy4
      obtain ⟨μy5, hy5, hF⟩ := zh_let hF
      have gy5 := zFr.put gy4 (r := (q + 7)) (by first | omega | (dsimp only; omega)) hy5
      obtain ⟨μy6, hy6, hF⟩ := zh_let hF
      have gy6 := zFr.put gy5 (r := (q + 7)) (by first | omega | (dsimp only; omega)) hy6
      obtain ⟨μy7, hy7, hF⟩ := zh_let hF
      have gy7 := zFr.put gy6 (r := (q + 7)) (by first | omega | (dsimp only; omega)) hy7
      obtain ⟨μy8, hy8, hF⟩ := zh_let hF
      have gy8 := zFr.put gy7 (r := (q + 7)) (by first | omega | (dsimp only; omega)) hy8
      exact zFr.tr gy8 (g_M_begins_171  zFuel _ _ _ hF) (fun _ h => h) (fun _ h => h)
    · replace hF := zh_f cy1 hF
      obtain ⟨hy9, hF⟩ := zh_if hF
      obtain ⟨hy10, hF⟩ := zh_if hF
      obtain ⟨μy11, hy11, hF⟩ := zh_let hF
      have gy11 := zFr.put g0 (r := (q + 4)) (by first | omega | (dsimp only; omega)) hy11
      obtain ⟨hy12, hF⟩ := zh_if hF
      obtain ⟨hy13, hF⟩ := zh_if hF
      obtain ⟨μy14, hy14, hF⟩ := zh_let hF
      have gy14 := zFr.put gy11 (r := (q + 5)) (by first | omega | (dsimp only; omega)) hy14
      obtain ⟨hy15, hF⟩ := zh_if hF
      obtain ⟨μy16, hy16, hF⟩ := zh_let hF
      have gy16 := zFr.put gy14 (r := (q + 7)) (by first | omega | (dsimp only; omega)) hy16
      exact zFr.tr gy16 (ih _ _ _ hF) (fun _ h => h) (fun _ h => h)
theorem g_M_begins_2 {q : Nat}  {out : (zI × zJ)} : ∀ (n : Nat) (x1 : Int32) (μ : zI) (ν : zJ), f_M_begins_2 q  n x1 μ ν = some out → zFr (fun r => (q ≤ r ∧ r < q + 12)) (fun r => (q ≤ r ∧ r < q + 12)) μ ν out.1 out.2 := by
  intro n
  induction n with
  | zero => intro x1 μ ν hF; cases hF
  | succ n ih =>
    intro x1 μ ν hF
    dsimp only [f_M_begins_2] at hF
    have g0 := zFr.rf (fun r => (q ≤ r ∧ r < q + 12)) (fun r => (q ≤ r ∧ r < q + 12)) μ ν
    rcases Decidable.em (146 ≤ x1) with cy1 | cy1
    · replace hF := zh_t cy1 hF
      obtain ⟨μy2, hy2, hF⟩ := zh_let hF
      have gy2 := zFr.put g0 (r := q) (by first | omega | (dsimp only; omega)) hy2
      exact zFr.tr gy2 (g_M_begins_47  zFuel _ _ _ hF) (fun _ h => h) (fun _ h => h)
    · replace hF := zh_f cy1 hF
      rcases Decidable.em (19 ≤ x1) with cy3 | cy3
      · replace hF := zh_t cy3 hF
        exact zFr.tr g0 (g_M_begins_30 (fun a0 a1 a2 => ih a0 a1 a2) hF) (fun _ h => h) (fun _ h => h)
      · replace hF := zh_f cy3 hF
        obtain ⟨hy4, hF⟩ := zh_if hF
        exact zFr.tr g0 (g_M_begins_30 (fun a0 a1 a2 => ih a0 a1 a2) hF) (fun _ h => h) (fun _ h => h)
theorem g_M_begins_0 {q : Nat}   {μ : zI} {ν : zJ} {out : (zI × zJ)} (hF : e_M_begins_0 q   μ ν = some out) : zFr (fun r => (q ≤ r ∧ r < q + 12)) (fun r => (q ≤ r ∧ r < q + 12)) μ ν out.1 out.2 := by
  unfold e_M_begins_0 at hF
  have g0 := zFr.rf (fun r => (q ≤ r ∧ r < q + 12)) (fun r => (q ≤ r ∧ r < q + 12)) μ ν
  exact zFr.tr g0 (g_M_begins_2  zFuel _ _ _ hF) (fun _ h => h) (fun _ h => h)
theorem fr_M_begins {q : Nat} {μ : zI} {ν : zJ} {out : (zI × zJ)} (hE : E_M_begins q μ ν = some out) : zFr (fun r => (q ≤ r ∧ r < q + 12)) (fun r => (q ≤ r ∧ r < q + 12)) μ ν out.1 out.2 := (g_M_begins_0 hE)
theorem g_M_thrown_0 {q : Nat}   {μ : zI} {ν : zJ} {out : (Int32 × zI × zJ)} (hF : e_M_thrown_0 q   μ ν = some out) : zFr (fun _ => False) (fun _ => False) μ ν out.2.1 out.2.2 := by
  unfold e_M_thrown_0 at hF
  have g0 := zFr.rf (fun _ => False) (fun _ => False) μ ν
  cases hF
  exact g0
theorem fr_M_thrown {q : Nat} {μ : zI} {ν : zJ} {out : (Int32 × zI × zJ)} (hE : E_M_thrown q μ ν = some out) : zFr (fun _ => False) (fun _ => False) μ ν out.2.1 out.2.2 := (g_M_thrown_0 hE)
theorem g_M_feed_73 {q : Nat} {r20 : Int32 → Int32 → Int32 → Int32 → Int32 → Int32 → zI → zJ → Option (Int32 × zI × zJ)} {x1 : Int32} {x2 : Int32} {x3 : Int32} {x4 : Int32} {x5 : Int32} {x6 : Int32} {s0 : Int32} {μ : zI} {ν : zJ} {out : (Int32 × zI × zJ)} (hr20 : ∀ (x1 : Int32) (x2 : Int32) (x3 : Int32) (x4 : Int32) (x5 : Int32) (x6 : Int32) (μ : zI) (ν : zJ), r20 x1 x2 x3 x4 x5 x6 μ ν = some out → zFr (fun r => (q ≤ r ∧ r < q + 12)) (fun _ => False) μ ν out.2.1 out.2.2) (hF : e_M_feed_73 q r20 x1 x2 x3 x4 x5 x6 s0 μ ν = some out) : zFr (fun r => (q ≤ r ∧ r < q + 12)) (fun _ => False) μ ν out.2.1 out.2.2 := by
  unfold e_M_feed_73 at hF
  have g0 := zFr.rf (fun r => (q ≤ r ∧ r < q + 12)) (fun _ => False) μ ν
  obtain ⟨hy1, hF⟩ := zh_if hF
  obtain ⟨μy2, hy2, hF⟩ := zh_let hF
  have gy2 := zFr.put g0 (r := (q + 1)) (by first | omega | (dsimp only; omega)) hy2
  exact zFr.tr gy2 (hr20 _ _ _ _ _ _ _ _ hF) (fun _ h => h) (fun _ h => h)
theorem g_M_feed_20 {q : Nat}  {out : (Int32 × zI × zJ)} : ∀ (n : Nat) (x1 : Int32) (x2 : Int32) (x3 : Int32) (x4 : Int32) (x5 : Int32) (x6 : Int32) (μ : zI) (ν : zJ), f_M_feed_20 q  n x1 x2 x3 x4 x5 x6 μ ν = some out → zFr (fun r => (q ≤ r ∧ r < q + 12)) (fun _ => False) μ ν out.2.1 out.2.2 := by
  intro n
  induction n with
  | zero => intro x1 x2 x3 x4 x5 x6 μ ν hF; cases hF
  | succ n ih =>
    intro x1 x2 x3 x4 x5 x6 μ ν hF
    dsimp only [f_M_feed_20] at hF
    have g0 := zFr.rf (fun r => (q ≤ r ∧ r < q + 12)) (fun _ => False) μ ν
    rcases Decidable.em (20 ≤ x6) with cy1 | cy1
    · replace hF := zh_t cy1 hF
      obtain ⟨μy2, hy2, hF⟩ := zh_let hF
      have gy2 := zFr.put g0 (r := q) (by first | omega | (dsimp only; omega)) hy2
      cases hF
      exact gy2
    · replace hF := zh_f cy1 hF
      rcases Decidable.em (4 ≤ x6) with cy3 | cy3
      · replace hF := zh_t cy3 hF
        rcases Decidable.em (8 ≤ x6) with cy4 | cy4
        · replace hF := zh_t cy4 hF
          rcases Decidable.em (12 ≤ x6) with cy5 | cy5
          · replace hF := zh_t cy5 hF
            rcases Decidable.em (16 ≤ x6) with cy6 | cy6
            · replace hF := zh_t cy6 hF
              exact zFr.tr g0 (g_M_feed_73 (fun a0 a1 a2 a3 a4 a5 a6 a7 => ih a0 a1 a2 a3 a4 a5 a6 a7) hF) (fun _ h => h) (fun _ h => h)
            · replace hF := zh_f cy6 hF
              exact zFr.tr g0 (g_M_feed_73 (fun a0 a1 a2 a3 a4 a5 a6 a7 => ih a0 a1 a2 a3 a4 a5 a6 a7) hF) (fun _ h => h) (fun _ h => h)
          · replace hF := zh_f cy5 hF
            exact zFr.tr g0 (g_M_feed_73 (fun a0 a1 a2 a3 a4 a5 a6 a7 => ih a0 a1 a2 a3 a4 a5 a6 a7) hF) (fun _ h => h) (fun _ h => h)
        · replace hF := zh_f cy4 hF
          exact zFr.tr g0 (g_M_feed_73 (fun a0 a1 a2 a3 a4 a5 a6 a7 => ih a0 a1 a2 a3 a4 a5 a6 a7) hF) (fun _ h => h) (fun _ h => h)
      · replace hF := zh_f cy3 hF
        exact zFr.tr g0 (g_M_feed_73 (fun a0 a1 a2 a3 a4 a5 a6 a7 => ih a0 a1 a2 a3 a4 a5 a6 a7) hF) (fun _ h => h) (fun _ h => h)
theorem g_M_feed_0 {q : Nat}  {x1 : Int32} {x2 : Int32} {x3 : Int32} {x4 : Int32} {x5 : Int32} {μ : zI} {ν : zJ} {out : (Int32 × zI × zJ)} (hF : e_M_feed_0 q  x1 x2 x3 x4 x5 μ ν = some out) : zFr (fun r => (q ≤ r ∧ r < q + 12)) (fun _ => False) μ ν out.2.1 out.2.2 := by
  unfold e_M_feed_0 at hF
  have g0 := zFr.rf (fun r => (q ≤ r ∧ r < q + 12)) (fun _ => False) μ ν
  obtain ⟨μy1, hy1, hF⟩ := zh_let hF
  have gy1 := zFr.put g0 (r := q) (by first | omega | (dsimp only; omega)) hy1
  rcases Decidable.em ((μy1 q 2) ≤ 880) with cy2 | cy2
  · replace hF := zh_t cy2 hF
    exact zFr.tr gy1 (g_M_feed_20  zFuel _ _ _ _ _ _ _ _ hF) (fun _ h => h) (fun _ h => h)
  · replace hF := zh_f cy2 hF
    cases hF
    exact gy1
theorem fr_M_feed {q : Nat} {x1 : Int32} {x2 : Int32} {x3 : Int32} {x4 : Int32} {x5 : Int32} {μ : zI} {ν : zJ} {out : (Int32 × zI × zJ)} (hE : E_M_feed q x1 x2 x3 x4 x5 μ ν = some out) : zFr (fun r => (q ≤ r ∧ r < q + 12)) (fun _ => False) μ ν out.2.1 out.2.2 := (g_M_feed_0 hE)
theorem g_M_here_24 {q : Nat}  {s0 : Int32} {μ : zI} {ν : zJ} {out : (Int32 × zI × zJ)} (hF : e_M_here_24 q  s0 μ ν = some out) : zFr (fun _ => False) (fun _ => False) μ ν out.2.1 out.2.2 := by
  unfold e_M_here_24 at hF
  have g0 := zFr.rf (fun _ => False) (fun _ => False) μ ν
  cases hF
  exact g0
theorem g_M_here_0 {q : Nat}   {μ : zI} {ν : zJ} {out : (Int32 × zI × zJ)} (hF : e_M_here_0 q   μ ν = some out) : zFr (fun _ => False) (fun _ => False) μ ν out.2.1 out.2.2 := by
  unfold e_M_here_0 at hF
  have g0 := zFr.rf (fun _ => False) (fun _ => False) μ ν
  rcases Decidable.em ((μ q 14) ≤ (μ q 15)) with cy1 | cy1
  · replace hF := zh_t cy1 hF
    exact zFr.tr g0 (g_M_here_24  hF) (fun _ h => h) (fun _ h => h)
  · replace hF := zh_f cy1 hF
    obtain ⟨hy2, hF⟩ := zh_if hF
    exact zFr.tr g0 (g_M_here_24  hF) (fun _ h => h) (fun _ h => h)
theorem fr_M_here {q : Nat} {μ : zI} {ν : zJ} {out : (Int32 × zI × zJ)} (hE : E_M_here q μ ν = some out) : zFr (fun _ => False) (fun _ => False) μ ν out.2.1 out.2.2 := (g_M_here_0 hE)
theorem g_M_isSmall_17  {x0 : Int32} {s0 : Int32} {μ : zI} {ν : zJ} {out : (Int32 × zI × zJ)} (hF : e_M_isSmall_17   x0 s0 μ ν = some out) : zFr (fun _ => False) (fun _ => False) μ ν out.2.1 out.2.2 := by
  unfold e_M_isSmall_17 at hF
  have g0 := zFr.rf (fun _ => False) (fun _ => False) μ ν
  obtain ⟨hy1, hF⟩ := zh_if hF
  cases hF
  exact g0
theorem g_M_isSmall_16  {x0 : Int32} {μ : zI} {ν : zJ} {out : (Int32 × zI × zJ)} (hF : e_M_isSmall_16   x0 μ ν = some out) : zFr (fun _ => False) (fun _ => False) μ ν out.2.1 out.2.2 := by
  unfold e_M_isSmall_16 at hF
  have g0 := zFr.rf (fun _ => False) (fun _ => False) μ ν
  exact zFr.tr g0 (g_M_isSmall_17  hF) (fun _ h => h) (fun _ h => h)
theorem g_M_isSmall_0  {x0 : Int32} {μ : zI} {ν : zJ} {out : (Int32 × zI × zJ)} (hF : e_M_isSmall_0   x0 μ ν = some out) : zFr (fun _ => False) (fun _ => False) μ ν out.2.1 out.2.2 := by
  unfold e_M_isSmall_0 at hF
  have g0 := zFr.rf (fun _ => False) (fun _ => False) μ ν
  rcases Decidable.em (x0 < 97) with cy1 | cy1
  · replace hF := zh_t cy1 hF
    exact zFr.tr g0 (g_M_isSmall_16  hF) (fun _ h => h) (fun _ h => h)
  · replace hF := zh_f cy1 hF
    rcases Decidable.em (122 < x0) with cy2 | cy2
    · replace hF := zh_t cy2 hF
      exact zFr.tr g0 (g_M_isSmall_16  hF) (fun _ h => h) (fun _ h => h)
    · replace hF := zh_f cy2 hF
      exact zFr.tr g0 (g_M_isSmall_17  hF) (fun _ h => h) (fun _ h => h)
theorem fr_M_isSmall {x0 : Int32} {μ : zI} {ν : zJ} {out : (Int32 × zI × zJ)} (hE : E_M_isSmall x0 μ ν = some out) : zFr (fun _ => False) (fun _ => False) μ ν out.2.1 out.2.2 := (g_M_isSmall_0 hE)
theorem g_M_isDigit_17  {x0 : Int32} {s0 : Int32} {μ : zI} {ν : zJ} {out : (Int32 × zI × zJ)} (hF : e_M_isDigit_17   x0 s0 μ ν = some out) : zFr (fun _ => False) (fun _ => False) μ ν out.2.1 out.2.2 := by
  unfold e_M_isDigit_17 at hF
  have g0 := zFr.rf (fun _ => False) (fun _ => False) μ ν
  obtain ⟨hy1, hF⟩ := zh_if hF
  cases hF
  exact g0
theorem g_M_isDigit_16  {x0 : Int32} {μ : zI} {ν : zJ} {out : (Int32 × zI × zJ)} (hF : e_M_isDigit_16   x0 μ ν = some out) : zFr (fun _ => False) (fun _ => False) μ ν out.2.1 out.2.2 := by
  unfold e_M_isDigit_16 at hF
  have g0 := zFr.rf (fun _ => False) (fun _ => False) μ ν
  exact zFr.tr g0 (g_M_isDigit_17  hF) (fun _ h => h) (fun _ h => h)
theorem g_M_isDigit_0  {x0 : Int32} {μ : zI} {ν : zJ} {out : (Int32 × zI × zJ)} (hF : e_M_isDigit_0   x0 μ ν = some out) : zFr (fun _ => False) (fun _ => False) μ ν out.2.1 out.2.2 := by
  unfold e_M_isDigit_0 at hF
  have g0 := zFr.rf (fun _ => False) (fun _ => False) μ ν
  rcases Decidable.em (x0 < 48) with cy1 | cy1
  · replace hF := zh_t cy1 hF
    exact zFr.tr g0 (g_M_isDigit_16  hF) (fun _ h => h) (fun _ h => h)
  · replace hF := zh_f cy1 hF
    rcases Decidable.em (57 < x0) with cy2 | cy2
    · replace hF := zh_t cy2 hF
      exact zFr.tr g0 (g_M_isDigit_16  hF) (fun _ h => h) (fun _ h => h)
    · replace hF := zh_f cy2 hF
      exact zFr.tr g0 (g_M_isDigit_17  hF) (fun _ h => h) (fun _ h => h)
theorem fr_M_isDigit {x0 : Int32} {μ : zI} {ν : zJ} {out : (Int32 × zI × zJ)} (hE : E_M_isDigit x0 μ ν = some out) : zFr (fun _ => False) (fun _ => False) μ ν out.2.1 out.2.2 := (g_M_isDigit_0 hE)
theorem g_M_wordHere_97 {q : Nat} {r4 : Int32 → Int32 → zI → zJ → Option (Int32 × zI × zJ)} {out : (Int32 × zI × zJ)} (hr4 : ∀ (x1 : Int32) (x2 : Int32) (μ : zI) (ν : zJ), r4 x1 x2 μ ν = some out → zFr (fun _ => False) (fun _ => False) μ ν out.2.1 out.2.2) : ∀ (n : Nat) (x1 : Int32) (x2 : Int32) (x3 : Int32) (μ : zI) (ν : zJ), f_M_wordHere_97 q r4 n x1 x2 x3 μ ν = some out → zFr (fun _ => False) (fun _ => False) μ ν out.2.1 out.2.2 := by
  intro n
  induction n with
  | zero => intro x1 x2 x3 μ ν hF; cases hF
  | succ n ih =>
    intro x1 x2 x3 μ ν hF
    dsimp only [f_M_wordHere_97] at hF
    have g0 := zFr.rf (fun _ => False) (fun _ => False) μ ν
    obtain ⟨hy1, hF⟩ := zh_if hF
    obtain ⟨hy2, hF⟩ := zh_if hF
    rcases Decidable.em ((zSc 11 x2) = 32) with cy3 | cy3
    · replace hF := zh_t cy3 hF
      exact zFr.tr g0 (hr4 _ _ _ _ hF) (fun _ h => h) (fun _ h => h)
    · replace hF := zh_f cy3 hF
      exact zFr.tr g0 (ih _ _ _ _ _ hF) (fun _ h => h) (fun _ h => h)
theorem g_M_wordHere_69 {q : Nat} {r4 : Int32 → Int32 → zI → zJ → Option (Int32 × zI × zJ)} {x1 : Int32} {x2 : Int32} {x3 : Int32} {μ : zI} {ν : zJ} {out : (Int32 × zI × zJ)} (hr4 : ∀ (x1 : Int32) (x2 : Int32) (μ : zI) (ν : zJ), r4 x1 x2 μ ν = some out → zFr (fun _ => False) (fun _ => False) μ ν out.2.1 out.2.2) (hF : e_M_wordHere_69 q r4 x1 x2 x3 μ ν = some out) : zFr (fun _ => False) (fun _ => False) μ ν out.2.1 out.2.2 := by
  unfold e_M_wordHere_69 at hF
  have g0 := zFr.rf (fun _ => False) (fun _ => False) μ ν
  obtain ⟨hy1, hF⟩ := zh_if hF
  obtain ⟨hy2, hF⟩ := zh_if hF
  rcases (Decidable.em ((zSc 11 (x2 + x3)) = 32)).symm with cy3 | cy3
  · replace hF := zh_f cy3 hF
    exact zFr.tr g0 (g_M_wordHere_97 hr4 zFuel _ _ _ _ _ hF) (fun _ h => h) (fun _ h => h)
  · replace hF := zh_t cy3 hF
    rcases (Decidable.em (((μ q 16) + x3) = (μ q 15))).symm with cy4 | cy4
    · replace hF := zh_f cy4 hF
      exact zFr.tr g0 (g_M_wordHere_97 hr4 zFuel _ _ _ _ _ hF) (fun _ h => h) (fun _ h => h)
    · replace hF := zh_t cy4 hF
      cases hF
      exact g0
theorem g_M_wordHere_15 {q : Nat} {r4 : Int32 → Int32 → zI → zJ → Option (Int32 × zI × zJ)} {out : (Int32 × zI × zJ)} (hr4 : ∀ (x1 : Int32) (x2 : Int32) (μ : zI) (ν : zJ), r4 x1 x2 μ ν = some out → zFr (fun _ => False) (fun _ => False) μ ν out.2.1 out.2.2) : ∀ (n : Nat) (x1 : Int32) (x2 : Int32) (x3 : Int32) (μ : zI) (ν : zJ), f_M_wordHere_15 q r4 n x1 x2 x3 μ ν = some out → zFr (fun _ => False) (fun _ => False) μ ν out.2.1 out.2.2 := by
  intro n
  induction n with
  | zero => intro x1 x2 x3 μ ν hF; cases hF
  | succ n ih =>
    intro x1 x2 x3 μ ν hF
    dsimp only [f_M_wordHere_15] at hF
    have g0 := zFr.rf (fun _ => False) (fun _ => False) μ ν
    obtain ⟨hy1, hF⟩ := zh_if hF
    obtain ⟨hy2, hF⟩ := zh_if hF
    rcases Decidable.em ((zSc 11 (x2 + x3)) = 32) with cy3 | cy3
    · replace hF := zh_t cy3 hF
      exact zFr.tr g0 (g_M_wordHere_69 hr4 hF) (fun _ h => h) (fun _ h => h)
    · replace hF := zh_f cy3 hF
      rcases Decidable.em ((μ q 15) ≤ ((μ q 16) + x3)) with cy4 | cy4
      · replace hF := zh_t cy4 hF
        exact zFr.tr g0 (g_M_wordHere_69 hr4 hF) (fun _ h => h) (fun _ h => h)
      · replace hF := zh_f cy4 hF
        obtain ⟨hy5, hF⟩ := zh_if hF
        obtain ⟨hy6, hF⟩ := zh_if hF
        obtain ⟨hy7, hF⟩ := zh_if hF
        rcases (Decidable.em ((μ (q + 1) (Int32.toNatClampNeg ((μ q 16) + x3))) = (zSc 11 (x2 + x3)))).symm with cy8 | cy8
        · replace hF := zh_f cy8 hF
          exact zFr.tr g0 (g_M_wordHere_69 hr4 hF) (fun _ h => h) (fun _ h => h)
        · replace hF := zh_t cy8 hF
          exact zFr.tr g0 (ih _ _ _ _ _ hF) (fun _ h => h) (fun _ h => h)
theorem g_M_wordHere_4 {q : Nat}  {out : (Int32 × zI × zJ)} : ∀ (n : Nat) (x1 : Int32) (x2 : Int32) (μ : zI) (ν : zJ), f_M_wordHere_4 q  n x1 x2 μ ν = some out → zFr (fun _ => False) (fun _ => False) μ ν out.2.1 out.2.2 := by
  intro n
  induction n with
  | zero => intro x1 x2 μ ν hF; cases hF
  | succ n ih =>
    intro x1 x2 μ ν hF
    dsimp only [f_M_wordHere_4] at hF
    have g0 := zFr.rf (fun _ => False) (fun _ => False) μ ν
    obtain ⟨hy1, hF⟩ := zh_if hF
    rcases Decidable.em ((nI (zSl 11)) ≤ x2) with cy2 | cy2
    · replace hF := zh_t cy2 hF
      cases hF
      exact g0
    · replace hF := zh_f cy2 hF
      exact zFr.tr g0 (g_M_wordHere_15 (fun a0 a1 a2 a3 => ih a0 a1 a2 a3) zFuel _ _ _ _ _ hF) (fun _ h => h) (fun _ h => h)
theorem g_M_wordHere_0 {q : Nat}   {μ : zI} {ν : zJ} {out : (Int32 × zI × zJ)} (hF : e_M_wordHere_0 q   μ ν = some out) : zFr (fun _ => False) (fun _ => False) μ ν out.2.1 out.2.2 := by
  unfold e_M_wordHere_0 at hF
  have g0 := zFr.rf (fun _ => False) (fun _ => False) μ ν
  exact zFr.tr g0 (g_M_wordHere_4  zFuel _ _ _ _ hF) (fun _ h => h) (fun _ h => h)
theorem fr_M_wordHere {q : Nat} {μ : zI} {ν : zJ} {out : (Int32 × zI × zJ)} (hE : E_M_wordHere q μ ν = some out) : zFr (fun _ => False) (fun _ => False) μ ν out.2.1 out.2.2 := (g_M_wordHere_0 hE)
theorem g_M_token_18 {q : Nat} {r0 : zI → zJ → Option (zI × zJ)}  {μ : zI} {ν : zJ} {out : (zI × zJ)} (hr0 : ∀  (μ : zI) (ν : zJ), r0  μ ν = some out → zFr (fun r => (q ≤ r ∧ r < q + 12)) (fun _ => False) μ ν out.1 out.2) (hF : e_M_token_18 q r0  μ ν = some out) : zFr (fun r => (q ≤ r ∧ r < q + 12)) (fun _ => False) μ ν out.1 out.2 := by
  unfold e_M_token_18 at hF
  have g0 := zFr.rf (fun r => (q ≤ r ∧ r < q + 12)) (fun _ => False) μ ν
  obtain ⟨μy1, hy1, hF⟩ := zh_let hF
  have gy1 := zFr.put g0 (r := q) (by first | omega | (dsimp only; omega)) hy1
  exact zFr.tr gy1 (hr0  _ _ hF) (fun _ h => h) (fun _ h => h)
theorem g_M_token_215 {q : Nat}  {x1 : Int32} {μ : zI} {ν : zJ} {out : (zI × zJ)} (hF : e_M_token_215 q  x1 μ ν = some out) : zFr (fun r => (q ≤ r ∧ r < q + 12)) (fun _ => False) μ ν out.1 out.2 := by
  unfold e_M_token_215 at hF
  have g0 := zFr.rf (fun r => (q ≤ r ∧ r < q + 12)) (fun _ => False) μ ν
  cases hF
  exact g0
theorem g_M_token_109 {q : Nat}  {x1 : Int32} {s1 : Int32} {μ : zI} {ν : zJ} {out : (zI × zJ)} (hF : e_M_token_109 q  x1 s1 μ ν = some out) : zFr (fun r => (q ≤ r ∧ r < q + 12)) (fun _ => False) μ ν out.1 out.2 := by
  unfold e_M_token_109 at hF
  have g0 := zFr.rf (fun r => (q ≤ r ∧ r < q + 12)) (fun _ => False) μ ν
  obtain ⟨μy1, hy1, hF⟩ := zh_let hF
  have gy1 := zFr.put g0 (r := q) (by first | omega | (dsimp only; omega)) hy1
  exact zFr.tr gy1 (g_M_token_215  hF) (fun _ h => h) (fun _ h => h)
theorem g_M_token_64 {q : Nat}  {out : (zI × zJ)} : ∀ (n : Nat) (x1 : Int32) (μ : zI) (ν : zJ), f_M_token_64 q  n x1 μ ν = some out → zFr (fun r => (q ≤ r ∧ r < q + 12)) (fun _ => False) μ ν out.1 out.2 := by
  intro n
  induction n with
  | zero => intro x1 μ ν hF; cases hF
  | succ n ih =>
    intro x1 μ ν hF
    dsimp only [f_M_token_64] at hF
    have g0 := zFr.rf (fun r => (q ≤ r ∧ r < q + 12)) (fun _ => False) μ ν
    obtain ⟨ty1, hty1, hF⟩ := zh_bind hF
    have gty1 := zFr.tr g0 (fr_M_here hty1) (fun r h => by first | exact h | exact h.elim | omega | (revert h; dsimp only; omega)) (fun r h => by first | exact h | exact h.elim | omega | (revert h; dsimp only; omega))
    obtain ⟨ty2, hty2, hF⟩ := zh_bind hF
    have gty2 := zFr.tr gty1 (fr_M_isSmall hty2) (fun r h => by first | exact h | exact h.elim | omega | (revert h; dsimp only; omega)) (fun r h => by first | exact h | exact h.elim | omega | (revert h; dsimp only; omega))
    rcases Decidable.em (ty2.1 = 0) with cy3 | cy3
    · replace hF := zh_t cy3 hF
      obtain ⟨ty4, hty4, hF⟩ := zh_bind hF
      have gty4 := zFr.tr gty2 (fr_M_wordHere hty4) (fun r h => by first | exact h | exact h.elim | omega | (revert h; dsimp only; omega)) (fun r h => by first | exact h | exact h.elim | omega | (revert h; dsimp only; omega))
      obtain ⟨μy5, hy5, hF⟩ := zh_let hF
      have gy5 := zFr.put gty4 (r := q) (by first | omega | (dsimp only; omega)) hy5
      rcases Decidable.em ((μy5 q 18) = (-1)) with cy6 | cy6
      · replace hF := zh_t cy6 hF
        exact zFr.tr gy5 (g_M_token_109  hF) (fun _ h => h) (fun _ h => h)
      · replace hF := zh_f cy6 hF
        exact zFr.tr gy5 (g_M_token_109  hF) (fun _ h => h) (fun _ h => h)
    · replace hF := zh_f cy3 hF
      obtain ⟨μy7, hy7, hF⟩ := zh_let hF
      have gy7 := zFr.put gty2 (r := q) (by first | omega | (dsimp only; omega)) hy7
      exact zFr.tr gy7 (ih _ _ _ hF) (fun _ h => h) (fun _ h => h)
theorem g_M_token_174 {q : Nat} {r132 : Int32 → zI → zJ → Option (zI × zJ)} {x1 : Int32} {s1 : Int32} {μ : zI} {ν : zJ} {out : (zI × zJ)} (hr132 : ∀ (x1 : Int32) (μ : zI) (ν : zJ), r132 x1 μ ν = some out → zFr (fun r => (q ≤ r ∧ r < q + 12)) (fun _ => False) μ ν out.1 out.2) (hF : e_M_token_174 q r132 x1 s1 μ ν = some out) : zFr (fun r => (q ≤ r ∧ r < q + 12)) (fun _ => False) μ ν out.1 out.2 := by
  unfold e_M_token_174 at hF
  have g0 := zFr.rf (fun r => (q ≤ r ∧ r < q + 12)) (fun _ => False) μ ν
  obtain ⟨μy1, hy1, hF⟩ := zh_let hF
  have gy1 := zFr.put g0 (r := q) (by first | omega | (dsimp only; omega)) hy1
  obtain ⟨μy2, hy2, hF⟩ := zh_let hF
  have gy2 := zFr.put gy1 (r := q) (by first | omega | (dsimp only; omega)) hy2
  exact zFr.tr gy2 (hr132 _ _ _ hF) (fun _ h => h) (fun _ h => h)
theorem g_M_token_132 {q : Nat}  {out : (zI × zJ)} : ∀ (n : Nat) (x1 : Int32) (μ : zI) (ν : zJ), f_M_token_132 q  n x1 μ ν = some out → zFr (fun r => (q ≤ r ∧ r < q + 12)) (fun _ => False) μ ν out.1 out.2 := by
  intro n
  induction n with
  | zero => intro x1 μ ν hF; cases hF
  | succ n ih =>
    intro x1 μ ν hF
    dsimp only [f_M_token_132] at hF
    have g0 := zFr.rf (fun r => (q ≤ r ∧ r < q + 12)) (fun _ => False) μ ν
    obtain ⟨ty1, hty1, hF⟩ := zh_bind hF
    have gty1 := zFr.tr g0 (fr_M_here hty1) (fun r h => by first | exact h | exact h.elim | omega | (revert h; dsimp only; omega)) (fun r h => by first | exact h | exact h.elim | omega | (revert h; dsimp only; omega))
    obtain ⟨ty2, hty2, hF⟩ := zh_bind hF
    have gty2 := zFr.tr gty1 (fr_M_isDigit hty2) (fun r h => by first | exact h | exact h.elim | omega | (revert h; dsimp only; omega)) (fun r h => by first | exact h | exact h.elim | omega | (revert h; dsimp only; omega))
    rcases Decidable.em (ty2.1 = 0) with cy3 | cy3
    · replace hF := zh_t cy3 hF
      exact zFr.tr gty2 (g_M_token_215  hF) (fun _ h => h) (fun _ h => h)
    · replace hF := zh_f cy3 hF
      rcases Decidable.em ((ty2.2.1 q 18) ≤ 99999) with cy4 | cy4
      · replace hF := zh_t cy4 hF
        obtain ⟨ty5, hty5, hF⟩ := zh_bind hF
        have gty5 := zFr.tr gty2 (fr_M_here hty5) (fun r h => by first | exact h | exact h.elim | omega | (revert h; dsimp only; omega)) (fun r h => by first | exact h | exact h.elim | omega | (revert h; dsimp only; omega))
        exact zFr.tr gty5 (g_M_token_174 (fun a0 a1 a2 => ih a0 a1 a2) hF) (fun _ h => h) (fun _ h => h)
      · replace hF := zh_f cy4 hF
        exact zFr.tr gty2 (g_M_token_174 (fun a0 a1 a2 => ih a0 a1 a2) hF) (fun _ h => h) (fun _ h => h)
theorem g_M_token_202 {q : Nat}  {x1 : Int32} {s1 : Int32} {μ : zI} {ν : zJ} {out : (zI × zJ)} (hF : e_M_token_202 q  x1 s1 μ ν = some out) : zFr (fun r => (q ≤ r ∧ r < q + 12)) (fun _ => False) μ ν out.1 out.2 := by
  unfold e_M_token_202 at hF
  have g0 := zFr.rf (fun r => (q ≤ r ∧ r < q + 12)) (fun _ => False) μ ν
  obtain ⟨μy1, hy1, hF⟩ := zh_let hF
  have gy1 := zFr.put g0 (r := q) (by first | omega | (dsimp only; omega)) hy1
  obtain ⟨μy2, hy2, hF⟩ := zh_let hF
  have gy2 := zFr.put gy1 (r := q) (by first | omega | (dsimp only; omega)) hy2
  exact zFr.tr gy2 (g_M_token_215  hF) (fun _ h => h) (fun _ h => h)
theorem g_M_token_0 {q : Nat}  {out : (zI × zJ)} : ∀ (n : Nat)  (μ : zI) (ν : zJ), f_M_token_0 q  n  μ ν = some out → zFr (fun r => (q ≤ r ∧ r < q + 12)) (fun _ => False) μ ν out.1 out.2 := by
  intro n
  induction n with
  | zero => intro  μ ν hF; cases hF
  | succ n ih =>
    intro  μ ν hF
    dsimp only [f_M_token_0] at hF
    have g0 := zFr.rf (fun r => (q ≤ r ∧ r < q + 12)) (fun _ => False) μ ν
    obtain ⟨ty1, hty1, hF⟩ := zh_bind hF
    have gty1 := zFr.tr g0 (fr_M_here hty1) (fun r h => by first | exact h | exact h.elim | omega | (revert h; dsimp only; omega)) (fun r h => by first | exact h | exact h.elim | omega | (revert h; dsimp only; omega))
    rcases Decidable.em (ty1.1 = 10) with cy2 | cy2
    · replace hF := zh_t cy2 hF
      exact zFr.tr gty1 (g_M_token_18 (fun a0 a1 => ih a0 a1) hF) (fun _ h => h) (fun _ h => h)
    · replace hF := zh_f cy2 hF
      obtain ⟨ty3, hty3, hF⟩ := zh_bind hF
      have gty3 := zFr.tr gty1 (fr_M_here hty3) (fun r h => by first | exact h | exact h.elim | omega | (revert h; dsimp only; omega)) (fun r h => by first | exact h | exact h.elim | omega | (revert h; dsimp only; omega))
      rcases (Decidable.em (ty3.1 = 32)).symm with cy4 | cy4
      · replace hF := zh_f cy4 hF
        obtain ⟨μy5, hy5, hF⟩ := zh_let hF
        have gy5 := zFr.put gty3 (r := q) (by first | omega | (dsimp only; omega)) hy5
        obtain ⟨ty6, hty6, hF⟩ := zh_bind hF
        have gty6 := zFr.tr gy5 (fr_M_here hty6) (fun r h => by first | exact h | exact h.elim | omega | (revert h; dsimp only; omega)) (fun r h => by first | exact h | exact h.elim | omega | (revert h; dsimp only; omega))
        obtain ⟨y7, hy7, hF⟩ := zh_let hF
        rcases (Decidable.em (y7 = (-1))).symm with cy8 | cy8
        · replace hF := zh_f cy8 hF
          obtain ⟨ty9, hty9, hF⟩ := zh_bind hF
          have gty9 := zFr.tr gty6 (fr_M_isSmall hty9) (fun r h => by first | exact h | exact h.elim | omega | (revert h; dsimp only; omega)) (fun r h => by first | exact h | exact h.elim | omega | (revert h; dsimp only; omega))
          rcases Decidable.em (ty9.1 = 0) with cy10 | cy10
          · replace hF := zh_t cy10 hF
            obtain ⟨ty11, hty11, hF⟩ := zh_bind hF
            have gty11 := zFr.tr gty9 (fr_M_isDigit hty11) (fun r h => by first | exact h | exact h.elim | omega | (revert h; dsimp only; omega)) (fun r h => by first | exact h | exact h.elim | omega | (revert h; dsimp only; omega))
            rcases Decidable.em (ty11.1 = 0) with cy12 | cy12
            · replace hF := zh_t cy12 hF
              rcases (Decidable.em (y7 = 59)).symm with cy13 | cy13
              · replace hF := zh_f cy13 hF
                exact zFr.tr gty11 (g_M_token_202  hF) (fun _ h => h) (fun _ h => h)
              · replace hF := zh_t cy13 hF
                exact zFr.tr gty11 (g_M_token_202  hF) (fun _ h => h) (fun _ h => h)
            · replace hF := zh_f cy12 hF
              obtain ⟨μy14, hy14, hF⟩ := zh_let hF
              have gy14 := zFr.put gty11 (r := q) (by first | omega | (dsimp only; omega)) hy14
              obtain ⟨μy15, hy15, hF⟩ := zh_let hF
              have gy15 := zFr.put gy14 (r := q) (by first | omega | (dsimp only; omega)) hy15
              exact zFr.tr gy15 (g_M_token_132  zFuel _ _ _ hF) (fun _ h => h) (fun _ h => h)
          · replace hF := zh_f cy10 hF
            exact zFr.tr gty9 (g_M_token_64  zFuel _ _ _ hF) (fun _ h => h) (fun _ h => h)
        · replace hF := zh_t cy8 hF
          obtain ⟨μy16, hy16, hF⟩ := zh_let hF
          have gy16 := zFr.put gty6 (r := q) (by first | omega | (dsimp only; omega)) hy16
          exact zFr.tr gy16 (g_M_token_215  hF) (fun _ h => h) (fun _ h => h)
      · replace hF := zh_t cy4 hF
        exact zFr.tr gty3 (g_M_token_18 (fun a0 a1 => ih a0 a1) hF) (fun _ h => h) (fun _ h => h)
theorem fr_M_token {q : Nat} {μ : zI} {ν : zJ} {out : (zI × zJ)} (hE : E_M_token q μ ν = some out) : zFr (fun r => (q ≤ r ∧ r < q + 12)) (fun _ => False) μ ν out.1 out.2 := (g_M_token_0 zFuel _ _ hE)
theorem g_M_wrong_0 {q : Nat}  {x1 : Int32} {μ : zI} {ν : zJ} {out : (zI × zJ)} (hF : e_M_wrong_0 q  x1 μ ν = some out) : zFr (fun r => (q ≤ r ∧ r < q + 12)) (fun _ => False) μ ν out.1 out.2 := by
  unfold e_M_wrong_0 at hF
  have g0 := zFr.rf (fun r => (q ≤ r ∧ r < q + 12)) (fun _ => False) μ ν
  rcases Decidable.em ((μ q 19) = 0) with cy1 | cy1
  · replace hF := zh_t cy1 hF
    obtain ⟨μy2, hy2, hF⟩ := zh_let hF
    have gy2 := zFr.put g0 (r := q) (by first | omega | (dsimp only; omega)) hy2
    obtain ⟨μy3, hy3, hF⟩ := zh_let hF
    have gy3 := zFr.put gy2 (r := q) (by first | omega | (dsimp only; omega)) hy3
    cases hF
    exact gy3
  · replace hF := zh_f cy1 hF
    cases hF
    exact g0
theorem fr_M_wrong {q : Nat} {x1 : Int32} {μ : zI} {ν : zJ} {out : (zI × zJ)} (hE : E_M_wrong q x1 μ ν = some out) : zFr (fun r => (q ≤ r ∧ r < q + 12)) (fun _ => False) μ ν out.1 out.2 := (g_M_wrong_0 hE)
theorem g_M_goOn_11 {q : Nat}   {μ : zI} {ν : zJ} {out : (zI × zJ)} (hF : e_M_goOn_11 q   μ ν = some out) : zFr (fun r => (q ≤ r ∧ r < q + 12)) (fun _ => False) μ ν out.1 out.2 := by
  unfold e_M_goOn_11 at hF
  have g0 := zFr.rf (fun r => (q ≤ r ∧ r < q + 12)) (fun _ => False) μ ν
  cases hF
  exact g0
theorem g_M_goOn_0 {q : Nat}   {μ : zI} {ν : zJ} {out : (zI × zJ)} (hF : e_M_goOn_0 q   μ ν = some out) : zFr (fun r => (q ≤ r ∧ r < q + 12)) (fun _ => False) μ ν out.1 out.2 := by
  unfold e_M_goOn_0 at hF
  have g0 := zFr.rf (fun r => (q ≤ r ∧ r < q + 12)) (fun _ => False) μ ν
  rcases (Decidable.em ((μ q 19) = 0)).symm with cy1 | cy1
  · replace hF := zh_f cy1 hF
    exact zFr.tr g0 (g_M_goOn_11  hF) (fun _ h => h) (fun _ h => h)
  · replace hF := zh_t cy1 hF
    obtain ⟨ty2, hty2, hF⟩ := zh_bind hF
    have gty2 := zFr.tr g0 (fr_M_token hty2) (fun r h => by first | exact h | exact h.elim | omega | (revert h; dsimp only; omega)) (fun r h => by first | exact h | exact h.elim | omega | (revert h; dsimp only; omega))
    exact zFr.tr gty2 (g_M_goOn_11  hF) (fun _ h => h) (fun _ h => h)
theorem fr_M_goOn {q : Nat} {μ : zI} {ν : zJ} {out : (zI × zJ)} (hE : E_M_goOn q μ ν = some out) : zFr (fun r => (q ≤ r ∧ r < q + 12)) (fun _ => False) μ ν out.1 out.2 := (g_M_goOn_0 hE)
theorem g_M_numeral_61 {q : Nat}  {x1 : Int32} {x2 : Int32} {s0 : Int32} {μ : zI} {ν : zJ} {out : (Int32 × zI × zJ)} (hF : e_M_numeral_61 q  x1 x2 s0 μ ν = some out) : zFr (fun r => (q ≤ r ∧ r < q + 12)) (fun _ => False) μ ν out.2.1 out.2.2 := by
  unfold e_M_numeral_61 at hF
  have g0 := zFr.rf (fun r => (q ≤ r ∧ r < q + 12)) (fun _ => False) μ ν
  obtain ⟨ty1, hty1, hF⟩ := zh_bind hF
  have gty1 := zFr.tr g0 (fr_M_goOn hty1) (fun r h => by first | exact h | exact h.elim | omega | (revert h; dsimp only; omega)) (fun r h => by first | exact h | exact h.elim | omega | (revert h; dsimp only; omega))
  cases hF
  exact gty1
theorem g_M_numeral_46 {q : Nat}  {x1 : Int32} {x2 : Int32} {μ : zI} {ν : zJ} {out : (Int32 × zI × zJ)} (hF : e_M_numeral_46 q  x1 x2 μ ν = some out) : zFr (fun r => (q ≤ r ∧ r < q + 12)) (fun _ => False) μ ν out.2.1 out.2.2 := by
  unfold e_M_numeral_46 at hF
  have g0 := zFr.rf (fun r => (q ≤ r ∧ r < q + 12)) (fun _ => False) μ ν
  rcases (Decidable.em ((μ q 19) = 0)).symm with cy1 | cy1
  · replace hF := zh_f cy1 hF
    exact zFr.tr g0 (g_M_numeral_61  hF) (fun _ h => h) (fun _ h => h)
  · replace hF := zh_t cy1 hF
    exact zFr.tr g0 (g_M_numeral_61  hF) (fun _ h => h) (fun _ h => h)
theorem g_M_numeral_41 {q : Nat}  {x1 : Int32} {x2 : Int32} {μ : zI} {ν : zJ} {out : (Int32 × zI × zJ)} (hF : e_M_numeral_41 q  x1 x2 μ ν = some out) : zFr (fun r => (q ≤ r ∧ r < q + 12)) (fun _ => False) μ ν out.2.1 out.2.2 := by
  unfold e_M_numeral_41 at hF
  have g0 := zFr.rf (fun r => (q ≤ r ∧ r < q + 12)) (fun _ => False) μ ν
  obtain ⟨ty1, hty1, hF⟩ := zh_bind hF
  have gty1 := zFr.tr g0 (fr_M_wrong hty1) (fun r h => by first | exact h | exact h.elim | omega | (revert h; dsimp only; omega)) (fun r h => by first | exact h | exact h.elim | omega | (revert h; dsimp only; omega))
  exact zFr.tr gty1 (g_M_numeral_46  hF) (fun _ h => h) (fun _ h => h)
theorem g_M_numeral_0 {q : Nat}  {x1 : Int32} {x2 : Int32} {μ : zI} {ν : zJ} {out : (Int32 × zI × zJ)} (hF : e_M_numeral_0 q  x1 x2 μ ν = some out) : zFr (fun r => (q ≤ r ∧ r < q + 12)) (fun _ => False) μ ν out.2.1 out.2.2 := by
  unfold e_M_numeral_0 at hF
  have g0 := zFr.rf (fun r => (q ≤ r ∧ r < q + 12)) (fun _ => False) μ ν
  rcases Decidable.em ((μ q 19) = 0) with cy1 | cy1
  · replace hF := zh_t cy1 hF
    rcases Decidable.em ((μ q 17) = 1) with cy2 | cy2
    · replace hF := zh_t cy2 hF
      rcases Decidable.em ((μ q 18) < x1) with cy3 | cy3
      · replace hF := zh_t cy3 hF
        exact zFr.tr g0 (g_M_numeral_41  hF) (fun _ h => h) (fun _ h => h)
      · replace hF := zh_f cy3 hF
        rcases Decidable.em ((μ q 18) ≤ x2) with cy4 | cy4
        · replace hF := zh_t cy4 hF
          exact zFr.tr g0 (g_M_numeral_46  hF) (fun _ h => h) (fun _ h => h)
        · replace hF := zh_f cy4 hF
          exact zFr.tr g0 (g_M_numeral_41  hF) (fun _ h => h) (fun _ h => h)
    · replace hF := zh_f cy2 hF
      obtain ⟨ty5, hty5, hF⟩ := zh_bind hF
      have gty5 := zFr.tr g0 (fr_M_wrong hty5) (fun r h => by first | exact h | exact h.elim | omega | (revert h; dsimp only; omega)) (fun r h => by first | exact h | exact h.elim | omega | (revert h; dsimp only; omega))
      exact zFr.tr gty5 (g_M_numeral_46  hF) (fun _ h => h) (fun _ h => h)
  · replace hF := zh_f cy1 hF
    cases hF
    exact g0
theorem fr_M_numeral {q : Nat} {x1 : Int32} {x2 : Int32} {μ : zI} {ν : zJ} {out : (Int32 × zI × zJ)} (hE : E_M_numeral q x1 x2 μ ν = some out) : zFr (fun r => (q ≤ r ∧ r < q + 12)) (fun _ => False) μ ν out.2.1 out.2.2 := (g_M_numeral_0 hE)
theorem g_M_leastOf_0  {x0 : Int32} {μ : zI} {ν : zJ} {out : (Int32 × zI × zJ)} (hF : e_M_leastOf_0   x0 μ ν = some out) : zFr (fun _ => False) (fun _ => False) μ ν out.2.1 out.2.2 := by
  unfold e_M_leastOf_0 at hF
  have g0 := zFr.rf (fun _ => False) (fun _ => False) μ ν
  by_cases cy1 : x0 = 0
  · replace hF := zh_t cy1 hF
    cases hF
    exact g0
  · replace hF := zh_f cy1 hF
    by_cases cy2 : x0 = 1
    · replace hF := zh_t cy2 hF
      cases hF
      exact g0
    · replace hF := zh_f cy2 hF
      by_cases cy3 : x0 = 2
      · replace hF := zh_t cy3 hF
        cases hF
        exact g0
      · replace hF := zh_f cy3 hF
        by_cases cy4 : x0 = 3
        · replace hF := zh_t cy4 hF
          cases hF
          exact g0
        · replace hF := zh_f cy4 hF
          by_cases cy5 : x0 = 4
          · replace hF := zh_t cy5 hF
            cases hF
            exact g0
          · replace hF := zh_f cy5 hF
            by_cases cy6 : x0 = 5
            · replace hF := zh_t cy6 hF
              cases hF
              exact g0
            · replace hF := zh_f cy6 hF
              by_cases cy7 : x0 = 6
              · replace hF := zh_t cy7 hF
                cases hF
                exact g0
              · replace hF := zh_f cy7 hF
                by_cases cy8 : x0 = 7
                · replace hF := zh_t cy8 hF
                  cases hF
                  exact g0
                · replace hF := zh_f cy8 hF
                  by_cases cy9 : x0 = 8
                  · replace hF := zh_t cy9 hF
                    cases hF
                    exact g0
                  · replace hF := zh_f cy9 hF
                    by_cases cy10 : x0 = 9
                    · replace hF := zh_t cy10 hF
                      cases hF
                      exact g0
                    · replace hF := zh_f cy10 hF
                      by_cases cy11 : x0 = 10
                      · replace hF := zh_t cy11 hF
                        cases hF
                        exact g0
                      · replace hF := zh_f cy11 hF
                        by_cases cy12 : x0 = 11
                        · replace hF := zh_t cy12 hF
                          cases hF
                          exact g0
                        · replace hF := zh_f cy12 hF
                          by_cases cy13 : x0 = 12
                          · replace hF := zh_t cy13 hF
                            cases hF
                            exact g0
                          · replace hF := zh_f cy13 hF
                            by_cases cy14 : x0 = 13
                            · replace hF := zh_t cy14 hF
                              cases hF
                              exact g0
                            · replace hF := zh_f cy14 hF
                              by_cases cy15 : x0 = 14
                              · replace hF := zh_t cy15 hF
                                cases hF
                                exact g0
                              · replace hF := zh_f cy15 hF
                                by_cases cy16 : x0 = 15
                                · replace hF := zh_t cy16 hF
                                  cases hF
                                  exact g0
                                · replace hF := zh_f cy16 hF
                                  by_cases cy17 : x0 = 16
                                  · replace hF := zh_t cy17 hF
                                    cases hF
                                    exact g0
                                  · replace hF := zh_f cy17 hF
                                    by_cases cy18 : x0 = 17
                                    · replace hF := zh_t cy18 hF
                                      cases hF
                                      exact g0
                                    · replace hF := zh_f cy18 hF
                                      by_cases cy19 : x0 = 18
                                      · replace hF := zh_t cy19 hF
                                        cases hF
                                        exact g0
                                      · replace hF := zh_f cy19 hF
                                        cases hF
                                        exact g0
theorem fr_M_leastOf {x0 : Int32} {μ : zI} {ν : zJ} {out : (Int32 × zI × zJ)} (hE : E_M_leastOf x0 μ ν = some out) : zFr (fun _ => False) (fun _ => False) μ ν out.2.1 out.2.2 := (g_M_leastOf_0 hE)
theorem g_M_mostOf_0  {x0 : Int32} {μ : zI} {ν : zJ} {out : (Int32 × zI × zJ)} (hF : e_M_mostOf_0   x0 μ ν = some out) : zFr (fun _ => False) (fun _ => False) μ ν out.2.1 out.2.2 := by
  unfold e_M_mostOf_0 at hF
  have g0 := zFr.rf (fun _ => False) (fun _ => False) μ ν
  by_cases cy1 : x0 = 0
  · replace hF := zh_t cy1 hF
    cases hF
    exact g0
  · replace hF := zh_f cy1 hF
    by_cases cy2 : x0 = 1
    · replace hF := zh_t cy2 hF
      cases hF
      exact g0
    · replace hF := zh_f cy2 hF
      by_cases cy3 : x0 = 2
      · replace hF := zh_t cy3 hF
        cases hF
        exact g0
      · replace hF := zh_f cy3 hF
        by_cases cy4 : x0 = 3
        · replace hF := zh_t cy4 hF
          cases hF
          exact g0
        · replace hF := zh_f cy4 hF
          by_cases cy5 : x0 = 4
          · replace hF := zh_t cy5 hF
            cases hF
            exact g0
          · replace hF := zh_f cy5 hF
            by_cases cy6 : x0 = 5
            · replace hF := zh_t cy6 hF
              cases hF
              exact g0
            · replace hF := zh_f cy6 hF
              by_cases cy7 : x0 = 6
              · replace hF := zh_t cy7 hF
                cases hF
                exact g0
              · replace hF := zh_f cy7 hF
                by_cases cy8 : x0 = 7
                · replace hF := zh_t cy8 hF
                  cases hF
                  exact g0
                · replace hF := zh_f cy8 hF
                  by_cases cy9 : x0 = 8
                  · replace hF := zh_t cy9 hF
                    cases hF
                    exact g0
                  · replace hF := zh_f cy9 hF
                    by_cases cy10 : x0 = 9
                    · replace hF := zh_t cy10 hF
                      cases hF
                      exact g0
                    · replace hF := zh_f cy10 hF
                      by_cases cy11 : x0 = 10
                      · replace hF := zh_t cy11 hF
                        cases hF
                        exact g0
                      · replace hF := zh_f cy11 hF
                        by_cases cy12 : x0 = 11
                        · replace hF := zh_t cy12 hF
                          cases hF
                          exact g0
                        · replace hF := zh_f cy12 hF
                          by_cases cy13 : x0 = 12
                          · replace hF := zh_t cy13 hF
                            cases hF
                            exact g0
                          · replace hF := zh_f cy13 hF
                            by_cases cy14 : x0 = 13
                            · replace hF := zh_t cy14 hF
                              cases hF
                              exact g0
                            · replace hF := zh_f cy14 hF
                              by_cases cy15 : x0 = 14
                              · replace hF := zh_t cy15 hF
                                cases hF
                                exact g0
                              · replace hF := zh_f cy15 hF
                                by_cases cy16 : x0 = 15
                                · replace hF := zh_t cy16 hF
                                  cases hF
                                  exact g0
                                · replace hF := zh_f cy16 hF
                                  by_cases cy17 : x0 = 16
                                  · replace hF := zh_t cy17 hF
                                    cases hF
                                    exact g0
                                  · replace hF := zh_f cy17 hF
                                    by_cases cy18 : x0 = 17
                                    · replace hF := zh_t cy18 hF
                                      cases hF
                                      exact g0
                                    · replace hF := zh_f cy18 hF
                                      by_cases cy19 : x0 = 18
                                      · replace hF := zh_t cy19 hF
                                        cases hF
                                        exact g0
                                      · replace hF := zh_f cy19 hF
                                        cases hF
                                        exact g0
theorem fr_M_mostOf {x0 : Int32} {μ : zI} {ν : zJ} {out : (Int32 × zI × zJ)} (hE : E_M_mostOf x0 μ ν = some out) : zFr (fun _ => False) (fun _ => False) μ ν out.2.1 out.2.2 := (g_M_mostOf_0 hE)
theorem g_M_tells_2 {q : Nat}  {out : (zI × zJ)} : ∀ (n : Nat) (x1 : Int32) (x2 : Int32) (x3 : Int32) (μ : zI) (ν : zJ), f_M_tells_2 q  n x1 x2 x3 μ ν = some out → zFr (fun r => (q ≤ r ∧ r < q + 12)) (fun _ => False) μ ν out.1 out.2 := by
  intro n
  induction n with
  | zero => intro x1 x2 x3 μ ν hF; cases hF
  | succ n ih =>
    intro x1 x2 x3 μ ν hF
    dsimp only [f_M_tells_2] at hF
    have g0 := zFr.rf (fun r => (q ≤ r ∧ r < q + 12)) (fun _ => False) μ ν
    rcases Decidable.em (x2 < x3) with cy1 | cy1
    · replace hF := zh_t cy1 hF
      cases hF
      exact g0
    · replace hF := zh_f cy1 hF
      obtain ⟨ty2, hty2, hF⟩ := zh_bind hF
      have gty2 := zFr.tr g0 (fr_M_leastOf hty2) (fun r h => by first | exact h | exact h.elim | omega | (revert h; dsimp only; omega)) (fun r h => by first | exact h | exact h.elim | omega | (revert h; dsimp only; omega))
      obtain ⟨ty3, hty3, hF⟩ := zh_bind hF
      have gty3 := zFr.tr gty2 (fr_M_mostOf hty3) (fun r h => by first | exact h | exact h.elim | omega | (revert h; dsimp only; omega)) (fun r h => by first | exact h | exact h.elim | omega | (revert h; dsimp only; omega))
      obtain ⟨ty4, hty4, hF⟩ := zh_bind hF
      have gty4 := zFr.tr gty3 (fr_M_numeral hty4) (fun r h => by first | exact h | exact h.elim | omega | (revert h; dsimp only; omega)) (fun r h => by first | exact h | exact h.elim | omega | (revert h; dsimp only; omega))
      obtain ⟨hy5, hF⟩ := zh_if hF
      obtain ⟨μy6, hy6, hF⟩ := zh_let hF
      have gy6 := zFr.put gty4 (r := (q + 2)) (by first | omega | (dsimp only; omega)) hy6
      exact zFr.tr gy6 (ih _ _ _ _ _ hF) (fun _ h => h) (fun _ h => h)
theorem g_M_tells_0 {q : Nat}  {x1 : Int32} {x2 : Int32} {μ : zI} {ν : zJ} {out : (zI × zJ)} (hF : e_M_tells_0 q  x1 x2 μ ν = some out) : zFr (fun r => (q ≤ r ∧ r < q + 12)) (fun _ => False) μ ν out.1 out.2 := by
  unfold e_M_tells_0 at hF
  have g0 := zFr.rf (fun r => (q ≤ r ∧ r < q + 12)) (fun _ => False) μ ν
  exact zFr.tr g0 (g_M_tells_2  zFuel _ _ _ _ _ hF) (fun _ h => h) (fun _ h => h)
theorem fr_M_tells {q : Nat} {x1 : Int32} {x2 : Int32} {μ : zI} {ν : zJ} {out : (zI × zJ)} (hE : E_M_tells q x1 x2 μ ν = some out) : zFr (fun r => (q ≤ r ∧ r < q + 12)) (fun _ => False) μ ν out.1 out.2 := (g_M_tells_0 hE)
theorem g_M_readOther_183 {q : Nat}  {x1 : Int32} {μ : zI} {ν : zJ} {out : (zI × zJ)} (hF : e_M_readOther_183 q  x1 μ ν = some out) : zFr (fun r => (q ≤ r ∧ r < q + 12)) (fun _ => False) μ ν out.1 out.2 := by
  unfold e_M_readOther_183 at hF
  have g0 := zFr.rf (fun r => (q ≤ r ∧ r < q + 12)) (fun _ => False) μ ν
  cases hF
  exact g0
theorem g_M_readOther_36 {q : Nat}  {x1 : Int32} {μ : zI} {ν : zJ} {out : (zI × zJ)} (hF : e_M_readOther_36 q  x1 μ ν = some out) : zFr (fun r => (q ≤ r ∧ r < q + 12)) (fun _ => False) μ ν out.1 out.2 := by
  unfold e_M_readOther_36 at hF
  have g0 := zFr.rf (fun r => (q ≤ r ∧ r < q + 12)) (fun _ => False) μ ν
  obtain ⟨hy1, hF⟩ := zh_if hF
  obtain ⟨μy2, hy2, hF⟩ := zh_let hF
  have gy2 := zFr.put g0 (r := (q + 3)) (by first | omega | (dsimp only; omega)) hy2
  obtain ⟨μy3, hy3, hF⟩ := zh_let hF
  have gy3 := zFr.put gy2 (r := q) (by first | omega | (dsimp only; omega)) hy3
  obtain ⟨ty4, hty4, hF⟩ := zh_bind hF
  have gty4 := zFr.tr gy3 (fr_M_goOn hty4) (fun r h => by first | exact h | exact h.elim | omega | (revert h; dsimp only; omega)) (fun r h => by first | exact h | exact h.elim | omega | (revert h; dsimp only; omega))
  rcases (Decidable.em (x1 = 0)).symm with cy5 | cy5
  · replace hF := zh_f cy5 hF
    rcases (Decidable.em (x1 = 1)).symm with cy6 | cy6
    · replace hF := zh_f cy6 hF
      rcases (Decidable.em (x1 = 2)).symm with cy7 | cy7
      · replace hF := zh_f cy7 hF
        rcases (Decidable.em (x1 = 3)).symm with cy8 | cy8
        · replace hF := zh_f cy8 hF
          obtain ⟨ty9, hty9, hF⟩ := zh_bind hF
          have gty9 := zFr.tr gty4 (fr_M_tells hty9) (fun r h => by first | exact h | exact h.elim | omega | (revert h; dsimp only; omega)) (fun r h => by first | exact h | exact h.elim | omega | (revert h; dsimp only; omega))
          exact zFr.tr gty9 (g_M_readOther_183  hF) (fun _ h => h) (fun _ h => h)
        · replace hF := zh_t cy8 hF
          obtain ⟨ty10, hty10, hF⟩ := zh_bind hF
          have gty10 := zFr.tr gty4 (fr_M_tells hty10) (fun r h => by first | exact h | exact h.elim | omega | (revert h; dsimp only; omega)) (fun r h => by first | exact h | exact h.elim | omega | (revert h; dsimp only; omega))
          exact zFr.tr gty10 (g_M_readOther_183  hF) (fun _ h => h) (fun _ h => h)
      · replace hF := zh_t cy7 hF
        obtain ⟨ty11, hty11, hF⟩ := zh_bind hF
        have gty11 := zFr.tr gty4 (fr_M_tells hty11) (fun r h => by first | exact h | exact h.elim | omega | (revert h; dsimp only; omega)) (fun r h => by first | exact h | exact h.elim | omega | (revert h; dsimp only; omega))
        exact zFr.tr gty11 (g_M_readOther_183  hF) (fun _ h => h) (fun _ h => h)
    · replace hF := zh_t cy6 hF
      obtain ⟨ty12, hty12, hF⟩ := zh_bind hF
      have gty12 := zFr.tr gty4 (fr_M_tells hty12) (fun r h => by first | exact h | exact h.elim | omega | (revert h; dsimp only; omega)) (fun r h => by first | exact h | exact h.elim | omega | (revert h; dsimp only; omega))
      obtain ⟨ty13, hty13, hF⟩ := zh_bind hF
      have gty13 := zFr.tr gty12 (fr_M_numeral hty13) (fun r h => by first | exact h | exact h.elim | omega | (revert h; dsimp only; omega)) (fun r h => by first | exact h | exact h.elim | omega | (revert h; dsimp only; omega))
      obtain ⟨μy14, hy14, hF⟩ := zh_let hF
      have gy14 := zFr.put gty13 (r := (q + 2)) (by first | omega | (dsimp only; omega)) hy14
      obtain ⟨ty15, hty15, hF⟩ := zh_bind hF
      have gty15 := zFr.tr gy14 (fr_M_tells hty15) (fun r h => by first | exact h | exact h.elim | omega | (revert h; dsimp only; omega)) (fun r h => by first | exact h | exact h.elim | omega | (revert h; dsimp only; omega))
      exact zFr.tr gty15 (g_M_readOther_183  hF) (fun _ h => h) (fun _ h => h)
  · replace hF := zh_t cy5 hF
    obtain ⟨ty16, hty16, hF⟩ := zh_bind hF
    have gty16 := zFr.tr gty4 (fr_M_leastOf hty16) (fun r h => by first | exact h | exact h.elim | omega | (revert h; dsimp only; omega)) (fun r h => by first | exact h | exact h.elim | omega | (revert h; dsimp only; omega))
    obtain ⟨ty17, hty17, hF⟩ := zh_bind hF
    have gty17 := zFr.tr gty16 (fr_M_mostOf hty17) (fun r h => by first | exact h | exact h.elim | omega | (revert h; dsimp only; omega)) (fun r h => by first | exact h | exact h.elim | omega | (revert h; dsimp only; omega))
    obtain ⟨ty18, hty18, hF⟩ := zh_bind hF
    have gty18 := zFr.tr gty17 (fr_M_numeral hty18) (fun r h => by first | exact h | exact h.elim | omega | (revert h; dsimp only; omega)) (fun r h => by first | exact h | exact h.elim | omega | (revert h; dsimp only; omega))
    obtain ⟨μy19, hy19, hF⟩ := zh_let hF
    have gy19 := zFr.put gty18 (r := (q + 2)) (by first | omega | (dsimp only; omega)) hy19
    obtain ⟨ty20, hty20, hF⟩ := zh_bind hF
    have gty20 := zFr.tr gy19 (fr_M_numeral hty20) (fun r h => by first | exact h | exact h.elim | omega | (revert h; dsimp only; omega)) (fun r h => by first | exact h | exact h.elim | omega | (revert h; dsimp only; omega))
    obtain ⟨μy21, hy21, hF⟩ := zh_let hF
    have gy21 := zFr.put gty20 (r := q) (by first | omega | (dsimp only; omega)) hy21
    obtain ⟨ty22, hty22, hF⟩ := zh_bind hF
    have gty22 := zFr.tr gy21 (fr_M_tells hty22) (fun r h => by first | exact h | exact h.elim | omega | (revert h; dsimp only; omega)) (fun r h => by first | exact h | exact h.elim | omega | (revert h; dsimp only; omega))
    exact zFr.tr gty22 (g_M_readOther_183  hF) (fun _ h => h) (fun _ h => h)
theorem g_M_readOther_14 {q : Nat}  {x1 : Int32} {μ : zI} {ν : zJ} {out : (zI × zJ)} (hF : e_M_readOther_14 q  x1 μ ν = some out) : zFr (fun r => (q ≤ r ∧ r < q + 12)) (fun _ => False) μ ν out.1 out.2 := by
  unfold e_M_readOther_14 at hF
  have g0 := zFr.rf (fun r => (q ≤ r ∧ r < q + 12)) (fun _ => False) μ ν
  obtain ⟨ty1, hty1, hF⟩ := zh_bind hF
  have gty1 := zFr.tr g0 (fr_M_wrong hty1) (fun r h => by first | exact h | exact h.elim | omega | (revert h; dsimp only; omega)) (fun r h => by first | exact h | exact h.elim | omega | (revert h; dsimp only; omega))
  exact zFr.tr gty1 (g_M_readOther_36  hF) (fun _ h => h) (fun _ h => h)
theorem g_M_readOther_0 {q : Nat}  {x1 : Int32} {μ : zI} {ν : zJ} {out : (zI × zJ)} (hF : e_M_readOther_0 q  x1 μ ν = some out) : zFr (fun r => (q ≤ r ∧ r < q + 12)) (fun _ => False) μ ν out.1 out.2 := by
  unfold e_M_readOther_0 at hF
  have g0 := zFr.rf (fun r => (q ≤ r ∧ r < q + 12)) (fun _ => False) μ ν
  rcases Decidable.em ((μ q 10) = 0) with cy1 | cy1
  · replace hF := zh_t cy1 hF
    exact zFr.tr g0 (g_M_readOther_14  hF) (fun _ h => h) (fun _ h => h)
  · replace hF := zh_f cy1 hF
    rcases Decidable.em ((μ q 12) ≤ 0) with cy2 | cy2
    · replace hF := zh_t cy2 hF
      obtain ⟨hy3, hF⟩ := zh_if hF
      rcases Decidable.em ((μ (q + 3) (Int32.toNatClampNeg x1)) = 0) with cy4 | cy4
      · replace hF := zh_t cy4 hF
        exact zFr.tr g0 (g_M_readOther_36  hF) (fun _ h => h) (fun _ h => h)
      · replace hF := zh_f cy4 hF
        obtain ⟨ty5, hty5, hF⟩ := zh_bind hF
        have gty5 := zFr.tr g0 (fr_M_wrong hty5) (fun r h => by first | exact h | exact h.elim | omega | (revert h; dsimp only; omega)) (fun r h => by first | exact h | exact h.elim | omega | (revert h; dsimp only; omega))
        exact zFr.tr gty5 (g_M_readOther_36  hF) (fun _ h => h) (fun _ h => h)
    · replace hF := zh_f cy2 hF
      exact zFr.tr g0 (g_M_readOther_14  hF) (fun _ h => h) (fun _ h => h)
theorem fr_M_readOther {q : Nat} {x1 : Int32} {μ : zI} {ν : zJ} {out : (zI × zJ)} (hE : E_M_readOther q x1 μ ν = some out) : zFr (fun r => (q ≤ r ∧ r < q + 12)) (fun _ => False) μ ν out.1 out.2 := (g_M_readOther_0 hE)
theorem g_M_readModule_36 {q : Nat}   {μ : zI} {ν : zJ} {out : (zI × zJ)} (hF : e_M_readModule_36 q   μ ν = some out) : zFr (fun r => (q ≤ r ∧ r < q + 12)) (fun _ => False) μ ν out.1 out.2 := by
  unfold e_M_readModule_36 at hF
  have g0 := zFr.rf (fun r => (q ≤ r ∧ r < q + 12)) (fun _ => False) μ ν
  obtain ⟨ty1, hty1, hF⟩ := zh_bind hF
  have gty1 := zFr.tr g0 (fr_M_goOn hty1) (fun r h => by first | exact h | exact h.elim | omega | (revert h; dsimp only; omega)) (fun r h => by first | exact h | exact h.elim | omega | (revert h; dsimp only; omega))
  obtain ⟨ty2, hty2, hF⟩ := zh_bind hF
  have gty2 := zFr.tr gty1 (fr_M_numeral hty2) (fun r h => by first | exact h | exact h.elim | omega | (revert h; dsimp only; omega)) (fun r h => by first | exact h | exact h.elim | omega | (revert h; dsimp only; omega))
  obtain ⟨y3, hy3, hF⟩ := zh_let hF
  obtain ⟨ty4, hty4, hF⟩ := zh_bind hF
  have gty4 := zFr.tr gty2 (fr_M_numeral hty4) (fun r h => by first | exact h | exact h.elim | omega | (revert h; dsimp only; omega)) (fun r h => by first | exact h | exact h.elim | omega | (revert h; dsimp only; omega))
  obtain ⟨y5, hy5, hF⟩ := zh_let hF
  rcases Decidable.em ((ty4.2.1 q 19) = 0) with cy6 | cy6
  · replace hF := zh_t cy6 hF
    obtain ⟨hy7, hF⟩ := zh_if hF
    obtain ⟨μy8, hy8, hF⟩ := zh_let hF
    have gy8 := zFr.put gty4 (r := (q + 4)) (by first | omega | (dsimp only; omega)) hy8
    obtain ⟨hy9, hF⟩ := zh_if hF
    obtain ⟨μy10, hy10, hF⟩ := zh_let hF
    have gy10 := zFr.put gy8 (r := (q + 5)) (by first | omega | (dsimp only; omega)) hy10
    obtain ⟨μy11, hy11, hF⟩ := zh_let hF
    have gy11 := zFr.put gy10 (r := q) (by first | omega | (dsimp only; omega)) hy11
    cases hF
    exact gy11
  · replace hF := zh_f cy6 hF
    cases hF
    exact gty4
theorem g_M_readModule_14 {q : Nat}   {μ : zI} {ν : zJ} {out : (zI × zJ)} (hF : e_M_readModule_14 q   μ ν = some out) : zFr (fun r => (q ≤ r ∧ r < q + 12)) (fun _ => False) μ ν out.1 out.2 := by
  unfold e_M_readModule_14 at hF
  have g0 := zFr.rf (fun r => (q ≤ r ∧ r < q + 12)) (fun _ => False) μ ν
  obtain ⟨ty1, hty1, hF⟩ := zh_bind hF
  have gty1 := zFr.tr g0 (fr_M_wrong hty1) (fun r h => by first | exact h | exact h.elim | omega | (revert h; dsimp only; omega)) (fun r h => by first | exact h | exact h.elim | omega | (revert h; dsimp only; omega))
  exact zFr.tr gty1 (g_M_readModule_36  hF) (fun _ h => h) (fun _ h => h)
theorem g_M_readModule_0 {q : Nat}   {μ : zI} {ν : zJ} {out : (zI × zJ)} (hF : e_M_readModule_0 q   μ ν = some out) : zFr (fun r => (q ≤ r ∧ r < q + 12)) (fun _ => False) μ ν out.1 out.2 := by
  unfold e_M_readModule_0 at hF
  have g0 := zFr.rf (fun r => (q ≤ r ∧ r < q + 12)) (fun _ => False) μ ν
  rcases Decidable.em (0 < (μ q 6)) with cy1 | cy1
  · replace hF := zh_t cy1 hF
    exact zFr.tr g0 (g_M_readModule_14  hF) (fun _ h => h) (fun _ h => h)
  · replace hF := zh_f cy1 hF
    rcases Decidable.em ((μ q 12) ≤ 0) with cy2 | cy2
    · replace hF := zh_t cy2 hF
      rcases (Decidable.em ((μ q 10) = 6)).symm with cy3 | cy3
      · replace hF := zh_f cy3 hF
        exact zFr.tr g0 (g_M_readModule_36  hF) (fun _ h => h) (fun _ h => h)
      · replace hF := zh_t cy3 hF
        obtain ⟨ty4, hty4, hF⟩ := zh_bind hF
        have gty4 := zFr.tr g0 (fr_M_wrong hty4) (fun r h => by first | exact h | exact h.elim | omega | (revert h; dsimp only; omega)) (fun r h => by first | exact h | exact h.elim | omega | (revert h; dsimp only; omega))
        exact zFr.tr gty4 (g_M_readModule_36  hF) (fun _ h => h) (fun _ h => h)
    · replace hF := zh_f cy2 hF
      exact zFr.tr g0 (g_M_readModule_14  hF) (fun _ h => h) (fun _ h => h)
theorem fr_M_readModule {q : Nat} {μ : zI} {ν : zJ} {out : (zI × zJ)} (hE : E_M_readModule q μ ν = some out) : zFr (fun r => (q ≤ r ∧ r < q + 12)) (fun _ => False) μ ν out.1 out.2 := (g_M_readModule_0 hE)
theorem g_M_readAt_143 {q : Nat}  {x1 : Int32} {x2 : Int32} {x3 : Int32} {s0 : Int32} {μ : zI} {ν : zJ} {out : (zI × zJ)} (hF : e_M_readAt_143 q  x1 x2 x3 s0 μ ν = some out) : zFr (fun r => (q ≤ r ∧ r < q + 12)) (fun _ => False) μ ν out.1 out.2 := by
  unfold e_M_readAt_143 at hF
  have g0 := zFr.rf (fun r => (q ≤ r ∧ r < q + 12)) (fun _ => False) μ ν
  rcases Decidable.em ((μ q 19) = 0) with cy1 | cy1
  · replace hF := zh_t cy1 hF
    obtain ⟨y2, hy2, hF⟩ := zh_let hF
    obtain ⟨hy3, hF⟩ := zh_if hF
    obtain ⟨μy4, hy4, hF⟩ := zh_let hF
    have gy4 := zFr.put g0 (r := (q + 6)) (by first | omega | (dsimp only; omega)) hy4
    obtain ⟨hy5, hF⟩ := zh_if hF
    obtain ⟨μy6, hy6, hF⟩ := zh_let hF
    have gy6 := zFr.put gy4 (r := (q + 6)) (by first | omega | (dsimp only; omega)) hy6
    obtain ⟨hy7, hF⟩ := zh_if hF
    obtain ⟨μy8, hy8, hF⟩ := zh_let hF
    have gy8 := zFr.put gy6 (r := (q + 6)) (by first | omega | (dsimp only; omega)) hy8
    obtain ⟨hy9, hF⟩ := zh_if hF
    obtain ⟨μy10, hy10, hF⟩ := zh_let hF
    have gy10 := zFr.put gy8 (r := (q + 6)) (by first | omega | (dsimp only; omega)) hy10
    obtain ⟨μy11, hy11, hF⟩ := zh_let hF
    have gy11 := zFr.put gy10 (r := q) (by first | omega | (dsimp only; omega)) hy11
    cases hF
    exact gy11
  · replace hF := zh_f cy1 hF
    cases hF
    exact g0
theorem g_M_readAt_103 {q : Nat}  {x1 : Int32} {x2 : Int32} {s0 : Int32} {μ : zI} {ν : zJ} {out : (zI × zJ)} (hF : e_M_readAt_103 q  x1 x2 s0 μ ν = some out) : zFr (fun r => (q ≤ r ∧ r < q + 12)) (fun _ => False) μ ν out.1 out.2 := by
  unfold e_M_readAt_103 at hF
  have g0 := zFr.rf (fun r => (q ≤ r ∧ r < q + 12)) (fun _ => False) μ ν
  rcases (Decidable.em (x2 = 7)).symm with cy1 | cy1
  · replace hF := zh_f cy1 hF
    rcases (Decidable.em (x2 = 8)).symm with cy2 | cy2
    · replace hF := zh_f cy2 hF
      obtain ⟨ty3, hty3, hF⟩ := zh_bind hF
      have gty3 := zFr.tr g0 (fr_M_numeral hty3) (fun r h => by first | exact h | exact h.elim | omega | (revert h; dsimp only; omega)) (fun r h => by first | exact h | exact h.elim | omega | (revert h; dsimp only; omega))
      exact zFr.tr gty3 (g_M_readAt_143  hF) (fun _ h => h) (fun _ h => h)
    · replace hF := zh_t cy2 hF
      obtain ⟨ty4, hty4, hF⟩ := zh_bind hF
      have gty4 := zFr.tr g0 (fr_M_numeral hty4) (fun r h => by first | exact h | exact h.elim | omega | (revert h; dsimp only; omega)) (fun r h => by first | exact h | exact h.elim | omega | (revert h; dsimp only; omega))
      exact zFr.tr gty4 (g_M_readAt_143  hF) (fun _ h => h) (fun _ h => h)
  · replace hF := zh_t cy1 hF
    obtain ⟨ty5, hty5, hF⟩ := zh_bind hF
    have gty5 := zFr.tr g0 (fr_M_numeral hty5) (fun r h => by first | exact h | exact h.elim | omega | (revert h; dsimp only; omega)) (fun r h => by first | exact h | exact h.elim | omega | (revert h; dsimp only; omega))
    exact zFr.tr gty5 (g_M_readAt_143  hF) (fun _ h => h) (fun _ h => h)
theorem g_M_readAt_77 {q : Nat}  {x1 : Int32} {x2 : Int32} {μ : zI} {ν : zJ} {out : (zI × zJ)} (hF : e_M_readAt_77 q  x1 x2 μ ν = some out) : zFr (fun r => (q ≤ r ∧ r < q + 12)) (fun _ => False) μ ν out.1 out.2 := by
  unfold e_M_readAt_77 at hF
  have g0 := zFr.rf (fun r => (q ≤ r ∧ r < q + 12)) (fun _ => False) μ ν
  obtain ⟨ty1, hty1, hF⟩ := zh_bind hF
  have gty1 := zFr.tr g0 (fr_M_goOn hty1) (fun r h => by first | exact h | exact h.elim | omega | (revert h; dsimp only; omega)) (fun r h => by first | exact h | exact h.elim | omega | (revert h; dsimp only; omega))
  rcases (Decidable.em (x2 = 7)).symm with cy2 | cy2
  · replace hF := zh_f cy2 hF
    exact zFr.tr gty1 (g_M_readAt_103  hF) (fun _ h => h) (fun _ h => h)
  · replace hF := zh_t cy2 hF
    obtain ⟨ty3, hty3, hF⟩ := zh_bind hF
    have gty3 := zFr.tr gty1 (fr_M_numeral hty3) (fun r h => by first | exact h | exact h.elim | omega | (revert h; dsimp only; omega)) (fun r h => by first | exact h | exact h.elim | omega | (revert h; dsimp only; omega))
    exact zFr.tr gty3 (g_M_readAt_103  hF) (fun _ h => h) (fun _ h => h)
theorem g_M_readAt_65 {q : Nat}  {x1 : Int32} {s0 : Int32} {μ : zI} {ν : zJ} {out : (zI × zJ)} (hF : e_M_readAt_65 q  x1 s0 μ ν = some out) : zFr (fun r => (q ≤ r ∧ r < q + 12)) (fun _ => False) μ ν out.1 out.2 := by
  unfold e_M_readAt_65 at hF
  have g0 := zFr.rf (fun r => (q ≤ r ∧ r < q + 12)) (fun _ => False) μ ν
  rcases Decidable.em (7 ≤ s0) with cy1 | cy1
  · replace hF := zh_t cy1 hF
    exact zFr.tr g0 (g_M_readAt_77  hF) (fun _ h => h) (fun _ h => h)
  · replace hF := zh_f cy1 hF
    obtain ⟨ty2, hty2, hF⟩ := zh_bind hF
    have gty2 := zFr.tr g0 (fr_M_wrong hty2) (fun r h => by first | exact h | exact h.elim | omega | (revert h; dsimp only; omega)) (fun r h => by first | exact h | exact h.elim | omega | (revert h; dsimp only; omega))
    exact zFr.tr gty2 (g_M_readAt_77  hF) (fun _ h => h) (fun _ h => h)
theorem g_M_readAt_29 {q : Nat}   {μ : zI} {ν : zJ} {out : (zI × zJ)} (hF : e_M_readAt_29 q   μ ν = some out) : zFr (fun r => (q ≤ r ∧ r < q + 12)) (fun _ => False) μ ν out.1 out.2 := by
  unfold e_M_readAt_29 at hF
  have g0 := zFr.rf (fun r => (q ≤ r ∧ r < q + 12)) (fun _ => False) μ ν
  obtain ⟨ty1, hty1, hF⟩ := zh_bind hF
  have gty1 := zFr.tr g0 (fr_M_goOn hty1) (fun r h => by first | exact h | exact h.elim | omega | (revert h; dsimp only; omega)) (fun r h => by first | exact h | exact h.elim | omega | (revert h; dsimp only; omega))
  obtain ⟨ty2, hty2, hF⟩ := zh_bind hF
  have gty2 := zFr.tr gty1 (fr_M_numeral hty2) (fun r h => by first | exact h | exact h.elim | omega | (revert h; dsimp only; omega)) (fun r h => by first | exact h | exact h.elim | omega | (revert h; dsimp only; omega))
  obtain ⟨y3, hy3, hF⟩ := zh_let hF
  rcases Decidable.em ((ty2.2.1 q 19) = 0) with cy4 | cy4
  · replace hF := zh_t cy4 hF
    rcases (Decidable.em ((ty2.2.1 q 17) = 0)).symm with cy5 | cy5
    · replace hF := zh_f cy5 hF
      exact zFr.tr gty2 (g_M_readAt_65  hF) (fun _ h => h) (fun _ h => h)
    · replace hF := zh_t cy5 hF
      exact zFr.tr gty2 (g_M_readAt_65  hF) (fun _ h => h) (fun _ h => h)
  · replace hF := zh_f cy4 hF
    cases hF
    exact gty2
theorem g_M_readAt_0 {q : Nat}   {μ : zI} {ν : zJ} {out : (zI × zJ)} (hF : e_M_readAt_0 q   μ ν = some out) : zFr (fun r => (q ≤ r ∧ r < q + 12)) (fun _ => False) μ ν out.1 out.2 := by
  unfold e_M_readAt_0 at hF
  have g0 := zFr.rf (fun r => (q ≤ r ∧ r < q + 12)) (fun _ => False) μ ν
  rcases (Decidable.em ((μ q 10) = 0)).symm with cy1 | cy1
  · replace hF := zh_f cy1 hF
    rcases (Decidable.em ((μ q 12) = 24)).symm with cy2 | cy2
    · replace hF := zh_f cy2 hF
      exact zFr.tr g0 (g_M_readAt_29  hF) (fun _ h => h) (fun _ h => h)
    · replace hF := zh_t cy2 hF
      obtain ⟨ty3, hty3, hF⟩ := zh_bind hF
      have gty3 := zFr.tr g0 (fr_M_wrong hty3) (fun r h => by first | exact h | exact h.elim | omega | (revert h; dsimp only; omega)) (fun r h => by first | exact h | exact h.elim | omega | (revert h; dsimp only; omega))
      exact zFr.tr gty3 (g_M_readAt_29  hF) (fun _ h => h) (fun _ h => h)
  · replace hF := zh_t cy1 hF
    obtain ⟨ty4, hty4, hF⟩ := zh_bind hF
    have gty4 := zFr.tr g0 (fr_M_wrong hty4) (fun r h => by first | exact h | exact h.elim | omega | (revert h; dsimp only; omega)) (fun r h => by first | exact h | exact h.elim | omega | (revert h; dsimp only; omega))
    exact zFr.tr gty4 (g_M_readAt_29  hF) (fun _ h => h) (fun _ h => h)
theorem fr_M_readAt {q : Nat} {μ : zI} {ν : zJ} {out : (zI × zJ)} (hE : E_M_readAt q μ ν = some out) : zFr (fun r => (q ≤ r ∧ r < q + 12)) (fun _ => False) μ ν out.1 out.2 := (g_M_readAt_0 hE)
theorem g_M_readLine_90 {q : Nat}   {μ : zI} {ν : zJ} {out : (zI × zJ)} (hF : e_M_readLine_90 q   μ ν = some out) : zFr (fun r => (q ≤ r ∧ r < q + 12)) (fun _ => False) μ ν out.1 out.2 := by
  unfold e_M_readLine_90 at hF
  have g0 := zFr.rf (fun r => (q ≤ r ∧ r < q + 12)) (fun _ => False) μ ν
  obtain ⟨ty1, hty1, hF⟩ := zh_bind hF
  have gty1 := zFr.tr g0 (fr_M_goOn hty1) (fun r h => by first | exact h | exact h.elim | omega | (revert h; dsimp only; omega)) (fun r h => by first | exact h | exact h.elim | omega | (revert h; dsimp only; omega))
  obtain ⟨μy2, hy2, hF⟩ := zh_let hF
  have gy2 := zFr.put gty1 (r := q) (by first | omega | (dsimp only; omega)) hy2
  cases hF
  exact gy2
theorem g_M_readLine_70 {q : Nat}   {μ : zI} {ν : zJ} {out : (zI × zJ)} (hF : e_M_readLine_70 q   μ ν = some out) : zFr (fun r => (q ≤ r ∧ r < q + 12)) (fun _ => False) μ ν out.1 out.2 := by
  unfold e_M_readLine_70 at hF
  have g0 := zFr.rf (fun r => (q ≤ r ∧ r < q + 12)) (fun _ => False) μ ν
  rcases (Decidable.em ((μ q 19) = 0)).symm with cy1 | cy1
  · replace hF := zh_f cy1 hF
    exact zFr.tr g0 (g_M_readLine_90  hF) (fun _ h => h) (fun _ h => h)
  · replace hF := zh_t cy1 hF
    rcases Decidable.em ((μ q 17) = 2) with cy2 | cy2
    · replace hF := zh_t cy2 hF
      exact zFr.tr g0 (g_M_readLine_90  hF) (fun _ h => h) (fun _ h => h)
    · replace hF := zh_f cy2 hF
      obtain ⟨ty3, hty3, hF⟩ := zh_bind hF
      have gty3 := zFr.tr g0 (fr_M_wrong hty3) (fun r h => by first | exact h | exact h.elim | omega | (revert h; dsimp only; omega)) (fun r h => by first | exact h | exact h.elim | omega | (revert h; dsimp only; omega))
      exact zFr.tr gty3 (g_M_readLine_90  hF) (fun _ h => h) (fun _ h => h)
theorem g_M_readLine_0 {q : Nat}   {μ : zI} {ν : zJ} {out : (zI × zJ)} (hF : e_M_readLine_0 q   μ ν = some out) : zFr (fun r => (q ≤ r ∧ r < q + 12)) (fun _ => False) μ ν out.1 out.2 := by
  unfold e_M_readLine_0 at hF
  have g0 := zFr.rf (fun r => (q ≤ r ∧ r < q + 12)) (fun _ => False) μ ν
  rcases Decidable.em ((μ q 17) = 0) with cy1 | cy1
  · replace hF := zh_t cy1 hF
    rcases (Decidable.em ((μ q 18) = 5)).symm with cy2 | cy2
    · replace hF := zh_f cy2 hF
      rcases (Decidable.em ((μ q 18) = 6)).symm with cy3 | cy3
      · replace hF := zh_f cy3 hF
        rcases Decidable.em (4 < (μ q 18)) with cy4 | cy4
        · replace hF := zh_t cy4 hF
          obtain ⟨ty5, hty5, hF⟩ := zh_bind hF
          have gty5 := zFr.tr g0 (fr_M_wrong hty5) (fun r h => by first | exact h | exact h.elim | omega | (revert h; dsimp only; omega)) (fun r h => by first | exact h | exact h.elim | omega | (revert h; dsimp only; omega))
          exact zFr.tr gty5 (g_M_readLine_70  hF) (fun _ h => h) (fun _ h => h)
        · replace hF := zh_f cy4 hF
          obtain ⟨ty6, hty6, hF⟩ := zh_bind hF
          have gty6 := zFr.tr g0 (fr_M_readOther hty6) (fun r h => by first | exact h | exact h.elim | omega | (revert h; dsimp only; omega)) (fun r h => by first | exact h | exact h.elim | omega | (revert h; dsimp only; omega))
          exact zFr.tr gty6 (g_M_readLine_70  hF) (fun _ h => h) (fun _ h => h)
      · replace hF := zh_t cy3 hF
        obtain ⟨ty7, hty7, hF⟩ := zh_bind hF
        have gty7 := zFr.tr g0 (fr_M_readAt hty7) (fun r h => by first | exact h | exact h.elim | omega | (revert h; dsimp only; omega)) (fun r h => by first | exact h | exact h.elim | omega | (revert h; dsimp only; omega))
        exact zFr.tr gty7 (g_M_readLine_70  hF) (fun _ h => h) (fun _ h => h)
    · replace hF := zh_t cy2 hF
      obtain ⟨ty8, hty8, hF⟩ := zh_bind hF
      have gty8 := zFr.tr g0 (fr_M_readModule hty8) (fun r h => by first | exact h | exact h.elim | omega | (revert h; dsimp only; omega)) (fun r h => by first | exact h | exact h.elim | omega | (revert h; dsimp only; omega))
      exact zFr.tr gty8 (g_M_readLine_70  hF) (fun _ h => h) (fun _ h => h)
  · replace hF := zh_f cy1 hF
    obtain ⟨ty9, hty9, hF⟩ := zh_bind hF
    have gty9 := zFr.tr g0 (fr_M_wrong hty9) (fun r h => by first | exact h | exact h.elim | omega | (revert h; dsimp only; omega)) (fun r h => by first | exact h | exact h.elim | omega | (revert h; dsimp only; omega))
    exact zFr.tr gty9 (g_M_readLine_70  hF) (fun _ h => h) (fun _ h => h)
theorem fr_M_readLine {q : Nat} {μ : zI} {ν : zJ} {out : (zI × zJ)} (hE : E_M_readLine q μ ν = some out) : zFr (fun r => (q ≤ r ∧ r < q + 12)) (fun _ => False) μ ν out.1 out.2 := (g_M_readLine_0 hE)
theorem g_M_readText_50 {q : Nat}  {x1 : Int32} {μ : zI} {ν : zJ} {out : (zI × zJ)} (hF : e_M_readText_50 q  x1 μ ν = some out) : zFr (fun r => (q ≤ r ∧ r < q + 12)) (fun _ => False) μ ν out.1 out.2 := by
  unfold e_M_readText_50 at hF
  have g0 := zFr.rf (fun r => (q ≤ r ∧ r < q + 12)) (fun _ => False) μ ν
  cases hF
  exact g0
theorem g_M_readText_28 {q : Nat}  {out : (zI × zJ)} : ∀ (n : Nat) (x1 : Int32) (μ : zI) (ν : zJ), f_M_readText_28 q  n x1 μ ν = some out → zFr (fun r => (q ≤ r ∧ r < q + 12)) (fun _ => False) μ ν out.1 out.2 := by
  intro n
  induction n with
  | zero => intro x1 μ ν hF; cases hF
  | succ n ih =>
    intro x1 μ ν hF
    dsimp only [f_M_readText_28] at hF
    have g0 := zFr.rf (fun r => (q ≤ r ∧ r < q + 12)) (fun _ => False) μ ν
    rcases (Decidable.em ((μ q 19) = 0)).symm with cy1 | cy1
    · replace hF := zh_f cy1 hF
      exact zFr.tr g0 (g_M_readText_50  hF) (fun _ h => h) (fun _ h => h)
    · replace hF := zh_t cy1 hF
      rcases Decidable.em ((μ q 17) = 3) with cy2 | cy2
      · replace hF := zh_t cy2 hF
        exact zFr.tr g0 (g_M_readText_50  hF) (fun _ h => h) (fun _ h => h)
      · replace hF := zh_f cy2 hF
        obtain ⟨ty3, hty3, hF⟩ := zh_bind hF
        have gty3 := zFr.tr g0 (fr_M_readLine hty3) (fun r h => by first | exact h | exact h.elim | omega | (revert h; dsimp only; omega)) (fun r h => by first | exact h | exact h.elim | omega | (revert h; dsimp only; omega))
        exact zFr.tr gty3 (ih _ _ _ hF) (fun _ h => h) (fun _ h => h)
theorem g_M_readText_0 {q : Nat}  {x1 : Int32} {μ : zI} {ν : zJ} {out : (zI × zJ)} (hF : e_M_readText_0 q  x1 μ ν = some out) : zFr (fun r => (q ≤ r ∧ r < q + 12)) (fun _ => False) μ ν out.1 out.2 := by
  unfold e_M_readText_0 at hF
  have g0 := zFr.rf (fun r => (q ≤ r ∧ r < q + 12)) (fun _ => False) μ ν
  obtain ⟨μy1, hy1, hF⟩ := zh_let hF
  have gy1 := zFr.put g0 (r := q) (by first | omega | (dsimp only; omega)) hy1
  obtain ⟨μy2, hy2, hF⟩ := zh_let hF
  have gy2 := zFr.put gy1 (r := q) (by first | omega | (dsimp only; omega)) hy2
  obtain ⟨μy3, hy3, hF⟩ := zh_let hF
  have gy3 := zFr.put gy2 (r := q) (by first | omega | (dsimp only; omega)) hy3
  obtain ⟨μy4, hy4, hF⟩ := zh_let hF
  have gy4 := zFr.put gy3 (r := q) (by first | omega | (dsimp only; omega)) hy4
  obtain ⟨ty5, hty5, hF⟩ := zh_bind hF
  have gty5 := zFr.tr gy4 (fr_M_freshText hty5) (fun r h => by first | exact h | exact h.elim | omega | (revert h; dsimp only; omega)) (fun r h => by first | exact h | exact h.elim | omega | (revert h; dsimp only; omega))
  obtain ⟨ty6, hty6, hF⟩ := zh_bind hF
  have gty6 := zFr.tr gty5 (fr_M_token hty6) (fun r h => by first | exact h | exact h.elim | omega | (revert h; dsimp only; omega)) (fun r h => by first | exact h | exact h.elim | omega | (revert h; dsimp only; omega))
  exact zFr.tr gty6 (g_M_readText_28  zFuel _ _ _ hF) (fun _ h => h) (fun _ h => h)
theorem fr_M_readText {q : Nat} {x1 : Int32} {μ : zI} {ν : zJ} {out : (zI × zJ)} (hE : E_M_readText q x1 μ ν = some out) : zFr (fun r => (q ≤ r ∧ r < q + 12)) (fun _ => False) μ ν out.1 out.2 := (g_M_readText_0 hE)
theorem g_M_text_17 {q : Nat}  {x1 : Int32} {μ : zI} {ν : zJ} {out : (Int32 × zI × zJ)} (hF : e_M_text_17 q  x1 μ ν = some out) : zFr (fun r => (q ≤ r ∧ r < q + 12)) (fun r => (q ≤ r ∧ r < q + 12)) μ ν out.2.1 out.2.2 := by
  unfold e_M_text_17 at hF
  have g0 := zFr.rf (fun r => (q ≤ r ∧ r < q + 12)) (fun r => (q ≤ r ∧ r < q + 12)) μ ν
  cases hF
  exact g0
theorem g_M_text_54 {q : Nat}  {x1 : Int32} {s1 : Int32} {μ : zI} {ν : zJ} {out : (Int32 × zI × zJ)} (hF : e_M_text_54 q  x1 s1 μ ν = some out) : zFr (fun r => (q ≤ r ∧ r < q + 12)) (fun r => (q ≤ r ∧ r < q + 12)) μ ν out.2.1 out.2.2 := by
  unfold e_M_text_54 at hF
  have g0 := zFr.rf (fun r => (q ≤ r ∧ r < q + 12)) (fun r => (q ≤ r ∧ r < q + 12)) μ ν
  obtain ⟨μy1, hy1, hF⟩ := zh_let hF
  have gy1 := zFr.put g0 (r := q) (by first | omega | (dsimp only; omega)) hy1
  rcases Decidable.em ((μy1 q 19) = 0) with cy2 | cy2
  · replace hF := zh_t cy2 hF
    obtain ⟨ty3, hty3, hF⟩ := zh_bind hF
    have gty3 := zFr.tr gy1 (fr_M_begins hty3) (fun r h => by first | exact h | exact h.elim | omega | (revert h; dsimp only; omega)) (fun r h => by first | exact h | exact h.elim | omega | (revert h; dsimp only; omega))
    cases hF
    exact gty3
  · replace hF := zh_f cy2 hF
    cases hF
    exact gy1
theorem g_M_text_0 {q : Nat}  {x1 : Int32} {μ : zI} {ν : zJ} {out : (Int32 × zI × zJ)} (hF : e_M_text_0 q  x1 μ ν = some out) : zFr (fun r => (q ≤ r ∧ r < q + 12)) (fun r => (q ≤ r ∧ r < q + 12)) μ ν out.2.1 out.2.2 := by
  unfold e_M_text_0 at hF
  have g0 := zFr.rf (fun r => (q ≤ r ∧ r < q + 12)) (fun r => (q ≤ r ∧ r < q + 12)) μ ν
  obtain ⟨μy1, hy1, hF⟩ := zh_let hF
  have gy1 := zFr.put g0 (r := q) (by first | omega | (dsimp only; omega)) hy1
  rcases Decidable.em (x1 < 0) with cy2 | cy2
  · replace hF := zh_t cy2 hF
    exact zFr.tr gy1 (g_M_text_17  hF) (fun _ h => h) (fun _ h => h)
  · replace hF := zh_f cy2 hF
    rcases Decidable.em (x1 ≤ (μy1 q 2)) with cy3 | cy3
    · replace hF := zh_t cy3 hF
      obtain ⟨ty4, hty4, hF⟩ := zh_bind hF
      have gty4 := zFr.tr gy1 (fr_M_readText hty4) (fun r h => by first | exact h | exact h.elim | omega | (revert h; dsimp only; omega)) (fun r h => by first | exact h | exact h.elim | omega | (revert h; dsimp only; omega))
      obtain ⟨μy5, hy5, hF⟩ := zh_let hF
      have gy5 := zFr.put gty4 (r := q) (by first | omega | (dsimp only; omega)) hy5
      obtain ⟨μy6, hy6, hF⟩ := zh_let hF
      have gy6 := zFr.put gy5 (r := q) (by first | omega | (dsimp only; omega)) hy6
      rcases (Decidable.em ((μy6 q 19) = 0)).symm with cy7 | cy7
      · replace hF := zh_f cy7 hF
        exact zFr.tr gy6 (g_M_text_54  hF) (fun _ h => h) (fun _ h => h)
      · replace hF := zh_t cy7 hF
        exact zFr.tr gy6 (g_M_text_54  hF) (fun _ h => h) (fun _ h => h)
    · replace hF := zh_f cy3 hF
      exact zFr.tr gy1 (g_M_text_17  hF) (fun _ h => h) (fun _ h => h)
theorem fr_M_text {q : Nat} {x1 : Int32} {μ : zI} {ν : zJ} {out : (Int32 × zI × zJ)} (hE : E_M_text q x1 μ ν = some out) : zFr (fun r => (q ≤ r ∧ r < q + 12)) (fun r => (q ≤ r ∧ r < q + 12)) μ ν out.2.1 out.2.2 := (g_M_text_0 hE)
theorem g_M_fault_29 {q : Nat}  {x1 : Int32} {s0 : Int32} {μ : zI} {ν : zJ} {out : (Int32 × zI × zJ)} (hF : e_M_fault_29 q  x1 s0 μ ν = some out) : zFr (fun r => (q ≤ r ∧ r < q + 12)) (fun _ => False) μ ν out.2.1 out.2.2 := by
  unfold e_M_fault_29 at hF
  have g0 := zFr.rf (fun r => (q ≤ r ∧ r < q + 12)) (fun _ => False) μ ν
  cases hF
  exact g0
theorem g_M_fault_0 {q : Nat}  {x1 : Int32} {μ : zI} {ν : zJ} {out : (Int32 × zI × zJ)} (hF : e_M_fault_0 q  x1 μ ν = some out) : zFr (fun r => (q ≤ r ∧ r < q + 12)) (fun _ => False) μ ν out.2.1 out.2.2 := by
  unfold e_M_fault_0 at hF
  have g0 := zFr.rf (fun r => (q ≤ r ∧ r < q + 12)) (fun _ => False) μ ν
  obtain ⟨μy1, hy1, hF⟩ := zh_let hF
  have gy1 := zFr.put g0 (r := q) (by first | omega | (dsimp only; omega)) hy1
  rcases (Decidable.em (x1 = 0)).symm with cy2 | cy2
  · replace hF := zh_f cy2 hF
    rcases (Decidable.em (x1 = 1)).symm with cy3 | cy3
    · replace hF := zh_f cy3 hF
      exact zFr.tr gy1 (g_M_fault_29  hF) (fun _ h => h) (fun _ h => h)
    · replace hF := zh_t cy3 hF
      exact zFr.tr gy1 (g_M_fault_29  hF) (fun _ h => h) (fun _ h => h)
  · replace hF := zh_t cy2 hF
    exact zFr.tr gy1 (g_M_fault_29  hF) (fun _ h => h) (fun _ h => h)
theorem fr_M_fault {q : Nat} {x1 : Int32} {μ : zI} {ν : zJ} {out : (Int32 × zI × zJ)} (hE : E_M_fault q x1 μ ν = some out) : zFr (fun r => (q ≤ r ∧ r < q + 12)) (fun _ => False) μ ν out.2.1 out.2.2 := (g_M_fault_0 hE)
theorem g_M_removes_15 {q : Nat}  {out : (zI × zJ)} : ∀ (n : Nat) (x1 : Int32) (x2 : Int32) (μ : zI) (ν : zJ), f_M_removes_15 q  n x1 x2 μ ν = some out → zFr (fun r => (q ≤ r ∧ r < q + 12)) (fun _ => False) μ ν out.1 out.2 := by
  intro n
  induction n with
  | zero => intro x1 x2 μ ν hF; cases hF
  | succ n ih =>
    intro x1 x2 μ ν hF
    dsimp only [f_M_removes_15] at hF
    have g0 := zFr.rf (fun r => (q ≤ r ∧ r < q + 12)) (fun _ => False) μ ν
    rcases Decidable.em ((4 * (μ (q + 7) 46)) ≤ x2) with cy1 | cy1
    · replace hF := zh_t cy1 hF
      cases hF
      exact g0
    · replace hF := zh_f cy1 hF
      obtain ⟨hy2, hF⟩ := zh_if hF
      obtain ⟨hy3, hF⟩ := zh_if hF
      obtain ⟨μy4, hy4, hF⟩ := zh_let hF
      have gy4 := zFr.put g0 (r := (q + 7)) (by first | omega | (dsimp only; omega)) hy4
      exact zFr.tr gy4 (ih _ _ _ _ hF) (fun _ h => h) (fun _ h => h)
theorem g_M_removes_0 {q : Nat}  {x1 : Int32} {μ : zI} {ν : zJ} {out : (zI × zJ)} (hF : e_M_removes_0 q  x1 μ ν = some out) : zFr (fun r => (q ≤ r ∧ r < q + 12)) (fun _ => False) μ ν out.1 out.2 := by
  unfold e_M_removes_0 at hF
  have g0 := zFr.rf (fun r => (q ≤ r ∧ r < q + 12)) (fun _ => False) μ ν
  obtain ⟨μy1, hy1, hF⟩ := zh_let hF
  have gy1 := zFr.put g0 (r := (q + 7)) (by first | omega | (dsimp only; omega)) hy1
  obtain ⟨y2, hy2, hF⟩ := zh_let hF
  exact zFr.tr gy1 (g_M_removes_15  zFuel _ _ _ _ hF) (fun _ h => h) (fun _ h => h)
theorem fr_M_removes {q : Nat} {x1 : Int32} {μ : zI} {ν : zJ} {out : (zI × zJ)} (hE : E_M_removes q x1 μ ν = some out) : zFr (fun r => (q ≤ r ∧ r < q + 12)) (fun _ => False) μ ν out.1 out.2 := (g_M_removes_0 hE)
theorem g_M_goesAside_29 {q : Nat}  {out : (zI × zJ)} : ∀ (n : Nat) (x1 : Int32) (μ : zI) (ν : zJ), f_M_goesAside_29 q  n x1 μ ν = some out → zFr (fun r => (q ≤ r ∧ r < q + 12)) (fun r => (q ≤ r ∧ r < q + 12)) μ ν out.1 out.2 := by
  intro n
  induction n with
  | zero => intro x1 μ ν hF; cases hF
  | succ n ih =>
    intro x1 μ ν hF
    dsimp only [f_M_goesAside_29] at hF
    have g0 := zFr.rf (fun r => (q ≤ r ∧ r < q + 12)) (fun r => (q ≤ r ∧ r < q + 12)) μ ν
    rcases Decidable.em (11 ≤ x1) with cy1 | cy1
    · replace hF := zh_t cy1 hF
      obtain ⟨μy2, hy2, hF⟩ := zh_let hF
      have gy2 := zFr.put g0 (r := q) (by first | omega | (dsimp only; omega)) hy2
      cases hF
      exact gy2
    · replace hF := zh_f cy1 hF
      obtain ⟨hy3, hF⟩ := zh_if hF
      obtain ⟨hy4, hF⟩ := zh_if hF
      obtain ⟨νy5, hy5, hF⟩ := zh_let hF
      have gy5 := zFr.putl g0 (r := (q + 10)) (by first | omega | (dsimp only; omega)) hy5
      exact zFr.tr gy5 (ih _ _ _ hF) (fun _ h => h) (fun _ h => h)
theorem g_M_goesAside_2 {q : Nat}  {out : (zI × zJ)} : ∀ (n : Nat) (x1 : Int32) (μ : zI) (ν : zJ), f_M_goesAside_2 q  n x1 μ ν = some out → zFr (fun r => (q ≤ r ∧ r < q + 12)) (fun r => (q ≤ r ∧ r < q + 12)) μ ν out.1 out.2 := by
  intro n
  induction n with
  | zero => intro x1 μ ν hF; cases hF
  | succ n ih =>
    intro x1 μ ν hF
    dsimp only [f_M_goesAside_2] at hF
    have g0 := zFr.rf (fun r => (q ≤ r ∧ r < q + 12)) (fun r => (q ≤ r ∧ r < q + 12)) μ ν
    rcases Decidable.em (146 ≤ x1) with cy1 | cy1
    · replace hF := zh_t cy1 hF
      exact zFr.tr g0 (g_M_goesAside_29  zFuel _ _ _ hF) (fun _ h => h) (fun _ h => h)
    · replace hF := zh_f cy1 hF
      obtain ⟨hy2, hF⟩ := zh_if hF
      obtain ⟨hy3, hF⟩ := zh_if hF
      obtain ⟨μy4, hy4, hF⟩ := zh_let hF
      have gy4 := zFr.put g0 (r := (q + 8)) (by first | omega | (dsimp only; omega)) hy4
      exact zFr.tr gy4 (ih _ _ _ hF) (fun _ h => h) (fun _ h => h)
theorem g_M_goesAside_0 {q : Nat}   {μ : zI} {ν : zJ} {out : (zI × zJ)} (hF : e_M_goesAside_0 q   μ ν = some out) : zFr (fun r => (q ≤ r ∧ r < q + 12)) (fun r => (q ≤ r ∧ r < q + 12)) μ ν out.1 out.2 := by
  unfold e_M_goesAside_0 at hF
  have g0 := zFr.rf (fun r => (q ≤ r ∧ r < q + 12)) (fun r => (q ≤ r ∧ r < q + 12)) μ ν
  exact zFr.tr g0 (g_M_goesAside_2  zFuel _ _ _ hF) (fun _ h => h) (fun _ h => h)
theorem fr_M_goesAside {q : Nat} {μ : zI} {ν : zJ} {out : (zI × zJ)} (hE : E_M_goesAside q μ ν = some out) : zFr (fun r => (q ≤ r ∧ r < q + 12)) (fun r => (q ≤ r ∧ r < q + 12)) μ ν out.1 out.2 := (g_M_goesAside_0 hE)
theorem g_M_comesBack_29 {q : Nat}  {out : (zI × zJ)} : ∀ (n : Nat) (x1 : Int32) (μ : zI) (ν : zJ), f_M_comesBack_29 q  n x1 μ ν = some out → zFr (fun r => (q ≤ r ∧ r < q + 12)) (fun r => (q ≤ r ∧ r < q + 12)) μ ν out.1 out.2 := by
  intro n
  induction n with
  | zero => intro x1 μ ν hF; cases hF
  | succ n ih =>
    intro x1 μ ν hF
    dsimp only [f_M_comesBack_29] at hF
    have g0 := zFr.rf (fun r => (q ≤ r ∧ r < q + 12)) (fun r => (q ≤ r ∧ r < q + 12)) μ ν
    rcases Decidable.em (11 ≤ x1) with cy1 | cy1
    · replace hF := zh_t cy1 hF
      obtain ⟨μy2, hy2, hF⟩ := zh_let hF
      have gy2 := zFr.put g0 (r := q) (by first | omega | (dsimp only; omega)) hy2
      cases hF
      exact gy2
    · replace hF := zh_f cy1 hF
      obtain ⟨hy3, hF⟩ := zh_if hF
      obtain ⟨hy4, hF⟩ := zh_if hF
      obtain ⟨νy5, hy5, hF⟩ := zh_let hF
      have gy5 := zFr.putl g0 (r := (q + 9)) (by first | omega | (dsimp only; omega)) hy5
      exact zFr.tr gy5 (ih _ _ _ hF) (fun _ h => h) (fun _ h => h)
theorem g_M_comesBack_2 {q : Nat}  {out : (zI × zJ)} : ∀ (n : Nat) (x1 : Int32) (μ : zI) (ν : zJ), f_M_comesBack_2 q  n x1 μ ν = some out → zFr (fun r => (q ≤ r ∧ r < q + 12)) (fun r => (q ≤ r ∧ r < q + 12)) μ ν out.1 out.2 := by
  intro n
  induction n with
  | zero => intro x1 μ ν hF; cases hF
  | succ n ih =>
    intro x1 μ ν hF
    dsimp only [f_M_comesBack_2] at hF
    have g0 := zFr.rf (fun r => (q ≤ r ∧ r < q + 12)) (fun r => (q ≤ r ∧ r < q + 12)) μ ν
    rcases Decidable.em (146 ≤ x1) with cy1 | cy1
    · replace hF := zh_t cy1 hF
      exact zFr.tr g0 (g_M_comesBack_29  zFuel _ _ _ hF) (fun _ h => h) (fun _ h => h)
    · replace hF := zh_f cy1 hF
      obtain ⟨hy2, hF⟩ := zh_if hF
      obtain ⟨hy3, hF⟩ := zh_if hF
      obtain ⟨μy4, hy4, hF⟩ := zh_let hF
      have gy4 := zFr.put g0 (r := (q + 7)) (by first | omega | (dsimp only; omega)) hy4
      exact zFr.tr gy4 (ih _ _ _ hF) (fun _ h => h) (fun _ h => h)
theorem g_M_comesBack_0 {q : Nat}   {μ : zI} {ν : zJ} {out : (zI × zJ)} (hF : e_M_comesBack_0 q   μ ν = some out) : zFr (fun r => (q ≤ r ∧ r < q + 12)) (fun r => (q ≤ r ∧ r < q + 12)) μ ν out.1 out.2 := by
  unfold e_M_comesBack_0 at hF
  have g0 := zFr.rf (fun r => (q ≤ r ∧ r < q + 12)) (fun r => (q ≤ r ∧ r < q + 12)) μ ν
  exact zFr.tr g0 (g_M_comesBack_2  zFuel _ _ _ hF) (fun _ h => h) (fun _ h => h)
theorem fr_M_comesBack {q : Nat} {μ : zI} {ν : zJ} {out : (zI × zJ)} (hE : E_M_comesBack q μ ν = some out) : zFr (fun r => (q ≤ r ∧ r < q + 12)) (fun r => (q ≤ r ∧ r < q + 12)) μ ν out.1 out.2 := (g_M_comesBack_0 hE)
theorem g_M_litOf_0 {q : Nat}  {x1 : Int32} {μ : zI} {ν : zJ} {out : (Int32 × zI × zJ)} (hF : e_M_litOf_0 q  x1 μ ν = some out) : zFr (fun _ => False) (fun _ => False) μ ν out.2.1 out.2.2 := by
  unfold e_M_litOf_0 at hF
  have g0 := zFr.rf (fun _ => False) (fun _ => False) μ ν
  obtain ⟨hy1, hF⟩ := zh_if hF
  obtain ⟨hy2, hF⟩ := zh_if hF
  cases hF
  exact g0
theorem fr_M_litOf {q : Nat} {x1 : Int32} {μ : zI} {ν : zJ} {out : (Int32 × zI × zJ)} (hE : E_M_litOf q x1 μ ν = some out) : zFr (fun _ => False) (fun _ => False) μ ν out.2.1 out.2.2 := (g_M_litOf_0 hE)
theorem g_M_voltsAt_50 {q : Nat} {r4 : Int32 → Int32 → Int32 → zI → zJ → Option (Int32 × zI × zJ)} {x1 : Int32} {x2 : Int32} {x3 : Int32} {x4 : Int32} {μ : zI} {ν : zJ} {out : (Int32 × zI × zJ)} (hr4 : ∀ (x1 : Int32) (x2 : Int32) (x3 : Int32) (μ : zI) (ν : zJ), r4 x1 x2 x3 μ ν = some out → zFr (fun _ => False) (fun _ => False) μ ν out.2.1 out.2.2) (hF : e_M_voltsAt_50 q r4 x1 x2 x3 x4 μ ν = some out) : zFr (fun _ => False) (fun _ => False) μ ν out.2.1 out.2.2 := by
  unfold e_M_voltsAt_50 at hF
  have g0 := zFr.rf (fun _ => False) (fun _ => False) μ ν
  exact zFr.tr g0 (hr4 _ _ _ _ _ hF) (fun _ h => h) (fun _ h => h)
theorem g_M_voltsAt_4 {q : Nat}  {out : (Int32 × zI × zJ)} : ∀ (n : Nat) (x1 : Int32) (x2 : Int32) (x3 : Int32) (μ : zI) (ν : zJ), f_M_voltsAt_4 q  n x1 x2 x3 μ ν = some out → zFr (fun _ => False) (fun _ => False) μ ν out.2.1 out.2.2 := by
  intro n
  induction n with
  | zero => intro x1 x2 x3 μ ν hF; cases hF
  | succ n ih =>
    intro x1 x2 x3 μ ν hF
    dsimp only [f_M_voltsAt_4] at hF
    have g0 := zFr.rf (fun _ => False) (fun _ => False) μ ν
    rcases Decidable.em ((μ q 9) ≤ x3) with cy1 | cy1
    · replace hF := zh_t cy1 hF
      cases hF
      exact g0
    · replace hF := zh_f cy1 hF
      obtain ⟨ty2, hty2, hF⟩ := zh_bind hF
      have gty2 := zFr.tr g0 (fr_M_litOf hty2) (fun r h => by first | exact h | exact h.elim | omega | (revert h; dsimp only; omega)) (fun r h => by first | exact h | exact h.elim | omega | (revert h; dsimp only; omega))
      obtain ⟨y3, hy3, hF⟩ := zh_let hF
      rcases Decidable.em (y3 ≤ x1) with cy4 | cy4
      · replace hF := zh_t cy4 hF
        exact zFr.tr gty2 (g_M_voltsAt_50 (fun a0 a1 a2 a3 a4 => ih a0 a1 a2 a3 a4) hF) (fun _ h => h) (fun _ h => h)
      · replace hF := zh_f cy4 hF
        obtain ⟨hy5, hF⟩ := zh_if hF
        obtain ⟨hy6, hF⟩ := zh_ne hF
        obtain ⟨y7, hy7, hF⟩ := zh_let hF
        exact zFr.tr gty2 (g_M_voltsAt_50 (fun a0 a1 a2 a3 a4 => ih a0 a1 a2 a3 a4) hF) (fun _ h => h) (fun _ h => h)
theorem g_M_voltsAt_0 {q : Nat}  {x1 : Int32} {μ : zI} {ν : zJ} {out : (Int32 × zI × zJ)} (hF : e_M_voltsAt_0 q  x1 μ ν = some out) : zFr (fun _ => False) (fun _ => False) μ ν out.2.1 out.2.2 := by
  unfold e_M_voltsAt_0 at hF
  have g0 := zFr.rf (fun _ => False) (fun _ => False) μ ν
  exact zFr.tr g0 (g_M_voltsAt_4  zFuel _ _ _ _ _ hF) (fun _ h => h) (fun _ h => h)
theorem fr_M_voltsAt {q : Nat} {x1 : Int32} {μ : zI} {ν : zJ} {out : (Int32 × zI × zJ)} (hE : E_M_voltsAt q x1 μ ν = some out) : zFr (fun _ => False) (fun _ => False) μ ν out.2.1 out.2.2 := (g_M_voltsAt_0 hE)
theorem g_M_powerAt_0 {q : Nat}  {x1 : Int32} {μ : zI} {ν : zJ} {out : (Int32 × zI × zJ)} (hF : e_M_powerAt_0 q  x1 μ ν = some out) : zFr (fun _ => False) (fun _ => False) μ ν out.2.1 out.2.2 := by
  unfold e_M_powerAt_0 at hF
  have g0 := zFr.rf (fun _ => False) (fun _ => False) μ ν
  obtain ⟨ty1, hty1, hF⟩ := zh_bind hF
  have gty1 := zFr.tr g0 (fr_M_voltsAt hty1) (fun r h => by first | exact h | exact h.elim | omega | (revert h; dsimp only; omega)) (fun r h => by first | exact h | exact h.elim | omega | (revert h; dsimp only; omega))
  cases hF
  exact gty1
theorem fr_M_powerAt {q : Nat} {x1 : Int32} {μ : zI} {ν : zJ} {out : (Int32 × zI × zJ)} (hE : E_M_powerAt q x1 μ ν = some out) : zFr (fun _ => False) (fun _ => False) μ ν out.2.1 out.2.2 := (g_M_powerAt_0 hE)
theorem g_M_finds_79 {q : Nat} {r33 : Int32 → zI → zJ → Option (zI × zJ)} {x1 : Int32} {x2 : Int32} {μ : zI} {ν : zJ} {out : (zI × zJ)} (hr33 : ∀ (x1 : Int32) (μ : zI) (ν : zJ), r33 x1 μ ν = some out → zFr (fun r => (q ≤ r ∧ r < q + 12)) (fun _ => False) μ ν out.1 out.2) (hF : e_M_finds_79 q r33 x1 x2 μ ν = some out) : zFr (fun r => (q ≤ r ∧ r < q + 12)) (fun _ => False) μ ν out.1 out.2 := by
  unfold e_M_finds_79 at hF
  have g0 := zFr.rf (fun r => (q ≤ r ∧ r < q + 12)) (fun _ => False) μ ν
  exact zFr.tr g0 (hr33 _ _ _ hF) (fun _ h => h) (fun _ h => h)
theorem g_M_finds_33 {q : Nat}  {out : (zI × zJ)} : ∀ (n : Nat) (x1 : Int32) (μ : zI) (ν : zJ), f_M_finds_33 q  n x1 μ ν = some out → zFr (fun r => (q ≤ r ∧ r < q + 12)) (fun _ => False) μ ν out.1 out.2 := by
  intro n
  induction n with
  | zero => intro x1 μ ν hF; cases hF
  | succ n ih =>
    intro x1 μ ν hF
    dsimp only [f_M_finds_33] at hF
    have g0 := zFr.rf (fun r => (q ≤ r ∧ r < q + 12)) (fun _ => False) μ ν
    rcases Decidable.em (1000 ≤ x1) with cy1 | cy1
    · replace hF := zh_t cy1 hF
      obtain ⟨μy2, hy2, hF⟩ := zh_let hF
      have gy2 := zFr.put g0 (r := (q + 7)) (by first | omega | (dsimp only; omega)) hy2
      cases hF
      exact gy2
    · replace hF := zh_f cy1 hF
      obtain ⟨ty3, hty3, hF⟩ := zh_bind hF
      have gty3 := zFr.tr g0 (fr_M_powerAt hty3) (fun r h => by first | exact h | exact h.elim | omega | (revert h; dsimp only; omega)) (fun r h => by first | exact h | exact h.elim | omega | (revert h; dsimp only; omega))
      obtain ⟨y4, hy4, hF⟩ := zh_let hF
      rcases Decidable.em ((ty3.2.1 (q + 7) 144) < y4) with cy5 | cy5
      · replace hF := zh_t cy5 hF
        obtain ⟨μy6, hy6, hF⟩ := zh_let hF
        have gy6 := zFr.put gty3 (r := (q + 7)) (by first | omega | (dsimp only; omega)) hy6
        obtain ⟨μy7, hy7, hF⟩ := zh_let hF
        have gy7 := zFr.put gy6 (r := (q + 7)) (by first | omega | (dsimp only; omega)) hy7
        exact zFr.tr gy7 (g_M_finds_79 (fun a0 a1 a2 => ih a0 a1 a2) hF) (fun _ h => h) (fun _ h => h)
      · replace hF := zh_f cy5 hF
        exact zFr.tr gty3 (g_M_finds_79 (fun a0 a1 a2 => ih a0 a1 a2) hF) (fun _ h => h) (fun _ h => h)
theorem g_M_finds_0 {q : Nat}   {μ : zI} {ν : zJ} {out : (zI × zJ)} (hF : e_M_finds_0 q   μ ν = some out) : zFr (fun r => (q ≤ r ∧ r < q + 12)) (fun _ => False) μ ν out.1 out.2 := by
  unfold e_M_finds_0 at hF
  have g0 := zFr.rf (fun r => (q ≤ r ∧ r < q + 12)) (fun _ => False) μ ν
  rcases (Decidable.em ((μ (q + 7) 145) = 1)).symm with cy1 | cy1
  · replace hF := zh_f cy1 hF
    obtain ⟨μy2, hy2, hF⟩ := zh_let hF
    have gy2 := zFr.put g0 (r := (q + 7)) (by first | omega | (dsimp only; omega)) hy2
    obtain ⟨μy3, hy3, hF⟩ := zh_let hF
    have gy3 := zFr.put gy2 (r := (q + 7)) (by first | omega | (dsimp only; omega)) hy3
    exact zFr.tr gy3 (g_M_finds_33  zFuel _ _ _ hF) (fun _ h => h) (fun _ h => h)
  · replace hF := zh_t cy1 hF
    cases hF
    exact g0
theorem fr_M_finds {q : Nat} {μ : zI} {ν : zJ} {out : (zI × zJ)} (hE : E_M_finds q μ ν = some out) : zFr (fun r => (q ≤ r ∧ r < q + 12)) (fun _ => False) μ ν out.1 out.2 := (g_M_finds_0 hE)
theorem g_M_bestNow_0 {q : Nat}   {μ : zI} {ν : zJ} {out : (Int32 × zI × zJ)} (hF : e_M_bestNow_0 q   μ ν = some out) : zFr (fun r => (q ≤ r ∧ r < q + 12)) (fun _ => False) μ ν out.2.1 out.2.2 := by
  unfold e_M_bestNow_0 at hF
  have g0 := zFr.rf (fun r => (q ≤ r ∧ r < q + 12)) (fun _ => False) μ ν
  obtain ⟨ty1, hty1, hF⟩ := zh_bind hF
  have gty1 := zFr.tr g0 (fr_M_finds hty1) (fun r h => by first | exact h | exact h.elim | omega | (revert h; dsimp only; omega)) (fun r h => by first | exact h | exact h.elim | omega | (revert h; dsimp only; omega))
  cases hF
  exact gty1
theorem fr_M_bestNow {q : Nat} {μ : zI} {ν : zJ} {out : (Int32 × zI × zJ)} (hE : E_M_bestNow q μ ν = some out) : zFr (fun r => (q ≤ r ∧ r < q + 12)) (fun _ => False) μ ν out.2.1 out.2.2 := (g_M_bestNow_0 hE)
theorem g_M_lights_0 {q : Nat}  {x1 : Int32} {x2 : Int32} {μ : zI} {ν : zJ} {out : (zI × zJ)} (hF : e_M_lights_0 q  x1 x2 μ ν = some out) : zFr (fun r => (q ≤ r ∧ r < q + 12)) (fun _ => False) μ ν out.1 out.2 := by
  unfold e_M_lights_0 at hF
  have g0 := zFr.rf (fun r => (q ≤ r ∧ r < q + 12)) (fun _ => False) μ ν
  obtain ⟨hy1, hF⟩ := zh_if hF
  obtain ⟨μy2, hy2, hF⟩ := zh_let hF
  have gy2 := zFr.put g0 (r := (q + 7)) (by first | omega | (dsimp only; omega)) hy2
  obtain ⟨μy3, hy3, hF⟩ := zh_let hF
  have gy3 := zFr.put gy2 (r := (q + 7)) (by first | omega | (dsimp only; omega)) hy3
  cases hF
  exact gy3
theorem fr_M_lights {q : Nat} {x1 : Int32} {x2 : Int32} {μ : zI} {ν : zJ} {out : (zI × zJ)} (hE : E_M_lights q x1 x2 μ ν = some out) : zFr (fun r => (q ≤ r ∧ r < q + 12)) (fun _ => False) μ ν out.1 out.2 := (g_M_lights_0 hE)
theorem g_M_arrives_90 {q : Nat} {r0 : zI → zJ → Option (zI × zJ)} {x1 : Int32} {μ : zI} {ν : zJ} {out : (zI × zJ)} (hr0 : ∀  (μ : zI) (ν : zJ), r0  μ ν = some out → zFr (fun r => (q ≤ r ∧ r < q + 12)) (fun _ => False) μ ν out.1 out.2) (hF : e_M_arrives_90 q r0 x1 μ ν = some out) : zFr (fun r => (q ≤ r ∧ r < q + 12)) (fun _ => False) μ ν out.1 out.2 := by
  unfold e_M_arrives_90 at hF
  have g0 := zFr.rf (fun r => (q ≤ r ∧ r < q + 12)) (fun _ => False) μ ν
  obtain ⟨ty1, hty1, hF⟩ := zh_bind hF
  have gty1 := zFr.tr g0 (fr_M_removes hty1) (fun r h => by first | exact h | exact h.elim | omega | (revert h; dsimp only; omega)) (fun r h => by first | exact h | exact h.elim | omega | (revert h; dsimp only; omega))
  exact zFr.tr gty1 (hr0  _ _ hF) (fun _ h => h) (fun _ h => h)
theorem g_M_arrives_98 {q : Nat}   {μ : zI} {ν : zJ} {out : (zI × zJ)} (hF : e_M_arrives_98 q   μ ν = some out) : zFr (fun r => (q ≤ r ∧ r < q + 12)) (fun _ => False) μ ν out.1 out.2 := by
  unfold e_M_arrives_98 at hF
  have g0 := zFr.rf (fun r => (q ≤ r ∧ r < q + 12)) (fun _ => False) μ ν
  cases hF
  exact g0
theorem g_M_arrives_0 {q : Nat}  {out : (zI × zJ)} : ∀ (n : Nat)  (μ : zI) (ν : zJ), f_M_arrives_0 q  n  μ ν = some out → zFr (fun r => (q ≤ r ∧ r < q + 12)) (fun _ => False) μ ν out.1 out.2 := by
  intro n
  induction n with
  | zero => intro  μ ν hF; cases hF
  | succ n ih =>
    intro  μ ν hF
    dsimp only [f_M_arrives_0] at hF
    have g0 := zFr.rf (fun r => (q ≤ r ∧ r < q + 12)) (fun _ => False) μ ν
    rcases Decidable.em ((μ (q + 7) 46) ≤ 0) with cy1 | cy1
    · replace hF := zh_t cy1 hF
      exact zFr.tr g0 (g_M_arrives_98  hF) (fun _ h => h) (fun _ h => h)
    · replace hF := zh_f cy1 hF
      rcases (Decidable.em ((μ (q + 7) 47) = (μ (q + 7) 25))).symm with cy2 | cy2
      · replace hF := zh_f cy2 hF
        exact zFr.tr g0 (g_M_arrives_98  hF) (fun _ h => h) (fun _ h => h)
      · replace hF := zh_t cy2 hF
        obtain ⟨y3, hy3, hF⟩ := zh_let hF
        rcases (Decidable.em ((μ (q + 7) 48) = 0)).symm with cy4 | cy4
        · replace hF := zh_f cy4 hF
          rcases (Decidable.em ((μ (q + 7) 48) = 1)).symm with cy5 | cy5
          · replace hF := zh_f cy5 hF
            obtain ⟨μy6, hy6, hF⟩ := zh_let hF
            have gy6 := zFr.put g0 (r := (q + 7)) (by first | omega | (dsimp only; omega)) hy6
            exact zFr.tr gy6 (g_M_arrives_90 (fun a0 a1 => ih a0 a1) hF) (fun _ h => h) (fun _ h => h)
          · replace hF := zh_t cy5 hF
            obtain ⟨μy7, hy7, hF⟩ := zh_let hF
            have gy7 := zFr.put g0 (r := (q + 7)) (by first | omega | (dsimp only; omega)) hy7
            exact zFr.tr gy7 (g_M_arrives_90 (fun a0 a1 => ih a0 a1) hF) (fun _ h => h) (fun _ h => h)
        · replace hF := zh_t cy4 hF
          obtain ⟨ty8, hty8, hF⟩ := zh_bind hF
          have gty8 := zFr.tr g0 (fr_M_lights hty8) (fun r h => by first | exact h | exact h.elim | omega | (revert h; dsimp only; omega)) (fun r h => by first | exact h | exact h.elim | omega | (revert h; dsimp only; omega))
          exact zFr.tr gty8 (g_M_arrives_90 (fun a0 a1 => ih a0 a1) hF) (fun _ h => h) (fun _ h => h)
theorem fr_M_arrives {q : Nat} {μ : zI} {ν : zJ} {out : (zI × zJ)} (hE : E_M_arrives q μ ν = some out) : zFr (fun r => (q ≤ r ∧ r < q + 12)) (fun _ => False) μ ν out.1 out.2 := (g_M_arrives_0 zFuel _ _ hE)
theorem g_M_within_22  {x0 : Int32} {s0 : Int32} {μ : zI} {ν : zJ} {out : (Int32 × zI × zJ)} (hF : e_M_within_22   x0 s0 μ ν = some out) : zFr (fun _ => False) (fun _ => False) μ ν out.2.1 out.2.2 := by
  unfold e_M_within_22 at hF
  have g0 := zFr.rf (fun _ => False) (fun _ => False) μ ν
  cases hF
  exact g0
theorem g_M_within_0  {x0 : Int32} {μ : zI} {ν : zJ} {out : (Int32 × zI × zJ)} (hF : e_M_within_0   x0 μ ν = some out) : zFr (fun _ => False) (fun _ => False) μ ν out.2.1 out.2.2 := by
  unfold e_M_within_0 at hF
  have g0 := zFr.rf (fun _ => False) (fun _ => False) μ ν
  rcases Decidable.em (0 ≤ x0) with cy1 | cy1
  · replace hF := zh_t cy1 hF
    rcases Decidable.em (x0 ≤ 999) with cy2 | cy2
    · replace hF := zh_t cy2 hF
      exact zFr.tr g0 (g_M_within_22  hF) (fun _ h => h) (fun _ h => h)
    · replace hF := zh_f cy2 hF
      exact zFr.tr g0 (g_M_within_22  hF) (fun _ h => h) (fun _ h => h)
  · replace hF := zh_f cy1 hF
    exact zFr.tr g0 (g_M_within_22  hF) (fun _ h => h) (fun _ h => h)
theorem fr_M_within {x0 : Int32} {μ : zI} {ν : zJ} {out : (Int32 × zI × zJ)} (hE : E_M_within x0 μ ν = some out) : zFr (fun _ => False) (fun _ => False) μ ν out.2.1 out.2.2 := (g_M_within_0 hE)
theorem g_M_scans_99 {q : Nat}  {x1 : Int32} {μ : zI} {ν : zJ} {out : (zI × zJ)} (hF : e_M_scans_99 q  x1 μ ν = some out) : zFr (fun r => (q ≤ r ∧ r < q + 12)) (fun r => (q ≤ r ∧ r < q + 12)) μ ν out.1 out.2 := by
  unfold e_M_scans_99 at hF
  have g0 := zFr.rf (fun r => (q ≤ r ∧ r < q + 12)) (fun r => (q ≤ r ∧ r < q + 12)) μ ν
  obtain ⟨μy1, hy1, hF⟩ := zh_let hF
  have gy1 := zFr.put g0 (r := (q + 7)) (by first | omega | (dsimp only; omega)) hy1
  cases hF
  exact gy1
theorem g_M_scans_80 {q : Nat}  {x1 : Int32} {μ : zI} {ν : zJ} {out : (zI × zJ)} (hF : e_M_scans_80 q  x1 μ ν = some out) : zFr (fun r => (q ≤ r ∧ r < q + 12)) (fun r => (q ≤ r ∧ r < q + 12)) μ ν out.1 out.2 := by
  unfold e_M_scans_80 at hF
  have g0 := zFr.rf (fun r => (q ≤ r ∧ r < q + 12)) (fun r => (q ≤ r ∧ r < q + 12)) μ ν
  obtain ⟨μy1, hy1, hF⟩ := zh_let hF
  have gy1 := zFr.put g0 (r := (q + 7)) (by first | omega | (dsimp only; omega)) hy1
  obtain ⟨μy2, hy2, hF⟩ := zh_let hF
  have gy2 := zFr.put gy1 (r := (q + 7)) (by first | omega | (dsimp only; omega)) hy2
  exact zFr.tr gy2 (g_M_scans_99  hF) (fun _ h => h) (fun _ h => h)
theorem g_M_scans_30 {q : Nat}  {s0 : Int32} {μ : zI} {ν : zJ} {out : (zI × zJ)} (hF : e_M_scans_30 q  s0 μ ν = some out) : zFr (fun r => (q ≤ r ∧ r < q + 12)) (fun r => (q ≤ r ∧ r < q + 12)) μ ν out.1 out.2 := by
  unfold e_M_scans_30 at hF
  have g0 := zFr.rf (fun r => (q ≤ r ∧ r < q + 12)) (fun r => (q ≤ r ∧ r < q + 12)) μ ν
  rcases Decidable.em (1000 ≤ s0) with cy1 | cy1
  · replace hF := zh_t cy1 hF
    obtain ⟨μy2, hy2, hF⟩ := zh_let hF
    have gy2 := zFr.put g0 (r := (q + 7)) (by first | omega | (dsimp only; omega)) hy2
    obtain ⟨μy3, hy3, hF⟩ := zh_let hF
    have gy3 := zFr.put gy2 (r := (q + 7)) (by first | omega | (dsimp only; omega)) hy3
    obtain ⟨ty4, hty4, hF⟩ := zh_bind hF
    have gty4 := zFr.tr gy3 (fr_M_powerAt hty4) (fun r h => by first | exact h | exact h.elim | omega | (revert h; dsimp only; omega)) (fun r h => by first | exact h | exact h.elim | omega | (revert h; dsimp only; omega))
    obtain ⟨μy5, hy5, hF⟩ := zh_let hF
    have gy5 := zFr.put gty4 (r := q) (by first | omega | (dsimp only; omega)) hy5
    obtain ⟨μy6, hy6, hF⟩ := zh_let hF
    have gy6 := zFr.put gy5 (r := (q + 7)) (by first | omega | (dsimp only; omega)) hy6
    obtain ⟨μy7, hy7, hF⟩ := zh_let hF
    have gy7 := zFr.put gy6 (r := (q + 7)) (by first | omega | (dsimp only; omega)) hy7
    obtain ⟨μy8, hy8, hF⟩ := zh_let hF
    have gy8 := zFr.put gy7 (r := (q + 7)) (by first | omega | (dsimp only; omega)) hy8
    obtain ⟨μy9, hy9, hF⟩ := zh_let hF
    have gy9 := zFr.put gy8 (r := (q + 7)) (by first | omega | (dsimp only; omega)) hy9
    obtain ⟨μy10, hy10, hF⟩ := zh_let hF
    have gy10 := zFr.put gy9 (r := (q + 7)) (by first | omega | (dsimp only; omega)) hy10
    obtain ⟨νy11, hy11, hF⟩ := zh_let hF
    have gy11 := zFr.putl gy10 (r := (q + 9)) (by first | omega | (dsimp only; omega)) hy11
    cases hF
    exact gy11
  · replace hF := zh_f cy1 hF
    obtain ⟨μy12, hy12, hF⟩ := zh_let hF
    have gy12 := zFr.put g0 (r := (q + 7)) (by first | omega | (dsimp only; omega)) hy12
    obtain ⟨ty13, hty13, hF⟩ := zh_bind hF
    have gty13 := zFr.tr gy12 (fr_M_powerAt hty13) (fun r h => by first | exact h | exact h.elim | omega | (revert h; dsimp only; omega)) (fun r h => by first | exact h | exact h.elim | omega | (revert h; dsimp only; omega))
    obtain ⟨μy14, hy14, hF⟩ := zh_let hF
    have gy14 := zFr.put gty13 (r := q) (by first | omega | (dsimp only; omega)) hy14
    rcases Decidable.em ((μy14 (q + 7) 43) = (-1)) with cy15 | cy15
    · replace hF := zh_t cy15 hF
      exact zFr.tr gy14 (g_M_scans_80  hF) (fun _ h => h) (fun _ h => h)
    · replace hF := zh_f cy15 hF
      rcases Decidable.em ((μy14 q 30) ≤ (μy14 (q + 7) 44)) with cy16 | cy16
      · replace hF := zh_t cy16 hF
        exact zFr.tr gy14 (g_M_scans_99  hF) (fun _ h => h) (fun _ h => h)
      · replace hF := zh_f cy16 hF
        exact zFr.tr gy14 (g_M_scans_80  hF) (fun _ h => h) (fun _ h => h)
theorem g_M_scans_0 {q : Nat}   {μ : zI} {ν : zJ} {out : (zI × zJ)} (hF : e_M_scans_0 q   μ ν = some out) : zFr (fun r => (q ≤ r ∧ r < q + 12)) (fun r => (q ≤ r ∧ r < q + 12)) μ ν out.1 out.2 := by
  unfold e_M_scans_0 at hF
  have g0 := zFr.rf (fun r => (q ≤ r ∧ r < q + 12)) (fun r => (q ≤ r ∧ r < q + 12)) μ ν
  rcases (Decidable.em ((μ (q + 7) 43) = (-1))).symm with cy1 | cy1
  · replace hF := zh_f cy1 hF
    exact zFr.tr g0 (g_M_scans_30  hF) (fun _ h => h) (fun _ h => h)
  · replace hF := zh_t cy1 hF
    exact zFr.tr g0 (g_M_scans_30  hF) (fun _ h => h) (fun _ h => h)
theorem fr_M_scans {q : Nat} {μ : zI} {ν : zJ} {out : (zI × zJ)} (hE : E_M_scans q μ ν = some out) : zFr (fun r => (q ≤ r ∧ r < q + 12)) (fun r => (q ≤ r ∧ r < q + 12)) μ ν out.1 out.2 := (g_M_scans_0 hE)
theorem g_M_learns_71 {q : Nat}  {s1 : Int32} {s2 : Int32} {μ : zI} {ν : zJ} {out : (zI × zJ)} (hF : e_M_learns_71 q  s1 s2 μ ν = some out) : zFr (fun r => (q ≤ r ∧ r < q + 12)) (fun _ => False) μ ν out.1 out.2 := by
  unfold e_M_learns_71 at hF
  have g0 := zFr.rf (fun r => (q ≤ r ∧ r < q + 12)) (fun _ => False) μ ν
  obtain ⟨hy1, hF⟩ := zh_if hF
  obtain ⟨μy2, hy2, hF⟩ := zh_let hF
  have gy2 := zFr.put g0 (r := (q + 7)) (by first | omega | (dsimp only; omega)) hy2
  cases hF
  exact gy2
theorem g_M_learns_0 {q : Nat}   {μ : zI} {ν : zJ} {out : (zI × zJ)} (hF : e_M_learns_0 q   μ ν = some out) : zFr (fun r => (q ≤ r ∧ r < q + 12)) (fun _ => False) μ ν out.1 out.2 := by
  unfold e_M_learns_0 at hF
  have g0 := zFr.rf (fun r => (q ≤ r ∧ r < q + 12)) (fun _ => False) μ ν
  obtain ⟨μy1, hy1, hF⟩ := zh_let hF
  have gy1 := zFr.put g0 (r := (q + 7)) (by first | omega | (dsimp only; omega)) hy1
  rcases Decidable.em ((μy1 (q + 7) 13) ≤ (μy1 (q + 7) 29)) with cy2 | cy2
  · replace hF := zh_t cy2 hF
    obtain ⟨μy3, hy3, hF⟩ := zh_let hF
    have gy3 := zFr.put gy1 (r := (q + 7)) (by first | omega | (dsimp only; omega)) hy3
    rcases Decidable.em ((2 * (μy3 (q + 7) 28)) ≤ 64) with cy4 | cy4
    · replace hF := zh_t cy4 hF
      exact zFr.tr gy3 (g_M_learns_71  hF) (fun _ h => h) (fun _ h => h)
    · replace hF := zh_f cy4 hF
      exact zFr.tr gy3 (g_M_learns_71  hF) (fun _ h => h) (fun _ h => h)
  · replace hF := zh_f cy2 hF
    cases hF
    exact gy1
theorem fr_M_learns {q : Nat} {μ : zI} {ν : zJ} {out : (zI × zJ)} (hE : E_M_learns q μ ν = some out) : zFr (fun r => (q ≤ r ∧ r < q + 12)) (fun _ => False) μ ν out.1 out.2 := (g_M_learns_0 hE)
theorem g_M_slows_32 {q : Nat}  {s1 : Int32} {s2 : Int32} {μ : zI} {ν : zJ} {out : (zI × zJ)} (hF : e_M_slows_32 q  s1 s2 μ ν = some out) : zFr (fun r => (q ≤ r ∧ r < q + 12)) (fun _ => False) μ ν out.1 out.2 := by
  unfold e_M_slows_32 at hF
  have g0 := zFr.rf (fun r => (q ≤ r ∧ r < q + 12)) (fun _ => False) μ ν
  obtain ⟨hy1, hF⟩ := zh_if hF
  obtain ⟨μy2, hy2, hF⟩ := zh_let hF
  have gy2 := zFr.put g0 (r := (q + 7)) (by first | omega | (dsimp only; omega)) hy2
  obtain ⟨μy3, hy3, hF⟩ := zh_let hF
  have gy3 := zFr.put gy2 (r := (q + 7)) (by first | omega | (dsimp only; omega)) hy3
  cases hF
  exact gy3
theorem g_M_slows_0 {q : Nat}   {μ : zI} {ν : zJ} {out : (zI × zJ)} (hF : e_M_slows_0 q   μ ν = some out) : zFr (fun r => (q ≤ r ∧ r < q + 12)) (fun _ => False) μ ν out.1 out.2 := by
  unfold e_M_slows_0 at hF
  have g0 := zFr.rf (fun r => (q ≤ r ∧ r < q + 12)) (fun _ => False) μ ν
  rcases Decidable.em (1 ≤ ((μ (q + 7) 28) / 2)) with cy1 | cy1
  · replace hF := zh_t cy1 hF
    exact zFr.tr g0 (g_M_slows_32  hF) (fun _ h => h) (fun _ h => h)
  · replace hF := zh_f cy1 hF
    exact zFr.tr g0 (g_M_slows_32  hF) (fun _ h => h) (fun _ h => h)
theorem fr_M_slows {q : Nat} {μ : zI} {ν : zJ} {out : (zI × zJ)} (hE : E_M_slows q μ ν = some out) : zFr (fun r => (q ≤ r ∧ r < q + 12)) (fun _ => False) μ ν out.1 out.2 := (g_M_slows_0 hE)
theorem g_M_climbs_88 {q : Nat}   {μ : zI} {ν : zJ} {out : (zI × zJ)} (hF : e_M_climbs_88 q   μ ν = some out) : zFr (fun r => (q ≤ r ∧ r < q + 12)) (fun _ => False) μ ν out.1 out.2 := by
  unfold e_M_climbs_88 at hF
  have g0 := zFr.rf (fun r => (q ≤ r ∧ r < q + 12)) (fun _ => False) μ ν
  cases hF
  exact g0
theorem g_M_climbs_0 {q : Nat}   {μ : zI} {ν : zJ} {out : (zI × zJ)} (hF : e_M_climbs_0 q   μ ν = some out) : zFr (fun r => (q ≤ r ∧ r < q + 12)) (fun _ => False) μ ν out.1 out.2 := by
  unfold e_M_climbs_0 at hF
  have g0 := zFr.rf (fun r => (q ≤ r ∧ r < q + 12)) (fun _ => False) μ ν
  obtain ⟨ty1, hty1, hF⟩ := zh_bind hF
  have gty1 := zFr.tr g0 (fr_M_within hty1) (fun r h => by first | exact h | exact h.elim | omega | (revert h; dsimp only; omega)) (fun r h => by first | exact h | exact h.elim | omega | (revert h; dsimp only; omega))
  obtain ⟨μy2, hy2, hF⟩ := zh_let hF
  have gy2 := zFr.put gty1 (r := (q + 7)) (by first | omega | (dsimp only; omega)) hy2
  obtain ⟨ty3, hty3, hF⟩ := zh_bind hF
  have gty3 := zFr.tr gy2 (fr_M_powerAt hty3) (fun r h => by first | exact h | exact h.elim | omega | (revert h; dsimp only; omega)) (fun r h => by first | exact h | exact h.elim | omega | (revert h; dsimp only; omega))
  obtain ⟨μy4, hy4, hF⟩ := zh_let hF
  have gy4 := zFr.put gty3 (r := q) (by first | omega | (dsimp only; omega)) hy4
  rcases Decidable.em ((μy4 q 30) ≤ (μy4 (q + 7) 30)) with cy5 | cy5
  · replace hF := zh_t cy5 hF
    obtain ⟨μy6, hy6, hF⟩ := zh_let hF
    have gy6 := zFr.put gy4 (r := (q + 7)) (by first | omega | (dsimp only; omega)) hy6
    obtain ⟨ty7, hty7, hF⟩ := zh_bind hF
    have gty7 := zFr.tr gy6 (fr_M_slows hty7) (fun r h => by first | exact h | exact h.elim | omega | (revert h; dsimp only; omega)) (fun r h => by first | exact h | exact h.elim | omega | (revert h; dsimp only; omega))
    exact zFr.tr gty7 (g_M_climbs_88  hF) (fun _ h => h) (fun _ h => h)
  · replace hF := zh_f cy5 hF
    obtain ⟨ty8, hty8, hF⟩ := zh_bind hF
    have gty8 := zFr.tr gy4 (fr_M_learns hty8) (fun r h => by first | exact h | exact h.elim | omega | (revert h; dsimp only; omega)) (fun r h => by first | exact h | exact h.elim | omega | (revert h; dsimp only; omega))
    exact zFr.tr gty8 (g_M_climbs_88  hF) (fun _ h => h) (fun _ h => h)
theorem fr_M_climbs {q : Nat} {μ : zI} {ν : zJ} {out : (zI × zJ)} (hE : E_M_climbs q μ ν = some out) : zFr (fun r => (q ≤ r ∧ r < q + 12)) (fun _ => False) μ ν out.1 out.2 := (g_M_climbs_0 hE)
theorem g_M_slopes_135 {q : Nat}  {x1 : Int32} {x2 : Int32} {x3 : Int32} {x4 : Int32} {μ : zI} {ν : zJ} {out : (zI × zJ)} (hF : e_M_slopes_135 q  x1 x2 x3 x4 μ ν = some out) : zFr (fun r => (q ≤ r ∧ r < q + 12)) (fun _ => False) μ ν out.1 out.2 := by
  unfold e_M_slopes_135 at hF
  have g0 := zFr.rf (fun r => (q ≤ r ∧ r < q + 12)) (fun _ => False) μ ν
  obtain ⟨ty1, hty1, hF⟩ := zh_bind hF
  have gty1 := zFr.tr g0 (fr_M_powerAt hty1) (fun r h => by first | exact h | exact h.elim | omega | (revert h; dsimp only; omega)) (fun r h => by first | exact h | exact h.elim | omega | (revert h; dsimp only; omega))
  obtain ⟨μy2, hy2, hF⟩ := zh_let hF
  have gy2 := zFr.put gty1 (r := q) (by first | omega | (dsimp only; omega)) hy2
  cases hF
  exact gy2
theorem g_M_slopes_79 {q : Nat}  {x1 : Int32} {x2 : Int32} {x3 : Int32} {x4 : Int32} {s0 : Int32} {μ : zI} {ν : zJ} {out : (zI × zJ)} (hF : e_M_slopes_79 q  x1 x2 x3 x4 s0 μ ν = some out) : zFr (fun r => (q ≤ r ∧ r < q + 12)) (fun _ => False) μ ν out.1 out.2 := by
  unfold e_M_slopes_79 at hF
  have g0 := zFr.rf (fun r => (q ≤ r ∧ r < q + 12)) (fun _ => False) μ ν
  obtain ⟨ty1, hty1, hF⟩ := zh_bind hF
  have gty1 := zFr.tr g0 (fr_M_within hty1) (fun r h => by first | exact h | exact h.elim | omega | (revert h; dsimp only; omega)) (fun r h => by first | exact h | exact h.elim | omega | (revert h; dsimp only; omega))
  obtain ⟨μy2, hy2, hF⟩ := zh_let hF
  have gy2 := zFr.put gty1 (r := (q + 7)) (by first | omega | (dsimp only; omega)) hy2
  rcases (Decidable.em (s0 = (μy2 (q + 7) 27))).symm with cy3 | cy3
  · replace hF := zh_f cy3 hF
    obtain ⟨μy4, hy4, hF⟩ := zh_let hF
    have gy4 := zFr.put gy2 (r := (q + 7)) (by first | omega | (dsimp only; omega)) hy4
    obtain ⟨ty5, hty5, hF⟩ := zh_bind hF
    have gty5 := zFr.tr gy4 (fr_M_slows hty5) (fun r h => by first | exact h | exact h.elim | omega | (revert h; dsimp only; omega)) (fun r h => by first | exact h | exact h.elim | omega | (revert h; dsimp only; omega))
    exact zFr.tr gty5 (g_M_slopes_135  hF) (fun _ h => h) (fun _ h => h)
  · replace hF := zh_t cy3 hF
    obtain ⟨ty6, hty6, hF⟩ := zh_bind hF
    have gty6 := zFr.tr gy2 (fr_M_learns hty6) (fun r h => by first | exact h | exact h.elim | omega | (revert h; dsimp only; omega)) (fun r h => by first | exact h | exact h.elim | omega | (revert h; dsimp only; omega))
    exact zFr.tr gty6 (g_M_slopes_135  hF) (fun _ h => h) (fun _ h => h)
theorem g_M_slopes_68 {q : Nat}  {x1 : Int32} {x2 : Int32} {x3 : Int32} {x4 : Int32} {μ : zI} {ν : zJ} {out : (zI × zJ)} (hF : e_M_slopes_68 q  x1 x2 x3 x4 μ ν = some out) : zFr (fun r => (q ≤ r ∧ r < q + 12)) (fun _ => False) μ ν out.1 out.2 := by
  unfold e_M_slopes_68 at hF
  have g0 := zFr.rf (fun r => (q ≤ r ∧ r < q + 12)) (fun _ => False) μ ν
  rcases Decidable.em (x3 ≤ x4) with cy1 | cy1
  · replace hF := zh_t cy1 hF
    exact zFr.tr g0 (g_M_slopes_79  hF) (fun _ h => h) (fun _ h => h)
  · replace hF := zh_f cy1 hF
    exact zFr.tr g0 (g_M_slopes_79  hF) (fun _ h => h) (fun _ h => h)
theorem g_M_slopes_48 {q : Nat}  {x1 : Int32} {x2 : Int32} {x3 : Int32} {s0 : Int32} {μ : zI} {ν : zJ} {out : (zI × zJ)} (hF : e_M_slopes_48 q  x1 x2 x3 s0 μ ν = some out) : zFr (fun r => (q ≤ r ∧ r < q + 12)) (fun _ => False) μ ν out.1 out.2 := by
  unfold e_M_slopes_48 at hF
  have g0 := zFr.rf (fun r => (q ≤ r ∧ r < q + 12)) (fun _ => False) μ ν
  rcases Decidable.em (x2 < x3) with cy1 | cy1
  · replace hF := zh_t cy1 hF
    exact zFr.tr g0 (g_M_slopes_68  hF) (fun _ h => h) (fun _ h => h)
  · replace hF := zh_f cy1 hF
    rcases Decidable.em (x2 < s0) with cy2 | cy2
    · replace hF := zh_t cy2 hF
      exact zFr.tr g0 (g_M_slopes_68  hF) (fun _ h => h) (fun _ h => h)
    · replace hF := zh_f cy2 hF
      obtain ⟨ty3, hty3, hF⟩ := zh_bind hF
      have gty3 := zFr.tr g0 (fr_M_slows hty3) (fun r h => by first | exact h | exact h.elim | omega | (revert h; dsimp only; omega)) (fun r h => by first | exact h | exact h.elim | omega | (revert h; dsimp only; omega))
      exact zFr.tr gty3 (g_M_slopes_135  hF) (fun _ h => h) (fun _ h => h)
theorem g_M_slopes_32 {q : Nat}  {x1 : Int32} {x2 : Int32} {s0 : Int32} {μ : zI} {ν : zJ} {out : (zI × zJ)} (hF : e_M_slopes_32 q  x1 x2 s0 μ ν = some out) : zFr (fun r => (q ≤ r ∧ r < q + 12)) (fun _ => False) μ ν out.1 out.2 := by
  unfold e_M_slopes_32 at hF
  have g0 := zFr.rf (fun r => (q ≤ r ∧ r < q + 12)) (fun _ => False) μ ν
  rcases Decidable.em (x1 ≤ 0) with cy1 | cy1
  · replace hF := zh_t cy1 hF
    exact zFr.tr g0 (g_M_slopes_48  hF) (fun _ h => h) (fun _ h => h)
  · replace hF := zh_f cy1 hF
    obtain ⟨ty2, hty2, hF⟩ := zh_bind hF
    have gty2 := zFr.tr g0 (fr_M_powerAt hty2) (fun r h => by first | exact h | exact h.elim | omega | (revert h; dsimp only; omega)) (fun r h => by first | exact h | exact h.elim | omega | (revert h; dsimp only; omega))
    exact zFr.tr gty2 (g_M_slopes_48  hF) (fun _ h => h) (fun _ h => h)
theorem g_M_slopes_0 {q : Nat}   {μ : zI} {ν : zJ} {out : (zI × zJ)} (hF : e_M_slopes_0 q   μ ν = some out) : zFr (fun r => (q ≤ r ∧ r < q + 12)) (fun _ => False) μ ν out.1 out.2 := by
  unfold e_M_slopes_0 at hF
  have g0 := zFr.rf (fun r => (q ≤ r ∧ r < q + 12)) (fun _ => False) μ ν
  obtain ⟨y1, hy1, hF⟩ := zh_let hF
  obtain ⟨ty2, hty2, hF⟩ := zh_bind hF
  have gty2 := zFr.tr g0 (fr_M_powerAt hty2) (fun r h => by first | exact h | exact h.elim | omega | (revert h; dsimp only; omega)) (fun r h => by first | exact h | exact h.elim | omega | (revert h; dsimp only; omega))
  obtain ⟨y3, hy3, hF⟩ := zh_let hF
  rcases Decidable.em (999 ≤ y1) with cy4 | cy4
  · replace hF := zh_t cy4 hF
    exact zFr.tr gty2 (g_M_slopes_32  hF) (fun _ h => h) (fun _ h => h)
  · replace hF := zh_f cy4 hF
    obtain ⟨ty5, hty5, hF⟩ := zh_bind hF
    have gty5 := zFr.tr gty2 (fr_M_powerAt hty5) (fun r h => by first | exact h | exact h.elim | omega | (revert h; dsimp only; omega)) (fun r h => by first | exact h | exact h.elim | omega | (revert h; dsimp only; omega))
    exact zFr.tr gty5 (g_M_slopes_32  hF) (fun _ h => h) (fun _ h => h)
theorem fr_M_slopes {q : Nat} {μ : zI} {ν : zJ} {out : (zI × zJ)} (hE : E_M_slopes q μ ν = some out) : zFr (fun r => (q ≤ r ∧ r < q + 12)) (fun _ => False) μ ν out.1 out.2 := (g_M_slopes_0 hE)
theorem g_M_shared_30 {q : Nat} {r4 : Int32 → Int32 → Int32 → zI → zJ → Option (Int32 × zI × zJ)} {x1 : Int32} {x2 : Int32} {x3 : Int32} {s0 : Int32} {μ : zI} {ν : zJ} {out : (Int32 × zI × zJ)} (hr4 : ∀ (x1 : Int32) (x2 : Int32) (x3 : Int32) (μ : zI) (ν : zJ), r4 x1 x2 x3 μ ν = some out → zFr (fun _ => False) (fun _ => False) μ ν out.2.1 out.2.2) (hF : e_M_shared_30 q r4 x1 x2 x3 s0 μ ν = some out) : zFr (fun _ => False) (fun _ => False) μ ν out.2.1 out.2.2 := by
  unfold e_M_shared_30 at hF
  have g0 := zFr.rf (fun _ => False) (fun _ => False) μ ν
  exact zFr.tr g0 (hr4 _ _ _ _ _ hF) (fun _ h => h) (fun _ h => h)
theorem g_M_shared_4 {q : Nat}  {out : (Int32 × zI × zJ)} : ∀ (n : Nat) (x1 : Int32) (x2 : Int32) (x3 : Int32) (μ : zI) (ν : zJ), f_M_shared_4 q  n x1 x2 x3 μ ν = some out → zFr (fun _ => False) (fun _ => False) μ ν out.2.1 out.2.2 := by
  intro n
  induction n with
  | zero => intro x1 x2 x3 μ ν hF; cases hF
  | succ n ih =>
    intro x1 x2 x3 μ ν hF
    dsimp only [f_M_shared_4] at hF
    have g0 := zFr.rf (fun _ => False) (fun _ => False) μ ν
    rcases Decidable.em ((μ q 9) ≤ x3) with cy1 | cy1
    · replace hF := zh_t cy1 hF
      cases hF
      exact g0
    · replace hF := zh_f cy1 hF
      obtain ⟨ty2, hty2, hF⟩ := zh_bind hF
      have gty2 := zFr.tr g0 (fr_M_litOf hty2) (fun r h => by first | exact h | exact h.elim | omega | (revert h; dsimp only; omega)) (fun r h => by first | exact h | exact h.elim | omega | (revert h; dsimp only; omega))
      rcases Decidable.em (ty2.1 ≤ x2) with cy3 | cy3
      · replace hF := zh_t cy3 hF
        exact zFr.tr gty2 (g_M_shared_30 (fun a0 a1 a2 a3 a4 => ih a0 a1 a2 a3 a4) hF) (fun _ h => h) (fun _ h => h)
      · replace hF := zh_f cy3 hF
        obtain ⟨ty4, hty4, hF⟩ := zh_bind hF
        have gty4 := zFr.tr gty2 (fr_M_litOf hty4) (fun r h => by first | exact h | exact h.elim | omega | (revert h; dsimp only; omega)) (fun r h => by first | exact h | exact h.elim | omega | (revert h; dsimp only; omega))
        exact zFr.tr gty4 (g_M_shared_30 (fun a0 a1 a2 a3 a4 => ih a0 a1 a2 a3 a4) hF) (fun _ h => h) (fun _ h => h)
theorem g_M_shared_0 {q : Nat}  {x1 : Int32} {μ : zI} {ν : zJ} {out : (Int32 × zI × zJ)} (hF : e_M_shared_0 q  x1 μ ν = some out) : zFr (fun _ => False) (fun _ => False) μ ν out.2.1 out.2.2 := by
  unfold e_M_shared_0 at hF
  have g0 := zFr.rf (fun _ => False) (fun _ => False) μ ν
  exact zFr.tr g0 (g_M_shared_4  zFuel _ _ _ _ _ hF) (fun _ h => h) (fun _ h => h)
theorem fr_M_shared {q : Nat} {x1 : Int32} {μ : zI} {ν : zJ} {out : (Int32 × zI × zJ)} (hE : E_M_shared q x1 μ ν = some out) : zFr (fun _ => False) (fun _ => False) μ ν out.2.1 out.2.2 := (g_M_shared_0 hE)
theorem g_M_startsScan_0 {q : Nat}   {μ : zI} {ν : zJ} {out : (zI × zJ)} (hF : e_M_startsScan_0 q   μ ν = some out) : zFr (fun r => (q ≤ r ∧ r < q + 12)) (fun _ => False) μ ν out.1 out.2 := by
  unfold e_M_startsScan_0 at hF
  have g0 := zFr.rf (fun r => (q ≤ r ∧ r < q + 12)) (fun _ => False) μ ν
  obtain ⟨μy1, hy1, hF⟩ := zh_let hF
  have gy1 := zFr.put g0 (r := (q + 7)) (by first | omega | (dsimp only; omega)) hy1
  obtain ⟨μy2, hy2, hF⟩ := zh_let hF
  have gy2 := zFr.put gy1 (r := (q + 7)) (by first | omega | (dsimp only; omega)) hy2
  obtain ⟨μy3, hy3, hF⟩ := zh_let hF
  have gy3 := zFr.put gy2 (r := (q + 7)) (by first | omega | (dsimp only; omega)) hy3
  obtain ⟨μy4, hy4, hF⟩ := zh_let hF
  have gy4 := zFr.put gy3 (r := (q + 7)) (by first | omega | (dsimp only; omega)) hy4
  cases hF
  exact gy4
theorem fr_M_startsScan {q : Nat} {μ : zI} {ν : zJ} {out : (zI × zJ)} (hE : E_M_startsScan q μ ν = some out) : zFr (fun r => (q ≤ r ∧ r < q + 12)) (fun _ => False) μ ν out.1 out.2 := (g_M_startsScan_0 hE)
theorem g_M_follows_206 {q : Nat}  {x1 : Int32} {x2 : Int32} {μ : zI} {ν : zJ} {out : (zI × zJ)} (hF : e_M_follows_206 q  x1 x2 μ ν = some out) : zFr (fun r => (q ≤ r ∧ r < q + 12)) (fun r => (q ≤ r ∧ r < q + 12)) μ ν out.1 out.2 := by
  unfold e_M_follows_206 at hF
  have g0 := zFr.rf (fun r => (q ≤ r ∧ r < q + 12)) (fun r => (q ≤ r ∧ r < q + 12)) μ ν
  obtain ⟨μy1, hy1, hF⟩ := zh_let hF
  have gy1 := zFr.put g0 (r := (q + 7)) (by first | omega | (dsimp only; omega)) hy1
  cases hF
  exact gy1
theorem g_M_follows_202 {q : Nat}  {x1 : Int32} {x2 : Int32} {μ : zI} {ν : zJ} {out : (zI × zJ)} (hF : e_M_follows_202 q  x1 x2 μ ν = some out) : zFr (fun r => (q ≤ r ∧ r < q + 12)) (fun r => (q ≤ r ∧ r < q + 12)) μ ν out.1 out.2 := by
  unfold e_M_follows_202 at hF
  have g0 := zFr.rf (fun r => (q ≤ r ∧ r < q + 12)) (fun r => (q ≤ r ∧ r < q + 12)) μ ν
  obtain ⟨ty1, hty1, hF⟩ := zh_bind hF
  have gty1 := zFr.tr g0 (fr_M_startsScan hty1) (fun r h => by first | exact h | exact h.elim | omega | (revert h; dsimp only; omega)) (fun r h => by first | exact h | exact h.elim | omega | (revert h; dsimp only; omega))
  exact zFr.tr gty1 (g_M_follows_206  hF) (fun _ h => h) (fun _ h => h)
theorem g_M_follows_193 {q : Nat}  {x1 : Int32} {s0 : Int32} {μ : zI} {ν : zJ} {out : (zI × zJ)} (hF : e_M_follows_193 q  x1 s0 μ ν = some out) : zFr (fun r => (q ≤ r ∧ r < q + 12)) (fun r => (q ≤ r ∧ r < q + 12)) μ ν out.1 out.2 := by
  unfold e_M_follows_193 at hF
  have g0 := zFr.rf (fun r => (q ≤ r ∧ r < q + 12)) (fun r => (q ≤ r ∧ r < q + 12)) μ ν
  rcases (Decidable.em (x1 = 0)).symm with cy1 | cy1
  · replace hF := zh_f cy1 hF
    exact zFr.tr g0 (g_M_follows_202  hF) (fun _ h => h) (fun _ h => h)
  · replace hF := zh_t cy1 hF
    rcases Decidable.em (s0 = 0) with cy2 | cy2
    · replace hF := zh_t cy2 hF
      exact zFr.tr g0 (g_M_follows_206  hF) (fun _ h => h) (fun _ h => h)
    · replace hF := zh_f cy2 hF
      exact zFr.tr g0 (g_M_follows_202  hF) (fun _ h => h) (fun _ h => h)
theorem g_M_follows_192 {q : Nat}  {x1 : Int32} {μ : zI} {ν : zJ} {out : (zI × zJ)} (hF : e_M_follows_192 q  x1 μ ν = some out) : zFr (fun r => (q ≤ r ∧ r < q + 12)) (fun r => (q ≤ r ∧ r < q + 12)) μ ν out.1 out.2 := by
  unfold e_M_follows_192 at hF
  have g0 := zFr.rf (fun r => (q ≤ r ∧ r < q + 12)) (fun r => (q ≤ r ∧ r < q + 12)) μ ν
  exact zFr.tr g0 (g_M_follows_193  hF) (fun _ h => h) (fun _ h => h)
theorem g_M_follows_144 {q : Nat}  {s0 : Int32} {μ : zI} {ν : zJ} {out : (zI × zJ)} (hF : e_M_follows_144 q  s0 μ ν = some out) : zFr (fun r => (q ≤ r ∧ r < q + 12)) (fun r => (q ≤ r ∧ r < q + 12)) μ ν out.1 out.2 := by
  unfold e_M_follows_144 at hF
  have g0 := zFr.rf (fun r => (q ≤ r ∧ r < q + 12)) (fun r => (q ≤ r ∧ r < q + 12)) μ ν
  rcases Decidable.em ((μ (q + 7) 16) ≤ 0) with cy1 | cy1
  · replace hF := zh_t cy1 hF
    exact zFr.tr g0 (g_M_follows_192  hF) (fun _ h => h) (fun _ h => h)
  · replace hF := zh_f cy1 hF
    rcases Decidable.em (0 ≤ (lg_cmp (100 * (Int32.toInt64 (μ q 30))) ((Int32.toInt64 (μ (q + 7) 30)) * (Int32.toInt64 (100 - (μ (q + 7) 16)))))) with cy2 | cy2
    · replace hF := zh_t cy2 hF
      exact zFr.tr g0 (g_M_follows_192  hF) (fun _ h => h) (fun _ h => h)
    · replace hF := zh_f cy2 hF
      exact zFr.tr g0 (g_M_follows_193  hF) (fun _ h => h) (fun _ h => h)
theorem g_M_follows_143 {q : Nat}   {μ : zI} {ν : zJ} {out : (zI × zJ)} (hF : e_M_follows_143 q   μ ν = some out) : zFr (fun r => (q ≤ r ∧ r < q + 12)) (fun r => (q ≤ r ∧ r < q + 12)) μ ν out.1 out.2 := by
  unfold e_M_follows_143 at hF
  have g0 := zFr.rf (fun r => (q ≤ r ∧ r < q + 12)) (fun r => (q ≤ r ∧ r < q + 12)) μ ν
  exact zFr.tr g0 (g_M_follows_144  hF) (fun _ h => h) (fun _ h => h)
theorem g_M_follows_112 {q : Nat}   {μ : zI} {ν : zJ} {out : (zI × zJ)} (hF : e_M_follows_112 q   μ ν = some out) : zFr (fun r => (q ≤ r ∧ r < q + 12)) (fun r => (q ≤ r ∧ r < q + 12)) μ ν out.1 out.2 := by
  unfold e_M_follows_112 at hF
  have g0 := zFr.rf (fun r => (q ≤ r ∧ r < q + 12)) (fun r => (q ≤ r ∧ r < q + 12)) μ ν
  rcases Decidable.em ((μ (q + 7) 15) ≤ 0) with cy1 | cy1
  · replace hF := zh_t cy1 hF
    exact zFr.tr g0 (g_M_follows_143  hF) (fun _ h => h) (fun _ h => h)
  · replace hF := zh_f cy1 hF
    rcases Decidable.em ((μ (q + 7) 32) < (μ (q + 7) 15)) with cy2 | cy2
    · replace hF := zh_t cy2 hF
      exact zFr.tr g0 (g_M_follows_143  hF) (fun _ h => h) (fun _ h => h)
    · replace hF := zh_f cy2 hF
      exact zFr.tr g0 (g_M_follows_144  hF) (fun _ h => h) (fun _ h => h)
theorem g_M_follows_17 {q : Nat}  {s1 : Int32} {μ : zI} {ν : zJ} {out : (zI × zJ)} (hF : e_M_follows_17 q  s1 μ ν = some out) : zFr (fun r => (q ≤ r ∧ r < q + 12)) (fun r => (q ≤ r ∧ r < q + 12)) μ ν out.1 out.2 := by
  unfold e_M_follows_17 at hF
  have g0 := zFr.rf (fun r => (q ≤ r ∧ r < q + 12)) (fun r => (q ≤ r ∧ r < q + 12)) μ ν
  obtain ⟨hy1, hF⟩ := zh_if hF
  obtain ⟨μy2, hy2, hF⟩ := zh_let hF
  have gy2 := zFr.put g0 (r := q) (by first | omega | (dsimp only; omega)) hy2
  rcases Decidable.em ((μy2 q 31) = 0) with cy3 | cy3
  · replace hF := zh_t cy3 hF
    obtain ⟨μy4, hy4, hF⟩ := zh_let hF
    have gy4 := zFr.put gy2 (r := (q + 7)) (by first | omega | (dsimp only; omega)) hy4
    rcases (Decidable.em ((μy4 (q + 7) 17) = 2)).symm with cy5 | cy5
    · replace hF := zh_f cy5 hF
      rcases (Decidable.em ((μy4 (q + 7) 17) = 1)).symm with cy6 | cy6
      · replace hF := zh_f cy6 hF
        obtain ⟨ty7, hty7, hF⟩ := zh_bind hF
        have gty7 := zFr.tr gy4 (fr_M_climbs hty7) (fun r h => by first | exact h | exact h.elim | omega | (revert h; dsimp only; omega)) (fun r h => by first | exact h | exact h.elim | omega | (revert h; dsimp only; omega))
        exact zFr.tr gty7 (g_M_follows_112  hF) (fun _ h => h) (fun _ h => h)
      · replace hF := zh_t cy6 hF
        obtain ⟨ty8, hty8, hF⟩ := zh_bind hF
        have gty8 := zFr.tr gy4 (fr_M_slopes hty8) (fun r h => by first | exact h | exact h.elim | omega | (revert h; dsimp only; omega)) (fun r h => by first | exact h | exact h.elim | omega | (revert h; dsimp only; omega))
        exact zFr.tr gty8 (g_M_follows_112  hF) (fun _ h => h) (fun _ h => h)
    · replace hF := zh_t cy5 hF
      obtain ⟨ty9, hty9, hF⟩ := zh_bind hF
      have gty9 := zFr.tr gy4 (fr_M_shared hty9) (fun r h => by first | exact h | exact h.elim | omega | (revert h; dsimp only; omega)) (fun r h => by first | exact h | exact h.elim | omega | (revert h; dsimp only; omega))
      obtain ⟨μy10, hy10, hF⟩ := zh_let hF
      have gy10 := zFr.put gty9 (r := (q + 7)) (by first | omega | (dsimp only; omega)) hy10
      obtain ⟨ty11, hty11, hF⟩ := zh_bind hF
      have gty11 := zFr.tr gy10 (fr_M_powerAt hty11) (fun r h => by first | exact h | exact h.elim | omega | (revert h; dsimp only; omega)) (fun r h => by first | exact h | exact h.elim | omega | (revert h; dsimp only; omega))
      obtain ⟨μy12, hy12, hF⟩ := zh_let hF
      have gy12 := zFr.put gty11 (r := q) (by first | omega | (dsimp only; omega)) hy12
      exact zFr.tr gy12 (g_M_follows_112  hF) (fun _ h => h) (fun _ h => h)
  · replace hF := zh_f cy3 hF
    obtain ⟨ty13, hty13, hF⟩ := zh_bind hF
    have gty13 := zFr.tr gy2 (fr_M_scans hty13) (fun r h => by first | exact h | exact h.elim | omega | (revert h; dsimp only; omega)) (fun r h => by first | exact h | exact h.elim | omega | (revert h; dsimp only; omega))
    cases hF
    exact gty13
theorem g_M_follows_0 {q : Nat}   {μ : zI} {ν : zJ} {out : (zI × zJ)} (hF : e_M_follows_0 q   μ ν = some out) : zFr (fun r => (q ≤ r ∧ r < q + 12)) (fun r => (q ≤ r ∧ r < q + 12)) μ ν out.1 out.2 := by
  unfold e_M_follows_0 at hF
  have g0 := zFr.rf (fun r => (q ≤ r ∧ r < q + 12)) (fun r => (q ≤ r ∧ r < q + 12)) μ ν
  rcases (Decidable.em ((μ (q + 7) 31) = 1)).symm with cy1 | cy1
  · replace hF := zh_f cy1 hF
    exact zFr.tr g0 (g_M_follows_17  hF) (fun _ h => h) (fun _ h => h)
  · replace hF := zh_t cy1 hF
    exact zFr.tr g0 (g_M_follows_17  hF) (fun _ h => h) (fun _ h => h)
theorem fr_M_follows {q : Nat} {μ : zI} {ν : zJ} {out : (zI × zJ)} (hE : E_M_follows q μ ν = some out) : zFr (fun r => (q ≤ r ∧ r < q + 12)) (fun r => (q ≤ r ∧ r < q + 12)) μ ν out.1 out.2 := (g_M_follows_0 hE)
theorem g_M_charges_436 {q : Nat}  {x1 : Int32} {x2 : Int32} {μ : zI} {ν : zJ} {out : (zI × zJ)} (hF : e_M_charges_436 q  x1 x2 μ ν = some out) : zFr (fun r => (q ≤ r ∧ r < q + 12)) (fun r => (q ≤ r ∧ r < q + 12)) μ ν out.1 out.2 := by
  unfold e_M_charges_436 at hF
  have g0 := zFr.rf (fun r => (q ≤ r ∧ r < q + 12)) (fun r => (q ≤ r ∧ r < q + 12)) μ ν
  cases hF
  exact g0
theorem g_M_charges_268 {q : Nat}  {x1 : Int32} {x2 : Int32} {μ : zI} {ν : zJ} {out : (zI × zJ)} (hF : e_M_charges_268 q  x1 x2 μ ν = some out) : zFr (fun r => (q ≤ r ∧ r < q + 12)) (fun r => (q ≤ r ∧ r < q + 12)) μ ν out.1 out.2 := by
  unfold e_M_charges_268 at hF
  have g0 := zFr.rf (fun r => (q ≤ r ∧ r < q + 12)) (fun r => (q ≤ r ∧ r < q + 12)) μ ν
  obtain ⟨μy1, hy1, hF⟩ := zh_let hF
  have gy1 := zFr.put g0 (r := (q + 7)) (by first | omega | (dsimp only; omega)) hy1
  obtain ⟨μy2, hy2, hF⟩ := zh_let hF
  have gy2 := zFr.put gy1 (r := (q + 7)) (by first | omega | (dsimp only; omega)) hy2
  obtain ⟨νy3, hy3, hF⟩ := zh_let hF
  have gy3 := zFr.putl gy2 (r := (q + 9)) (by first | omega | (dsimp only; omega)) hy3
  exact zFr.tr gy3 (g_M_charges_436  hF) (fun _ h => h) (fun _ h => h)
theorem g_M_charges_364 {q : Nat}  {x1 : Int32} {x2 : Int32} {μ : zI} {ν : zJ} {out : (zI × zJ)} (hF : e_M_charges_364 q  x1 x2 μ ν = some out) : zFr (fun r => (q ≤ r ∧ r < q + 12)) (fun r => (q ≤ r ∧ r < q + 12)) μ ν out.1 out.2 := by
  unfold e_M_charges_364 at hF
  have g0 := zFr.rf (fun r => (q ≤ r ∧ r < q + 12)) (fun r => (q ≤ r ∧ r < q + 12)) μ ν
  obtain ⟨μy1, hy1, hF⟩ := zh_let hF
  have gy1 := zFr.put g0 (r := (q + 7)) (by first | omega | (dsimp only; omega)) hy1
  obtain ⟨νy2, hy2, hF⟩ := zh_let hF
  have gy2 := zFr.putl gy1 (r := (q + 9)) (by first | omega | (dsimp only; omega)) hy2
  exact zFr.tr gy2 (g_M_charges_436  hF) (fun _ h => h) (fun _ h => h)
theorem g_M_charges_207 {q : Nat}  {x1 : Int32} {x2 : Int32} {s1 : Int32} {μ : zI} {ν : zJ} {out : (zI × zJ)} (hF : e_M_charges_207 q  x1 x2 s1 μ ν = some out) : zFr (fun r => (q ≤ r ∧ r < q + 12)) (fun r => (q ≤ r ∧ r < q + 12)) μ ν out.1 out.2 := by
  unfold e_M_charges_207 at hF
  have g0 := zFr.rf (fun r => (q ≤ r ∧ r < q + 12)) (fun r => (q ≤ r ∧ r < q + 12)) μ ν
  obtain ⟨μy1, hy1, hF⟩ := zh_let hF
  have gy1 := zFr.put g0 (r := q) (by first | omega | (dsimp only; omega)) hy1
  obtain ⟨μy2, hy2, hF⟩ := zh_let hF
  have gy2 := zFr.put gy1 (r := (q + 7)) (by first | omega | (dsimp only; omega)) hy2
  rcases (Decidable.em ((μy2 (q + 7) 34) = 0)).symm with cy3 | cy3
  · replace hF := zh_f cy3 hF
    rcases (Decidable.em ((μy2 (q + 7) 34) = 1)).symm with cy4 | cy4
    · replace hF := zh_f cy4 hF
      rcases Decidable.em (0 ≤ (lg_cmp (100 * (Int32.toInt64 (μy2 (q + 7) 33))) ((Int32.toInt64 (μy2 (q + 7) 4)) * (Int32.toInt64 (μy2 (q + 7) 0))))) with cy5 | cy5
      · replace hF := zh_t cy5 hF
        exact zFr.tr gy2 (g_M_charges_436  hF) (fun _ h => h) (fun _ h => h)
      · replace hF := zh_f cy5 hF
        obtain ⟨μy6, hy6, hF⟩ := zh_let hF
        have gy6 := zFr.put gy2 (r := (q + 7)) (by first | omega | (dsimp only; omega)) hy6
        obtain ⟨νy7, hy7, hF⟩ := zh_let hF
        have gy7 := zFr.putl gy6 (r := (q + 9)) (by first | omega | (dsimp only; omega)) hy7
        exact zFr.tr gy7 (g_M_charges_436  hF) (fun _ h => h) (fun _ h => h)
    · replace hF := zh_t cy4 hF
      obtain ⟨μy8, hy8, hF⟩ := zh_let hF
      have gy8 := zFr.put gy2 (r := (q + 7)) (by first | omega | (dsimp only; omega)) hy8
      rcases Decidable.em ((μy8 (q + 7) 5) ≤ (μy8 (q + 7) 35)) with cy9 | cy9
      · replace hF := zh_t cy9 hF
        exact zFr.tr gy8 (g_M_charges_364  hF) (fun _ h => h) (fun _ h => h)
      · replace hF := zh_f cy9 hF
        rcases Decidable.em ((μy8 (q + 7) 6) ≤ (μy8 q 32)) with cy10 | cy10
        · replace hF := zh_t cy10 hF
          exact zFr.tr gy8 (g_M_charges_436  hF) (fun _ h => h) (fun _ h => h)
        · replace hF := zh_f cy10 hF
          rcases Decidable.em ((μy8 q 30) < (μy8 (q + 7) 6)) with cy11 | cy11
          · replace hF := zh_t cy11 hF
            exact zFr.tr gy8 (g_M_charges_436  hF) (fun _ h => h) (fun _ h => h)
          · replace hF := zh_f cy11 hF
            exact zFr.tr gy8 (g_M_charges_364  hF) (fun _ h => h) (fun _ h => h)
  · replace hF := zh_t cy3 hF
    rcases Decidable.em ((μy2 (q + 7) 2) ≤ (x2 + ((μy2 q 32) / 20))) with cy12 | cy12
    · replace hF := zh_t cy12 hF
      exact zFr.tr gy2 (g_M_charges_268  hF) (fun _ h => h) (fun _ h => h)
    · replace hF := zh_f cy12 hF
      rcases (Decidable.em ((μy2 (q + 7) 33) = (μy2 (q + 7) 0))).symm with cy13 | cy13
      · replace hF := zh_f cy13 hF
        exact zFr.tr gy2 (g_M_charges_436  hF) (fun _ h => h) (fun _ h => h)
      · replace hF := zh_t cy13 hF
        exact zFr.tr gy2 (g_M_charges_268  hF) (fun _ h => h) (fun _ h => h)
theorem g_M_charges_164 {q : Nat}  {x1 : Int32} {x2 : Int32} {μ : zI} {ν : zJ} {out : (zI × zJ)} (hF : e_M_charges_164 q  x1 x2 μ ν = some out) : zFr (fun r => (q ≤ r ∧ r < q + 12)) (fun r => (q ≤ r ∧ r < q + 12)) μ ν out.1 out.2 := by
  unfold e_M_charges_164 at hF
  have g0 := zFr.rf (fun r => (q ≤ r ∧ r < q + 12)) (fun r => (q ≤ r ∧ r < q + 12)) μ ν
  rcases Decidable.em ((μ q 32) ≤ ((μ (q + 7) 0) - (μ (q + 7) 33))) with cy1 | cy1
  · replace hF := zh_t cy1 hF
    exact zFr.tr g0 (g_M_charges_207  hF) (fun _ h => h) (fun _ h => h)
  · replace hF := zh_f cy1 hF
    exact zFr.tr g0 (g_M_charges_207  hF) (fun _ h => h) (fun _ h => h)
theorem g_M_charges_161 {q : Nat}  {x1 : Int32} {x2 : Int32} {x3 : Int32} {s1 : Int32} {μ : zI} {ν : zJ} {out : (zI × zJ)} (hF : e_M_charges_161 q  x1 x2 x3 s1 μ ν = some out) : zFr (fun r => (q ≤ r ∧ r < q + 12)) (fun r => (q ≤ r ∧ r < q + 12)) μ ν out.1 out.2 := by
  unfold e_M_charges_161 at hF
  have g0 := zFr.rf (fun r => (q ≤ r ∧ r < q + 12)) (fun r => (q ≤ r ∧ r < q + 12)) μ ν
  obtain ⟨μy1, hy1, hF⟩ := zh_let hF
  have gy1 := zFr.put g0 (r := q) (by first | omega | (dsimp only; omega)) hy1
  exact zFr.tr gy1 (g_M_charges_164  hF) (fun _ h => h) (fun _ h => h)
theorem g_M_charges_131 {q : Nat}  {x1 : Int32} {x2 : Int32} {s0 : Int32} {s1 : Int32} {μ : zI} {ν : zJ} {out : (zI × zJ)} (hF : e_M_charges_131 q  x1 x2 s0 s1 μ ν = some out) : zFr (fun r => (q ≤ r ∧ r < q + 12)) (fun r => (q ≤ r ∧ r < q + 12)) μ ν out.1 out.2 := by
  unfold e_M_charges_131 at hF
  have g0 := zFr.rf (fun r => (q ≤ r ∧ r < q + 12)) (fun r => (q ≤ r ∧ r < q + 12)) μ ν
  obtain ⟨y1, hy1, hF⟩ := zh_let hF
  rcases Decidable.em (0 ≤ y1) with cy2 | cy2
  · replace hF := zh_t cy2 hF
    rcases Decidable.em ((μ q 32) ≤ y1) with cy3 | cy3
    · replace hF := zh_t cy3 hF
      exact zFr.tr g0 (g_M_charges_161  hF) (fun _ h => h) (fun _ h => h)
    · replace hF := zh_f cy3 hF
      exact zFr.tr g0 (g_M_charges_161  hF) (fun _ h => h) (fun _ h => h)
  · replace hF := zh_f cy2 hF
    exact zFr.tr g0 (g_M_charges_161  hF) (fun _ h => h) (fun _ h => h)
theorem g_M_charges_32 {q : Nat}  {s0 : Int32} {μ : zI} {ν : zJ} {out : (zI × zJ)} (hF : e_M_charges_32 q  s0 μ ν = some out) : zFr (fun r => (q ≤ r ∧ r < q + 12)) (fun r => (q ≤ r ∧ r < q + 12)) μ ν out.1 out.2 := by
  unfold e_M_charges_32 at hF
  have g0 := zFr.rf (fun r => (q ≤ r ∧ r < q + 12)) (fun r => (q ≤ r ∧ r < q + 12)) μ ν
  obtain ⟨μy1, hy1, hF⟩ := zh_let hF
  have gy1 := zFr.put g0 (r := (q + 7)) (by first | omega | (dsimp only; omega)) hy1
  obtain ⟨νy2, hy2, hF⟩ := zh_let hF
  have gy2 := zFr.putl gy1 (r := (q + 9)) (by first | omega | (dsimp only; omega)) hy2
  obtain ⟨hy3, hF⟩ := zh_nel hF
  obtain ⟨y4, hy4, hF⟩ := zh_let hF
  obtain ⟨μy5, hy5, hF⟩ := zh_let hF
  have gy5 := zFr.put gy2 (r := q) (by first | omega | (dsimp only; omega)) hy5
  rcases Decidable.em ((μy5 (q + 7) 34) ≤ 0) with cy6 | cy6
  · replace hF := zh_t cy6 hF
    exact zFr.tr gy5 (g_M_charges_164  hF) (fun _ h => h) (fun _ h => h)
  · replace hF := zh_f cy6 hF
    rcases (Decidable.em ((μy5 (q + 7) 34) = 1)).symm with cy7 | cy7
    · replace hF := zh_f cy7 hF
      exact zFr.tr gy5 (g_M_charges_131  hF) (fun _ h => h) (fun _ h => h)
    · replace hF := zh_t cy7 hF
      exact zFr.tr gy5 (g_M_charges_131  hF) (fun _ h => h) (fun _ h => h)
theorem g_M_charges_0 {q : Nat}   {μ : zI} {ν : zJ} {out : (zI × zJ)} (hF : e_M_charges_0 q   μ ν = some out) : zFr (fun r => (q ≤ r ∧ r < q + 12)) (fun r => (q ≤ r ∧ r < q + 12)) μ ν out.1 out.2 := by
  unfold e_M_charges_0 at hF
  have g0 := zFr.rf (fun r => (q ≤ r ∧ r < q + 12)) (fun r => (q ≤ r ∧ r < q + 12)) μ ν
  rcases Decidable.em ((μ (q + 7) 1) ≤ (μ (q + 7) 33)) with cy1 | cy1
  · replace hF := zh_t cy1 hF
    exact zFr.tr g0 (g_M_charges_32  hF) (fun _ h => h) (fun _ h => h)
  · replace hF := zh_f cy1 hF
    exact zFr.tr g0 (g_M_charges_32  hF) (fun _ h => h) (fun _ h => h)
theorem fr_M_charges {q : Nat} {μ : zI} {ν : zJ} {out : (zI × zJ)} (hE : E_M_charges q μ ν = some out) : zFr (fun r => (q ≤ r ∧ r < q + 12)) (fun r => (q ≤ r ∧ r < q + 12)) μ ν out.1 out.2 := (g_M_charges_0 hE)
theorem g_M_drifts_28 {q : Nat}  {x1 : Int32} {x2 : Int32} {x3 : Int32} {x4 : Int32} {s0 : Int32} {μ : zI} {ν : zJ} {out : (Int32 × zI × zJ)} (hF : e_M_drifts_28 q  x1 x2 x3 x4 s0 μ ν = some out) : zFr (fun _ => False) (fun _ => False) μ ν out.2.1 out.2.2 := by
  unfold e_M_drifts_28 at hF
  have g0 := zFr.rf (fun _ => False) (fun _ => False) μ ν
  cases hF
  exact g0
theorem g_M_drifts_0 {q : Nat}  {x1 : Int32} {x2 : Int32} {x3 : Int32} {μ : zI} {ν : zJ} {out : (Int32 × zI × zJ)} (hF : e_M_drifts_0 q  x1 x2 x3 μ ν = some out) : zFr (fun _ => False) (fun _ => False) μ ν out.2.1 out.2.2 := by
  unfold e_M_drifts_0 at hF
  have g0 := zFr.rf (fun _ => False) (fun _ => False) μ ν
  obtain ⟨y1, hy1, hF⟩ := zh_let hF
  rcases Decidable.em (y1 < 50000) with cy2 | cy2
  · replace hF := zh_t cy2 hF
    exact zFr.tr g0 (g_M_drifts_28  hF) (fun _ h => h) (fun _ h => h)
  · replace hF := zh_f cy2 hF
    exact zFr.tr g0 (g_M_drifts_28  hF) (fun _ h => h) (fun _ h => h)
theorem fr_M_drifts {q : Nat} {x1 : Int32} {x2 : Int32} {x3 : Int32} {μ : zI} {ν : zJ} {out : (Int32 × zI × zJ)} (hE : E_M_drifts q x1 x2 x3 μ ν = some out) : zFr (fun _ => False) (fun _ => False) μ ν out.2.1 out.2.2 := (g_M_drifts_0 hE)
theorem g_M_isFar_33 {q : Nat}  {x1 : Int32} {s0 : Int32} {μ : zI} {ν : zJ} {out : (Int32 × zI × zJ)} (hF : e_M_isFar_33 q  x1 s0 μ ν = some out) : zFr (fun _ => False) (fun _ => False) μ ν out.2.1 out.2.2 := by
  unfold e_M_isFar_33 at hF
  have g0 := zFr.rf (fun _ => False) (fun _ => False) μ ν
  obtain ⟨hy1, hF⟩ := zh_if hF
  cases hF
  exact g0
theorem g_M_isFar_28 {q : Nat}  {x1 : Int32} {μ : zI} {ν : zJ} {out : (Int32 × zI × zJ)} (hF : e_M_isFar_28 q  x1 μ ν = some out) : zFr (fun _ => False) (fun _ => False) μ ν out.2.1 out.2.2 := by
  unfold e_M_isFar_28 at hF
  have g0 := zFr.rf (fun _ => False) (fun _ => False) μ ν
  exact zFr.tr g0 (g_M_isFar_33  hF) (fun _ h => h) (fun _ h => h)
theorem g_M_isFar_0 {q : Nat}  {x1 : Int32} {μ : zI} {ν : zJ} {out : (Int32 × zI × zJ)} (hF : e_M_isFar_0 q  x1 μ ν = some out) : zFr (fun _ => False) (fun _ => False) μ ν out.2.1 out.2.2 := by
  unfold e_M_isFar_0 at hF
  have g0 := zFr.rf (fun _ => False) (fun _ => False) μ ν
  rcases Decidable.em ((μ (q + 7) 7) < (x1 - 50000)) with cy1 | cy1
  · replace hF := zh_t cy1 hF
    exact zFr.tr g0 (g_M_isFar_28  hF) (fun _ h => h) (fun _ h => h)
  · replace hF := zh_f cy1 hF
    rcases Decidable.em ((50000 - x1) ≤ (μ (q + 7) 7)) with cy2 | cy2
    · replace hF := zh_t cy2 hF
      exact zFr.tr g0 (g_M_isFar_33  hF) (fun _ h => h) (fun _ h => h)
    · replace hF := zh_f cy2 hF
      exact zFr.tr g0 (g_M_isFar_28  hF) (fun _ h => h) (fun _ h => h)
theorem fr_M_isFar {q : Nat} {x1 : Int32} {μ : zI} {ν : zJ} {out : (Int32 × zI × zJ)} (hE : E_M_isFar q x1 μ ν = some out) : zFr (fun _ => False) (fun _ => False) μ ν out.2.1 out.2.2 := (g_M_isFar_0 hE)
theorem g_M_inverts_214 {q : Nat}  {x1 : Int32} {x2 : Int32} {x3 : Int32} {s1 : Int32} {s2 : Int32} {μ : zI} {ν : zJ} {out : (zI × zJ)} (hF : e_M_inverts_214 q  x1 x2 x3 s1 s2 μ ν = some out) : zFr (fun r => (q ≤ r ∧ r < q + 12)) (fun r => (q ≤ r ∧ r < q + 12)) μ ν out.1 out.2 := by
  unfold e_M_inverts_214 at hF
  have g0 := zFr.rf (fun r => (q ≤ r ∧ r < q + 12)) (fun r => (q ≤ r ∧ r < q + 12)) μ ν
  obtain ⟨hy1, hF⟩ := zh_if hF
  obtain ⟨μy2, hy2, hF⟩ := zh_let hF
  have gy2 := zFr.put g0 (r := (q + 7)) (by first | omega | (dsimp only; omega)) hy2
  cases hF
  exact gy2
theorem g_M_inverts_118 {q : Nat}  {x1 : Int32} {x2 : Int32} {s1 : Int32} {s2 : Int32} {μ : zI} {ν : zJ} {out : (zI × zJ)} (hF : e_M_inverts_118 q  x1 x2 s1 s2 μ ν = some out) : zFr (fun r => (q ≤ r ∧ r < q + 12)) (fun r => (q ≤ r ∧ r < q + 12)) μ ν out.1 out.2 := by
  unfold e_M_inverts_118 at hF
  have g0 := zFr.rf (fun r => (q ≤ r ∧ r < q + 12)) (fun r => (q ≤ r ∧ r < q + 12)) μ ν
  obtain ⟨hy1, hF⟩ := zh_if hF
  obtain ⟨μy2, hy2, hF⟩ := zh_let hF
  have gy2 := zFr.put g0 (r := (q + 7)) (by first | omega | (dsimp only; omega)) hy2
  rcases Decidable.em ((μy2 (q + 7) 41) < (μy2 (q + 7) 8)) with cy3 | cy3
  · replace hF := zh_t cy3 hF
    obtain ⟨y4, hy4, hF⟩ := zh_let hF
    rcases Decidable.em ((x1 + (μy2 (q + 7) 11)) ≤ y4) with cy5 | cy5
    · replace hF := zh_t cy5 hF
      exact zFr.tr gy2 (g_M_inverts_214  hF) (fun _ h => h) (fun _ h => h)
    · replace hF := zh_f cy5 hF
      exact zFr.tr gy2 (g_M_inverts_214  hF) (fun _ h => h) (fun _ h => h)
  · replace hF := zh_f cy3 hF
    obtain ⟨μy6, hy6, hF⟩ := zh_let hF
    have gy6 := zFr.put gy2 (r := (q + 7)) (by first | omega | (dsimp only; omega)) hy6
    obtain ⟨μy7, hy7, hF⟩ := zh_let hF
    have gy7 := zFr.put gy6 (r := (q + 7)) (by first | omega | (dsimp only; omega)) hy7
    obtain ⟨μy8, hy8, hF⟩ := zh_let hF
    have gy8 := zFr.put gy7 (r := (q + 7)) (by first | omega | (dsimp only; omega)) hy8
    obtain ⟨νy9, hy9, hF⟩ := zh_let hF
    have gy9 := zFr.putl gy8 (r := (q + 9)) (by first | omega | (dsimp only; omega)) hy9
    cases hF
    exact gy9
theorem g_M_inverts_84 {q : Nat}  {x1 : Int32} {x2 : Int32} {s1 : Int32} {s2 : Int32} {μ : zI} {ν : zJ} {out : (zI × zJ)} (hF : e_M_inverts_84 q  x1 x2 s1 s2 μ ν = some out) : zFr (fun r => (q ≤ r ∧ r < q + 12)) (fun r => (q ≤ r ∧ r < q + 12)) μ ν out.1 out.2 := by
  unfold e_M_inverts_84 at hF
  have g0 := zFr.rf (fun r => (q ≤ r ∧ r < q + 12)) (fun r => (q ≤ r ∧ r < q + 12)) μ ν
  obtain ⟨hy1, hF⟩ := zh_if hF
  obtain ⟨μy2, hy2, hF⟩ := zh_let hF
  have gy2 := zFr.put g0 (r := (q + 7)) (by first | omega | (dsimp only; omega)) hy2
  obtain ⟨ty3, hty3, hF⟩ := zh_bind hF
  have gty3 := zFr.tr gy2 (fr_M_isFar hty3) (fun r h => by first | exact h | exact h.elim | omega | (revert h; dsimp only; omega)) (fun r h => by first | exact h | exact h.elim | omega | (revert h; dsimp only; omega))
  rcases Decidable.em (ty3.1 = 0) with cy4 | cy4
  · replace hF := zh_t cy4 hF
    exact zFr.tr gty3 (g_M_inverts_118  hF) (fun _ h => h) (fun _ h => h)
  · replace hF := zh_f cy4 hF
    exact zFr.tr gty3 (g_M_inverts_118  hF) (fun _ h => h) (fun _ h => h)
theorem g_M_inverts_246 {q : Nat}  {x1 : Int32} {x2 : Int32} {s1 : Int32} {s2 : Int32} {μ : zI} {ν : zJ} {out : (zI × zJ)} (hF : e_M_inverts_246 q  x1 x2 s1 s2 μ ν = some out) : zFr (fun r => (q ≤ r ∧ r < q + 12)) (fun r => (q ≤ r ∧ r < q + 12)) μ ν out.1 out.2 := by
  unfold e_M_inverts_246 at hF
  have g0 := zFr.rf (fun r => (q ≤ r ∧ r < q + 12)) (fun r => (q ≤ r ∧ r < q + 12)) μ ν
  obtain ⟨hy1, hF⟩ := zh_if hF
  obtain ⟨μy2, hy2, hF⟩ := zh_let hF
  have gy2 := zFr.put g0 (r := (q + 7)) (by first | omega | (dsimp only; omega)) hy2
  rcases Decidable.em ((μy2 (q + 7) 10) ≤ (μy2 (q + 7) 42)) with cy3 | cy3
  · replace hF := zh_t cy3 hF
    obtain ⟨μy4, hy4, hF⟩ := zh_let hF
    have gy4 := zFr.put gy2 (r := (q + 7)) (by first | omega | (dsimp only; omega)) hy4
    obtain ⟨μy5, hy5, hF⟩ := zh_let hF
    have gy5 := zFr.put gy4 (r := (q + 7)) (by first | omega | (dsimp only; omega)) hy5
    obtain ⟨μy6, hy6, hF⟩ := zh_let hF
    have gy6 := zFr.put gy5 (r := (q + 7)) (by first | omega | (dsimp only; omega)) hy6
    cases hF
    exact gy6
  · replace hF := zh_f cy3 hF
    cases hF
    exact gy2
theorem g_M_inverts_24 {q : Nat}  {x1 : Int32} {s0 : Int32} {μ : zI} {ν : zJ} {out : (zI × zJ)} (hF : e_M_inverts_24 q  x1 s0 μ ν = some out) : zFr (fun r => (q ≤ r ∧ r < q + 12)) (fun r => (q ≤ r ∧ r < q + 12)) μ ν out.1 out.2 := by
  unfold e_M_inverts_24 at hF
  have g0 := zFr.rf (fun r => (q ≤ r ∧ r < q + 12)) (fun r => (q ≤ r ∧ r < q + 12)) μ ν
  obtain ⟨μy1, hy1, hF⟩ := zh_let hF
  have gy1 := zFr.put g0 (r := (q + 7)) (by first | omega | (dsimp only; omega)) hy1
  rcases Decidable.em (s0 = 0) with cy2 | cy2
  · replace hF := zh_t cy2 hF
    rcases (Decidable.em ((μy1 (q + 7) 37) = 1)).symm with cy3 | cy3
    · replace hF := zh_f cy3 hF
      exact zFr.tr gy1 (g_M_inverts_246  hF) (fun _ h => h) (fun _ h => h)
    · replace hF := zh_t cy3 hF
      exact zFr.tr gy1 (g_M_inverts_246  hF) (fun _ h => h) (fun _ h => h)
  · replace hF := zh_f cy2 hF
    rcases (Decidable.em ((μy1 (q + 7) 37) = 1)).symm with cy4 | cy4
    · replace hF := zh_f cy4 hF
      obtain ⟨ty5, hty5, hF⟩ := zh_bind hF
      have gty5 := zFr.tr gy1 (fr_M_drifts hty5) (fun r h => by first | exact h | exact h.elim | omega | (revert h; dsimp only; omega)) (fun r h => by first | exact h | exact h.elim | omega | (revert h; dsimp only; omega))
      exact zFr.tr gty5 (g_M_inverts_84  hF) (fun _ h => h) (fun _ h => h)
    · replace hF := zh_t cy4 hF
      exact zFr.tr gy1 (g_M_inverts_84  hF) (fun _ h => h) (fun _ h => h)
theorem g_M_inverts_0 {q : Nat}   {μ : zI} {ν : zJ} {out : (zI × zJ)} (hF : e_M_inverts_0 q   μ ν = some out) : zFr (fun r => (q ≤ r ∧ r < q + 12)) (fun r => (q ≤ r ∧ r < q + 12)) μ ν out.1 out.2 := by
  unfold e_M_inverts_0 at hF
  have g0 := zFr.rf (fun r => (q ≤ r ∧ r < q + 12)) (fun r => (q ≤ r ∧ r < q + 12)) μ ν
  obtain ⟨y1, hy1, hF⟩ := zh_let hF
  rcases (Decidable.em ((μ (q + 7) 36) = 1)).symm with cy2 | cy2
  · replace hF := zh_f cy2 hF
    exact zFr.tr g0 (g_M_inverts_24  hF) (fun _ h => h) (fun _ h => h)
  · replace hF := zh_t cy2 hF
    exact zFr.tr g0 (g_M_inverts_24  hF) (fun _ h => h) (fun _ h => h)
theorem fr_M_inverts {q : Nat} {μ : zI} {ν : zJ} {out : (zI × zJ)} (hE : E_M_inverts q μ ν = some out) : zFr (fun r => (q ≤ r ∧ r < q + 12)) (fun r => (q ≤ r ∧ r < q + 12)) μ ν out.1 out.2 := (g_M_inverts_0 hE)
theorem g_M_notes_176 {q : Nat}  {x1 : Int32} {x2 : Int32} {s1 : Int32} {μ : zI} {ν : zJ} {out : (zI × zJ)} (hF : e_M_notes_176 q  x1 x2 s1 μ ν = some out) : zFr (fun r => (q ≤ r ∧ r < q + 12)) (fun _ => False) μ ν out.1 out.2 := by
  unfold e_M_notes_176 at hF
  have g0 := zFr.rf (fun r => (q ≤ r ∧ r < q + 12)) (fun _ => False) μ ν
  obtain ⟨μy1, hy1, hF⟩ := zh_let hF
  have gy1 := zFr.put g0 (r := q) (by first | omega | (dsimp only; omega)) hy1
  cases hF
  exact gy1
theorem g_M_notes_154 {q : Nat}  {x1 : Int32} {x2 : Int32} {s1 : Int32} {s2 : Int32} {μ : zI} {ν : zJ} {out : (zI × zJ)} (hF : e_M_notes_154 q  x1 x2 s1 s2 μ ν = some out) : zFr (fun r => (q ≤ r ∧ r < q + 12)) (fun _ => False) μ ν out.1 out.2 := by
  unfold e_M_notes_154 at hF
  have g0 := zFr.rf (fun r => (q ≤ r ∧ r < q + 12)) (fun _ => False) μ ν
  obtain ⟨hy1, hF⟩ := zh_if hF
  obtain ⟨μy2, hy2, hF⟩ := zh_let hF
  have gy2 := zFr.put g0 (r := (q + 11)) (by first | omega | (dsimp only; omega)) hy2
  rcases Decidable.em (100 ≤ (μy2 q 28)) with cy3 | cy3
  · replace hF := zh_t cy3 hF
    exact zFr.tr gy2 (g_M_notes_176  hF) (fun _ h => h) (fun _ h => h)
  · replace hF := zh_f cy3 hF
    exact zFr.tr gy2 (g_M_notes_176  hF) (fun _ h => h) (fun _ h => h)
theorem g_M_notes_4 {q : Nat}  {out : (zI × zJ)} : ∀ (n : Nat) (x1 : Int32) (x2 : Int32) (μ : zI) (ν : zJ), f_M_notes_4 q  n x1 x2 μ ν = some out → zFr (fun r => (q ≤ r ∧ r < q + 12)) (fun _ => False) μ ν out.1 out.2 := by
  intro n
  induction n with
  | zero => intro x1 x2 μ ν hF; cases hF
  | succ n ih =>
    intro x1 x2 μ ν hF
    dsimp only [f_M_notes_4] at hF
    have g0 := zFr.rf (fun r => (q ≤ r ∧ r < q + 12)) (fun _ => False) μ ν
    rcases Decidable.em (x2 < 10) with cy1 | cy1
    · replace hF := zh_t cy1 hF
      obtain ⟨μy2, hy2, hF⟩ := zh_let hF
      have gy2 := zFr.put g0 (r := (q + 11)) (by first | omega | (dsimp only; omega)) hy2
      obtain ⟨μy3, hy3, hF⟩ := zh_let hF
      have gy3 := zFr.put gy2 (r := (q + 11)) (by first | omega | (dsimp only; omega)) hy3
      obtain ⟨ty4, hty4, hF⟩ := zh_bind hF
      have gty4 := zFr.tr gy3 (fr_M_bestNow hty4) (fun r h => by first | exact h | exact h.elim | omega | (revert h; dsimp only; omega)) (fun r h => by first | exact h | exact h.elim | omega | (revert h; dsimp only; omega))
      obtain ⟨μy5, hy5, hF⟩ := zh_let hF
      have gy5 := zFr.put gty4 (r := (q + 11)) (by first | omega | (dsimp only; omega)) hy5
      obtain ⟨μy6, hy6, hF⟩ := zh_let hF
      have gy6 := zFr.put gy5 (r := (q + 11)) (by first | omega | (dsimp only; omega)) hy6
      obtain ⟨μy7, hy7, hF⟩ := zh_let hF
      have gy7 := zFr.put gy6 (r := (q + 11)) (by first | omega | (dsimp only; omega)) hy7
      obtain ⟨μy8, hy8, hF⟩ := zh_let hF
      have gy8 := zFr.put gy7 (r := (q + 11)) (by first | omega | (dsimp only; omega)) hy8
      obtain ⟨μy9, hy9, hF⟩ := zh_let hF
      have gy9 := zFr.put gy8 (r := (q + 11)) (by first | omega | (dsimp only; omega)) hy9
      obtain ⟨μy10, hy10, hF⟩ := zh_let hF
      have gy10 := zFr.put gy9 (r := (q + 11)) (by first | omega | (dsimp only; omega)) hy10
      obtain ⟨μy11, hy11, hF⟩ := zh_let hF
      have gy11 := zFr.put gy10 (r := (q + 11)) (by first | omega | (dsimp only; omega)) hy11
      rcases Decidable.em ((μy11 q 31) = 0) with cy12 | cy12
      · replace hF := zh_t cy12 hF
        exact zFr.tr gy11 (g_M_notes_154  hF) (fun _ h => h) (fun _ h => h)
      · replace hF := zh_f cy12 hF
        exact zFr.tr gy11 (g_M_notes_154  hF) (fun _ h => h) (fun _ h => h)
    · replace hF := zh_f cy1 hF
      obtain ⟨hy13, hF⟩ := zh_if hF
      obtain ⟨hy14, hF⟩ := zh_if hF
      obtain ⟨μy15, hy15, hF⟩ := zh_let hF
      have gy15 := zFr.put g0 (r := (q + 11)) (by first | omega | (dsimp only; omega)) hy15
      exact zFr.tr gy15 (ih _ _ _ _ hF) (fun _ h => h) (fun _ h => h)
theorem g_M_notes_0 {q : Nat}  {x1 : Int32} {μ : zI} {ν : zJ} {out : (zI × zJ)} (hF : e_M_notes_0 q  x1 μ ν = some out) : zFr (fun r => (q ≤ r ∧ r < q + 12)) (fun _ => False) μ ν out.1 out.2 := by
  unfold e_M_notes_0 at hF
  have g0 := zFr.rf (fun r => (q ≤ r ∧ r < q + 12)) (fun _ => False) μ ν
  exact zFr.tr g0 (g_M_notes_4  zFuel _ _ _ _ hF) (fun _ h => h) (fun _ h => h)
theorem fr_M_notes {q : Nat} {x1 : Int32} {μ : zI} {ν : zJ} {out : (zI × zJ)} (hE : E_M_notes q x1 μ ν = some out) : zFr (fun r => (q ≤ r ∧ r < q + 12)) (fun _ => False) μ ν out.1 out.2 := (g_M_notes_0 hE)
theorem g_M_ticksOnce_0 {q : Nat}   {μ : zI} {ν : zJ} {out : (zI × zJ)} (hF : e_M_ticksOnce_0 q   μ ν = some out) : zFr (fun r => (q ≤ r ∧ r < q + 12)) (fun r => (q ≤ r ∧ r < q + 12)) μ ν out.1 out.2 := by
  unfold e_M_ticksOnce_0 at hF
  have g0 := zFr.rf (fun r => (q ≤ r ∧ r < q + 12)) (fun r => (q ≤ r ∧ r < q + 12)) μ ν
  obtain ⟨μy1, hy1, hF⟩ := zh_let hF
  have gy1 := zFr.put g0 (r := (q + 7)) (by first | omega | (dsimp only; omega)) hy1
  obtain ⟨ty2, hty2, hF⟩ := zh_bind hF
  have gty2 := zFr.tr gy1 (fr_M_arrives hty2) (fun r h => by first | exact h | exact h.elim | omega | (revert h; dsimp only; omega)) (fun r h => by first | exact h | exact h.elim | omega | (revert h; dsimp only; omega))
  obtain ⟨ty3, hty3, hF⟩ := zh_bind hF
  have gty3 := zFr.tr gty2 (fr_M_follows hty3) (fun r h => by first | exact h | exact h.elim | omega | (revert h; dsimp only; omega)) (fun r h => by first | exact h | exact h.elim | omega | (revert h; dsimp only; omega))
  obtain ⟨ty4, hty4, hF⟩ := zh_bind hF
  have gty4 := zFr.tr gty3 (fr_M_charges hty4) (fun r h => by first | exact h | exact h.elim | omega | (revert h; dsimp only; omega)) (fun r h => by first | exact h | exact h.elim | omega | (revert h; dsimp only; omega))
  obtain ⟨ty5, hty5, hF⟩ := zh_bind hF
  have gty5 := zFr.tr gty4 (fr_M_inverts hty5) (fun r h => by first | exact h | exact h.elim | omega | (revert h; dsimp only; omega)) (fun r h => by first | exact h | exact h.elim | omega | (revert h; dsimp only; omega))
  obtain ⟨y6, hy6, hF⟩ := zh_let hF
  obtain ⟨νy7, hy7, hF⟩ := zh_let hF
  have gy7 := zFr.putl gty5 (r := (q + 9)) (by first | omega | (dsimp only; omega)) hy7
  obtain ⟨νy8, hy8, hF⟩ := zh_let hF
  have gy8 := zFr.putl gy7 (r := (q + 9)) (by first | omega | (dsimp only; omega)) hy8
  obtain ⟨νy9, hy9, hF⟩ := zh_let hF
  have gy9 := zFr.putl gy8 (r := (q + 9)) (by first | omega | (dsimp only; omega)) hy9
  obtain ⟨νy10, hy10, hF⟩ := zh_let hF
  have gy10 := zFr.putl gy9 (r := (q + 9)) (by first | omega | (dsimp only; omega)) hy10
  rcases Decidable.em ((ty5.1 q 29) = 0) with cy11 | cy11
  · replace hF := zh_t cy11 hF
    obtain ⟨ty12, hty12, hF⟩ := zh_bind hF
    have gty12 := zFr.tr gy10 (fr_M_bestNow hty12) (fun r h => by first | exact h | exact h.elim | omega | (revert h; dsimp only; omega)) (fun r h => by first | exact h | exact h.elim | omega | (revert h; dsimp only; omega))
    obtain ⟨νy13, hy13, hF⟩ := zh_let hF
    have gy13 := zFr.putl gty12 (r := (q + 9)) (by first | omega | (dsimp only; omega)) hy13
    obtain ⟨ty14, hty14, hF⟩ := zh_bind hF
    have gty14 := zFr.tr gy13 (fr_M_notes hty14) (fun r h => by first | exact h | exact h.elim | omega | (revert h; dsimp only; omega)) (fun r h => by first | exact h | exact h.elim | omega | (revert h; dsimp only; omega))
    cases hF
    exact gty14
  · replace hF := zh_f cy11 hF
    cases hF
    exact gy10
theorem fr_M_ticksOnce {q : Nat} {μ : zI} {ν : zJ} {out : (zI × zJ)} (hE : E_M_ticksOnce q μ ν = some out) : zFr (fun r => (q ≤ r ∧ r < q + 12)) (fun r => (q ≤ r ∧ r < q + 12)) μ ν out.1 out.2 := (g_M_ticksOnce_0 hE)
theorem g_M_ticks_39 {q : Nat}  {x1 : Int32} {μ : zI} {ν : zJ} {out : (Int32 × zI × zJ)} (hF : e_M_ticks_39 q  x1 μ ν = some out) : zFr (fun r => (q ≤ r ∧ r < q + 12)) (fun r => (q ≤ r ∧ r < q + 12)) μ ν out.2.1 out.2.2 := by
  unfold e_M_ticks_39 at hF
  have g0 := zFr.rf (fun r => (q ≤ r ∧ r < q + 12)) (fun r => (q ≤ r ∧ r < q + 12)) μ ν
  cases hF
  exact g0
theorem g_M_ticks_51 {q : Nat}  {out : (Int32 × zI × zJ)} : ∀ (n : Nat) (x1 : Int32) (w2 : Int64) (x4 : Int32) (μ : zI) (ν : zJ), f_M_ticks_51 q  n x1 w2 x4 μ ν = some out → zFr (fun r => (q ≤ r ∧ r < q + 12)) (fun r => (q ≤ r ∧ r < q + 12)) μ ν out.2.1 out.2.2 := by
  intro n
  induction n with
  | zero => intro x1 w2 x4 μ ν hF; cases hF
  | succ n ih =>
    intro x1 w2 x4 μ ν hF
    dsimp only [f_M_ticks_51] at hF
    have g0 := zFr.rf (fun r => (q ≤ r ∧ r < q + 12)) (fun r => (q ≤ r ∧ r < q + 12)) μ ν
    rcases Decidable.em (x1 ≤ x4) with cy1 | cy1
    · replace hF := zh_t cy1 hF
      cases hF
      exact g0
    · replace hF := zh_f cy1 hF
      obtain ⟨ty2, hty2, hF⟩ := zh_bind hF
      have gty2 := zFr.tr g0 (fr_M_ticksOnce hty2) (fun r h => by first | exact h | exact h.elim | omega | (revert h; dsimp only; omega)) (fun r h => by first | exact h | exact h.elim | omega | (revert h; dsimp only; omega))
      exact zFr.tr gty2 (ih _ _ _ _ _ hF) (fun _ h => h) (fun _ h => h)
theorem g_M_ticks_0 {q : Nat}  {x1 : Int32} {μ : zI} {ν : zJ} {out : (Int32 × zI × zJ)} (hF : e_M_ticks_0 q  x1 μ ν = some out) : zFr (fun r => (q ≤ r ∧ r < q + 12)) (fun r => (q ≤ r ∧ r < q + 12)) μ ν out.2.1 out.2.2 := by
  unfold e_M_ticks_0 at hF
  have g0 := zFr.rf (fun r => (q ≤ r ∧ r < q + 12)) (fun r => (q ≤ r ∧ r < q + 12)) μ ν
  obtain ⟨μy1, hy1, hF⟩ := zh_let hF
  have gy1 := zFr.put g0 (r := q) (by first | omega | (dsimp only; omega)) hy1
  rcases Decidable.em (x1 < 1) with cy2 | cy2
  · replace hF := zh_t cy2 hF
    exact zFr.tr gy1 (g_M_ticks_39  hF) (fun _ h => h) (fun _ h => h)
  · replace hF := zh_f cy2 hF
    rcases Decidable.em (500 < x1) with cy3 | cy3
    · replace hF := zh_t cy3 hF
      exact zFr.tr gy1 (g_M_ticks_39  hF) (fun _ h => h) (fun _ h => h)
    · replace hF := zh_f cy3 hF
      rcases Decidable.em ((μy1 q 9) = 0) with cy4 | cy4
      · replace hF := zh_t cy4 hF
        exact zFr.tr gy1 (g_M_ticks_39  hF) (fun _ h => h) (fun _ h => h)
      · replace hF := zh_f cy4 hF
        rcases Decidable.em (((μy1 (q + 7) 25) + x1) ≤ 9999) with cy5 | cy5
        · replace hF := zh_t cy5 hF
          obtain ⟨y6, hy6, hF⟩ := zh_let hF
          exact zFr.tr gy1 (g_M_ticks_51  zFuel _ _ _ _ _ hF) (fun _ h => h) (fun _ h => h)
        · replace hF := zh_f cy5 hF
          exact zFr.tr gy1 (g_M_ticks_39  hF) (fun _ h => h) (fun _ h => h)
theorem fr_M_ticks {q : Nat} {x1 : Int32} {μ : zI} {ν : zJ} {out : (Int32 × zI × zJ)} (hE : E_M_ticks q x1 μ ν = some out) : zFr (fun r => (q ≤ r ∧ r < q + 12)) (fun r => (q ≤ r ∧ r < q + 12)) μ ν out.2.1 out.2.2 := (g_M_ticks_0 hE)
theorem g_M_isModule_17 {q : Nat}  {x1 : Int32} {s0 : Int32} {μ : zI} {ν : zJ} {out : (Int32 × zI × zJ)} (hF : e_M_isModule_17 q  x1 s0 μ ν = some out) : zFr (fun _ => False) (fun _ => False) μ ν out.2.1 out.2.2 := by
  unfold e_M_isModule_17 at hF
  have g0 := zFr.rf (fun _ => False) (fun _ => False) μ ν
  obtain ⟨hy1, hF⟩ := zh_if hF
  cases hF
  exact g0
theorem g_M_isModule_16 {q : Nat}  {x1 : Int32} {μ : zI} {ν : zJ} {out : (Int32 × zI × zJ)} (hF : e_M_isModule_16 q  x1 μ ν = some out) : zFr (fun _ => False) (fun _ => False) μ ν out.2.1 out.2.2 := by
  unfold e_M_isModule_16 at hF
  have g0 := zFr.rf (fun _ => False) (fun _ => False) μ ν
  exact zFr.tr g0 (g_M_isModule_17  hF) (fun _ h => h) (fun _ h => h)
theorem g_M_isModule_0 {q : Nat}  {x1 : Int32} {μ : zI} {ν : zJ} {out : (Int32 × zI × zJ)} (hF : e_M_isModule_0 q  x1 μ ν = some out) : zFr (fun _ => False) (fun _ => False) μ ν out.2.1 out.2.2 := by
  unfold e_M_isModule_0 at hF
  have g0 := zFr.rf (fun _ => False) (fun _ => False) μ ν
  rcases Decidable.em (x1 < 0) with cy1 | cy1
  · replace hF := zh_t cy1 hF
    exact zFr.tr g0 (g_M_isModule_16  hF) (fun _ h => h) (fun _ h => h)
  · replace hF := zh_f cy1 hF
    rcases Decidable.em ((μ q 9) ≤ x1) with cy2 | cy2
    · replace hF := zh_t cy2 hF
      exact zFr.tr g0 (g_M_isModule_16  hF) (fun _ h => h) (fun _ h => h)
    · replace hF := zh_f cy2 hF
      exact zFr.tr g0 (g_M_isModule_17  hF) (fun _ h => h) (fun _ h => h)
theorem fr_M_isModule {q : Nat} {x1 : Int32} {μ : zI} {ν : zJ} {out : (Int32 × zI × zJ)} (hE : E_M_isModule q x1 μ ν = some out) : zFr (fun _ => False) (fun _ => False) μ ν out.2.1 out.2.2 := (g_M_isModule_0 hE)
theorem g_M_light_23 {q : Nat}  {x1 : Int32} {x2 : Int32} {μ : zI} {ν : zJ} {out : (Int32 × zI × zJ)} (hF : e_M_light_23 q  x1 x2 μ ν = some out) : zFr (fun r => (q ≤ r ∧ r < q + 12)) (fun _ => False) μ ν out.2.1 out.2.2 := by
  unfold e_M_light_23 at hF
  have g0 := zFr.rf (fun r => (q ≤ r ∧ r < q + 12)) (fun _ => False) μ ν
  cases hF
  exact g0
theorem g_M_light_0 {q : Nat}  {x1 : Int32} {x2 : Int32} {μ : zI} {ν : zJ} {out : (Int32 × zI × zJ)} (hF : e_M_light_0 q  x1 x2 μ ν = some out) : zFr (fun r => (q ≤ r ∧ r < q + 12)) (fun _ => False) μ ν out.2.1 out.2.2 := by
  unfold e_M_light_0 at hF
  have g0 := zFr.rf (fun r => (q ≤ r ∧ r < q + 12)) (fun _ => False) μ ν
  obtain ⟨μy1, hy1, hF⟩ := zh_let hF
  have gy1 := zFr.put g0 (r := q) (by first | omega | (dsimp only; omega)) hy1
  obtain ⟨ty2, hty2, hF⟩ := zh_bind hF
  have gty2 := zFr.tr gy1 (fr_M_isModule hty2) (fun r h => by first | exact h | exact h.elim | omega | (revert h; dsimp only; omega)) (fun r h => by first | exact h | exact h.elim | omega | (revert h; dsimp only; omega))
  rcases Decidable.em (ty2.1 = 0) with cy3 | cy3
  · replace hF := zh_t cy3 hF
    exact zFr.tr gty2 (g_M_light_23  hF) (fun _ h => h) (fun _ h => h)
  · replace hF := zh_f cy3 hF
    rcases Decidable.em (x2 < 0) with cy4 | cy4
    · replace hF := zh_t cy4 hF
      exact zFr.tr gty2 (g_M_light_23  hF) (fun _ h => h) (fun _ h => h)
    · replace hF := zh_f cy4 hF
      rcases Decidable.em (x2 ≤ 100) with cy5 | cy5
      · replace hF := zh_t cy5 hF
        obtain ⟨hy6, hF⟩ := zh_if hF
        obtain ⟨y7, hy7, hF⟩ := zh_let hF
        obtain ⟨ty8, hty8, hF⟩ := zh_bind hF
        have gty8 := zFr.tr gty2 (fr_M_lights hty8) (fun r h => by first | exact h | exact h.elim | omega | (revert h; dsimp only; omega)) (fun r h => by first | exact h | exact h.elim | omega | (revert h; dsimp only; omega))
        cases hF
        exact gty8
      · replace hF := zh_f cy5 hF
        exact zFr.tr gty2 (g_M_light_23  hF) (fun _ h => h) (fun _ h => h)
theorem fr_M_light {q : Nat} {x1 : Int32} {x2 : Int32} {μ : zI} {ν : zJ} {out : (Int32 × zI × zJ)} (hE : E_M_light q x1 x2 μ ν = some out) : zFr (fun r => (q ≤ r ∧ r < q + 12)) (fun _ => False) μ ν out.2.1 out.2.2 := (g_M_light_0 hE)
theorem g_M_grid_14 {q : Nat}  {x1 : Int32} {μ : zI} {ν : zJ} {out : (Int32 × zI × zJ)} (hF : e_M_grid_14 q  x1 μ ν = some out) : zFr (fun r => (q ≤ r ∧ r < q + 12)) (fun _ => False) μ ν out.2.1 out.2.2 := by
  unfold e_M_grid_14 at hF
  have g0 := zFr.rf (fun r => (q ≤ r ∧ r < q + 12)) (fun _ => False) μ ν
  cases hF
  exact g0
theorem g_M_grid_0 {q : Nat}  {x1 : Int32} {μ : zI} {ν : zJ} {out : (Int32 × zI × zJ)} (hF : e_M_grid_0 q  x1 μ ν = some out) : zFr (fun r => (q ≤ r ∧ r < q + 12)) (fun _ => False) μ ν out.2.1 out.2.2 := by
  unfold e_M_grid_0 at hF
  have g0 := zFr.rf (fun r => (q ≤ r ∧ r < q + 12)) (fun _ => False) μ ν
  obtain ⟨μy1, hy1, hF⟩ := zh_let hF
  have gy1 := zFr.put g0 (r := q) (by first | omega | (dsimp only; omega)) hy1
  rcases Decidable.em (x1 < 0) with cy2 | cy2
  · replace hF := zh_t cy2 hF
    exact zFr.tr gy1 (g_M_grid_14  hF) (fun _ h => h) (fun _ h => h)
  · replace hF := zh_f cy2 hF
    rcases Decidable.em (x1 ≤ 1) with cy3 | cy3
    · replace hF := zh_t cy3 hF
      obtain ⟨y4, hy4, hF⟩ := zh_let hF
      obtain ⟨μy5, hy5, hF⟩ := zh_let hF
      have gy5 := zFr.put gy1 (r := (q + 7)) (by first | omega | (dsimp only; omega)) hy5
      cases hF
      exact gy5
    · replace hF := zh_f cy3 hF
      exact zFr.tr gy1 (g_M_grid_14  hF) (fun _ h => h) (fun _ h => h)
theorem fr_M_grid {q : Nat} {x1 : Int32} {μ : zI} {ν : zJ} {out : (Int32 × zI × zJ)} (hE : E_M_grid q x1 μ ν = some out) : zFr (fun r => (q ≤ r ∧ r < q + 12)) (fun _ => False) μ ν out.2.1 out.2.2 := (g_M_grid_0 hE)
theorem g_M_tune_17 {q : Nat}  {x1 : Int32} {μ : zI} {ν : zJ} {out : (Int32 × zI × zJ)} (hF : e_M_tune_17 q  x1 μ ν = some out) : zFr (fun r => (q ≤ r ∧ r < q + 12)) (fun _ => False) μ ν out.2.1 out.2.2 := by
  unfold e_M_tune_17 at hF
  have g0 := zFr.rf (fun r => (q ≤ r ∧ r < q + 12)) (fun _ => False) μ ν
  cases hF
  exact g0
theorem g_M_tune_0 {q : Nat}  {x1 : Int32} {μ : zI} {ν : zJ} {out : (Int32 × zI × zJ)} (hF : e_M_tune_0 q  x1 μ ν = some out) : zFr (fun r => (q ≤ r ∧ r < q + 12)) (fun _ => False) μ ν out.2.1 out.2.2 := by
  unfold e_M_tune_0 at hF
  have g0 := zFr.rf (fun r => (q ≤ r ∧ r < q + 12)) (fun _ => False) μ ν
  obtain ⟨μy1, hy1, hF⟩ := zh_let hF
  have gy1 := zFr.put g0 (r := q) (by first | omega | (dsimp only; omega)) hy1
  rcases Decidable.em (x1 < 45000) with cy2 | cy2
  · replace hF := zh_t cy2 hF
    exact zFr.tr gy1 (g_M_tune_17  hF) (fun _ h => h) (fun _ h => h)
  · replace hF := zh_f cy2 hF
    rcases Decidable.em (x1 ≤ 55000) with cy3 | cy3
    · replace hF := zh_t cy3 hF
      obtain ⟨y4, hy4, hF⟩ := zh_let hF
      obtain ⟨μy5, hy5, hF⟩ := zh_let hF
      have gy5 := zFr.put gy1 (r := (q + 7)) (by first | omega | (dsimp only; omega)) hy5
      cases hF
      exact gy5
    · replace hF := zh_f cy3 hF
      exact zFr.tr gy1 (g_M_tune_17  hF) (fun _ h => h) (fun _ h => h)
theorem fr_M_tune {q : Nat} {x1 : Int32} {μ : zI} {ν : zJ} {out : (Int32 × zI × zJ)} (hE : E_M_tune q x1 μ ν = some out) : zFr (fun r => (q ≤ r ∧ r < q + 12)) (fun _ => False) μ ν out.2.1 out.2.2 := (g_M_tune_0 hE)
theorem g_M_scan_0 {q : Nat}   {μ : zI} {ν : zJ} {out : (Int32 × zI × zJ)} (hF : e_M_scan_0 q   μ ν = some out) : zFr (fun r => (q ≤ r ∧ r < q + 12)) (fun _ => False) μ ν out.2.1 out.2.2 := by
  unfold e_M_scan_0 at hF
  have g0 := zFr.rf (fun r => (q ≤ r ∧ r < q + 12)) (fun _ => False) μ ν
  obtain ⟨μy1, hy1, hF⟩ := zh_let hF
  have gy1 := zFr.put g0 (r := q) (by first | omega | (dsimp only; omega)) hy1
  rcases (Decidable.em ((μy1 q 9) = 0)).symm with cy2 | cy2
  · replace hF := zh_f cy2 hF
    rcases (Decidable.em ((μy1 (q + 7) 31) = 1)).symm with cy3 | cy3
    · replace hF := zh_f cy3 hF
      obtain ⟨ty4, hty4, hF⟩ := zh_bind hF
      have gty4 := zFr.tr gy1 (fr_M_startsScan hty4) (fun r h => by first | exact h | exact h.elim | omega | (revert h; dsimp only; omega)) (fun r h => by first | exact h | exact h.elim | omega | (revert h; dsimp only; omega))
      cases hF
      exact gty4
    · replace hF := zh_t cy3 hF
      cases hF
      exact gy1
  · replace hF := zh_t cy2 hF
    cases hF
    exact gy1
theorem fr_M_scan {q : Nat} {μ : zI} {ν : zJ} {out : (Int32 × zI × zJ)} (hE : E_M_scan q μ ν = some out) : zFr (fun r => (q ≤ r ∧ r < q + 12)) (fun _ => False) μ ν out.2.1 out.2.2 := (g_M_scan_0 hE)
theorem g_M_told_25 {q : Nat}  {x1 : Int32} {s0 : Int32} {μ : zI} {ν : zJ} {out : (Int32 × zI × zJ)} (hF : e_M_told_25 q  x1 s0 μ ν = some out) : zFr (fun r => (q ≤ r ∧ r < q + 12)) (fun _ => False) μ ν out.2.1 out.2.2 := by
  unfold e_M_told_25 at hF
  have g0 := zFr.rf (fun r => (q ≤ r ∧ r < q + 12)) (fun _ => False) μ ν
  cases hF
  exact g0
theorem g_M_told_24 {q : Nat}  {x1 : Int32} {μ : zI} {ν : zJ} {out : (Int32 × zI × zJ)} (hF : e_M_told_24 q  x1 μ ν = some out) : zFr (fun r => (q ≤ r ∧ r < q + 12)) (fun _ => False) μ ν out.2.1 out.2.2 := by
  unfold e_M_told_24 at hF
  have g0 := zFr.rf (fun r => (q ≤ r ∧ r < q + 12)) (fun _ => False) μ ν
  exact zFr.tr g0 (g_M_told_25  hF) (fun _ h => h) (fun _ h => h)
theorem g_M_told_0 {q : Nat}  {x1 : Int32} {μ : zI} {ν : zJ} {out : (Int32 × zI × zJ)} (hF : e_M_told_0 q  x1 μ ν = some out) : zFr (fun r => (q ≤ r ∧ r < q + 12)) (fun _ => False) μ ν out.2.1 out.2.2 := by
  unfold e_M_told_0 at hF
  have g0 := zFr.rf (fun r => (q ≤ r ∧ r < q + 12)) (fun _ => False) μ ν
  obtain ⟨μy1, hy1, hF⟩ := zh_let hF
  have gy1 := zFr.put g0 (r := q) (by first | omega | (dsimp only; omega)) hy1
  rcases Decidable.em (x1 < 0) with cy2 | cy2
  · replace hF := zh_t cy2 hF
    exact zFr.tr gy1 (g_M_told_24  hF) (fun _ h => h) (fun _ h => h)
  · replace hF := zh_f cy2 hF
    rcases Decidable.em (18 < x1) with cy3 | cy3
    · replace hF := zh_t cy3 hF
      exact zFr.tr gy1 (g_M_told_24  hF) (fun _ h => h) (fun _ h => h)
    · replace hF := zh_f cy3 hF
      obtain ⟨hy4, hF⟩ := zh_if hF
      exact zFr.tr gy1 (g_M_told_25  hF) (fun _ h => h) (fun _ h => h)
theorem fr_M_told {q : Nat} {x1 : Int32} {μ : zI} {ν : zJ} {out : (Int32 × zI × zJ)} (hE : E_M_told q x1 μ ν = some out) : zFr (fun r => (q ≤ r ∧ r < q + 12)) (fun _ => False) μ ν out.2.1 out.2.2 := (g_M_told_0 hE)
theorem g_M_settle_37 {q : Nat}  {x1 : Int32} {x2 : Int32} {μ : zI} {ν : zJ} {out : (Int32 × zI × zJ)} (hF : e_M_settle_37 q  x1 x2 μ ν = some out) : zFr (fun r => (q ≤ r ∧ r < q + 12)) (fun _ => False) μ ν out.2.1 out.2.2 := by
  unfold e_M_settle_37 at hF
  have g0 := zFr.rf (fun r => (q ≤ r ∧ r < q + 12)) (fun _ => False) μ ν
  cases hF
  exact g0
theorem g_M_settle_21 {q : Nat}  {x1 : Int32} {x2 : Int32} {μ : zI} {ν : zJ} {out : (Int32 × zI × zJ)} (hF : e_M_settle_21 q  x1 x2 μ ν = some out) : zFr (fun r => (q ≤ r ∧ r < q + 12)) (fun _ => False) μ ν out.2.1 out.2.2 := by
  unfold e_M_settle_21 at hF
  have g0 := zFr.rf (fun r => (q ≤ r ∧ r < q + 12)) (fun _ => False) μ ν
  obtain ⟨ty1, hty1, hF⟩ := zh_bind hF
  have gty1 := zFr.tr g0 (fr_M_leastOf hty1) (fun r h => by first | exact h | exact h.elim | omega | (revert h; dsimp only; omega)) (fun r h => by first | exact h | exact h.elim | omega | (revert h; dsimp only; omega))
  rcases Decidable.em (x2 < ty1.1) with cy2 | cy2
  · replace hF := zh_t cy2 hF
    exact zFr.tr gty1 (g_M_settle_37  hF) (fun _ h => h) (fun _ h => h)
  · replace hF := zh_f cy2 hF
    obtain ⟨ty3, hty3, hF⟩ := zh_bind hF
    have gty3 := zFr.tr gty1 (fr_M_mostOf hty3) (fun r h => by first | exact h | exact h.elim | omega | (revert h; dsimp only; omega)) (fun r h => by first | exact h | exact h.elim | omega | (revert h; dsimp only; omega))
    rcases Decidable.em (x2 ≤ ty3.1) with cy4 | cy4
    · replace hF := zh_t cy4 hF
      obtain ⟨hy5, hF⟩ := zh_if hF
      obtain ⟨y6, hy6, hF⟩ := zh_let hF
      obtain ⟨hy7, hF⟩ := zh_if hF
      obtain ⟨μy8, hy8, hF⟩ := zh_let hF
      have gy8 := zFr.put gty3 (r := (q + 7)) (by first | omega | (dsimp only; omega)) hy8
      cases hF
      exact gy8
    · replace hF := zh_f cy4 hF
      exact zFr.tr gty3 (g_M_settle_37  hF) (fun _ h => h) (fun _ h => h)
theorem g_M_settle_0 {q : Nat}  {x1 : Int32} {x2 : Int32} {μ : zI} {ν : zJ} {out : (Int32 × zI × zJ)} (hF : e_M_settle_0 q  x1 x2 μ ν = some out) : zFr (fun r => (q ≤ r ∧ r < q + 12)) (fun _ => False) μ ν out.2.1 out.2.2 := by
  unfold e_M_settle_0 at hF
  have g0 := zFr.rf (fun r => (q ≤ r ∧ r < q + 12)) (fun _ => False) μ ν
  obtain ⟨μy1, hy1, hF⟩ := zh_let hF
  have gy1 := zFr.put g0 (r := q) (by first | omega | (dsimp only; omega)) hy1
  rcases Decidable.em (x1 = 1) with cy2 | cy2
  · replace hF := zh_t cy2 hF
    exact zFr.tr gy1 (g_M_settle_21  hF) (fun _ h => h) (fun _ h => h)
  · replace hF := zh_f cy2 hF
    rcases Decidable.em (x1 < 4) with cy3 | cy3
    · replace hF := zh_t cy3 hF
      exact zFr.tr gy1 (g_M_settle_37  hF) (fun _ h => h) (fun _ h => h)
    · replace hF := zh_f cy3 hF
      rcases Decidable.em (18 < x1) with cy4 | cy4
      · replace hF := zh_t cy4 hF
        exact zFr.tr gy1 (g_M_settle_37  hF) (fun _ h => h) (fun _ h => h)
      · replace hF := zh_f cy4 hF
        exact zFr.tr gy1 (g_M_settle_21  hF) (fun _ h => h) (fun _ h => h)
theorem fr_M_settle {q : Nat} {x1 : Int32} {x2 : Int32} {μ : zI} {ν : zJ} {out : (Int32 × zI × zJ)} (hE : E_M_settle q x1 x2 μ ν = some out) : zFr (fun r => (q ≤ r ∧ r < q + 12)) (fun _ => False) μ ν out.2.1 out.2.2 := (g_M_settle_0 hE)
theorem g_M_module_0 {q : Nat}  {x1 : Int32} {x2 : Int32} {μ : zI} {ν : zJ} {out : (Int32 × zI × zJ)} (hF : e_M_module_0 q  x1 x2 μ ν = some out) : zFr (fun r => (q ≤ r ∧ r < q + 12)) (fun _ => False) μ ν out.2.1 out.2.2 := by
  unfold e_M_module_0 at hF
  have g0 := zFr.rf (fun r => (q ≤ r ∧ r < q + 12)) (fun _ => False) μ ν
  obtain ⟨μy1, hy1, hF⟩ := zh_let hF
  have gy1 := zFr.put g0 (r := q) (by first | omega | (dsimp only; omega)) hy1
  obtain ⟨ty2, hty2, hF⟩ := zh_bind hF
  have gty2 := zFr.tr gy1 (fr_M_isModule hty2) (fun r h => by first | exact h | exact h.elim | omega | (revert h; dsimp only; omega)) (fun r h => by first | exact h | exact h.elim | omega | (revert h; dsimp only; omega))
  rcases (Decidable.em (ty2.1 = 0)).symm with cy3 | cy3
  · replace hF := zh_f cy3 hF
    by_cases cy4 : x2 = 0
    · replace hF := zh_t cy4 hF
      obtain ⟨hy8, hF⟩ := zh_if hF
      cases hF
      exact gty2
    · replace hF := zh_f cy4 hF
      by_cases cy5 : x2 = 1
      · replace hF := zh_t cy5 hF
        obtain ⟨hy9, hF⟩ := zh_if hF
        cases hF
        exact gty2
      · replace hF := zh_f cy5 hF
        by_cases cy6 : x2 = 2
        · replace hF := zh_t cy6 hF
          obtain ⟨hy10, hF⟩ := zh_if hF
          cases hF
          exact gty2
        · replace hF := zh_f cy6 hF
          by_cases cy7 : x2 = 3
          · replace hF := zh_t cy7 hF
            obtain ⟨ty11, hty11, hF⟩ := zh_bind hF
            have gty11 := zFr.tr gty2 (fr_M_litOf hty11) (fun r h => by first | exact h | exact h.elim | omega | (revert h; dsimp only; omega)) (fun r h => by first | exact h | exact h.elim | omega | (revert h; dsimp only; omega))
            cases hF
            exact gty11
          · replace hF := zh_f cy7 hF
            obtain ⟨μy12, hy12, hF⟩ := zh_let hF
            have gy12 := zFr.put gty2 (r := q) (by first | omega | (dsimp only; omega)) hy12
            cases hF
            exact gy12
  · replace hF := zh_t cy3 hF
    obtain ⟨μy13, hy13, hF⟩ := zh_let hF
    have gy13 := zFr.put gty2 (r := q) (by first | omega | (dsimp only; omega)) hy13
    cases hF
    exact gy13
theorem fr_M_module {q : Nat} {x1 : Int32} {x2 : Int32} {μ : zI} {ν : zJ} {out : (Int32 × zI × zJ)} (hE : E_M_module q x1 x2 μ ν = some out) : zFr (fun r => (q ≤ r ∧ r < q + 12)) (fun _ => False) μ ν out.2.1 out.2.2 := (g_M_module_0 hE)
theorem g_M_isPoint_16  {x0 : Int32} {s0 : Int32} {μ : zI} {ν : zJ} {out : (Int32 × zI × zJ)} (hF : e_M_isPoint_16   x0 s0 μ ν = some out) : zFr (fun _ => False) (fun _ => False) μ ν out.2.1 out.2.2 := by
  unfold e_M_isPoint_16 at hF
  have g0 := zFr.rf (fun _ => False) (fun _ => False) μ ν
  obtain ⟨hy1, hF⟩ := zh_if hF
  cases hF
  exact g0
theorem g_M_isPoint_15  {x0 : Int32} {μ : zI} {ν : zJ} {out : (Int32 × zI × zJ)} (hF : e_M_isPoint_15   x0 μ ν = some out) : zFr (fun _ => False) (fun _ => False) μ ν out.2.1 out.2.2 := by
  unfold e_M_isPoint_15 at hF
  have g0 := zFr.rf (fun _ => False) (fun _ => False) μ ν
  exact zFr.tr g0 (g_M_isPoint_16  hF) (fun _ h => h) (fun _ h => h)
theorem g_M_isPoint_0  {x0 : Int32} {μ : zI} {ν : zJ} {out : (Int32 × zI × zJ)} (hF : e_M_isPoint_0   x0 μ ν = some out) : zFr (fun _ => False) (fun _ => False) μ ν out.2.1 out.2.2 := by
  unfold e_M_isPoint_0 at hF
  have g0 := zFr.rf (fun _ => False) (fun _ => False) μ ν
  rcases Decidable.em (x0 < 0) with cy1 | cy1
  · replace hF := zh_t cy1 hF
    exact zFr.tr g0 (g_M_isPoint_15  hF) (fun _ h => h) (fun _ h => h)
  · replace hF := zh_f cy1 hF
    rcases Decidable.em (1000 ≤ x0) with cy2 | cy2
    · replace hF := zh_t cy2 hF
      exact zFr.tr g0 (g_M_isPoint_15  hF) (fun _ h => h) (fun _ h => h)
    · replace hF := zh_f cy2 hF
      exact zFr.tr g0 (g_M_isPoint_16  hF) (fun _ h => h) (fun _ h => h)
theorem fr_M_isPoint {x0 : Int32} {μ : zI} {ν : zJ} {out : (Int32 × zI × zJ)} (hE : E_M_isPoint x0 μ ν = some out) : zFr (fun _ => False) (fun _ => False) μ ν out.2.1 out.2.2 := (g_M_isPoint_0 hE)
theorem g_M_volts_21 {q : Nat}  {x1 : Int32} {s0 : Int32} {μ : zI} {ν : zJ} {out : (Int32 × zI × zJ)} (hF : e_M_volts_21 q  x1 s0 μ ν = some out) : zFr (fun r => (q ≤ r ∧ r < q + 12)) (fun _ => False) μ ν out.2.1 out.2.2 := by
  unfold e_M_volts_21 at hF
  have g0 := zFr.rf (fun r => (q ≤ r ∧ r < q + 12)) (fun _ => False) μ ν
  cases hF
  exact g0
theorem g_M_volts_0 {q : Nat}  {x1 : Int32} {μ : zI} {ν : zJ} {out : (Int32 × zI × zJ)} (hF : e_M_volts_0 q  x1 μ ν = some out) : zFr (fun r => (q ≤ r ∧ r < q + 12)) (fun _ => False) μ ν out.2.1 out.2.2 := by
  unfold e_M_volts_0 at hF
  have g0 := zFr.rf (fun r => (q ≤ r ∧ r < q + 12)) (fun _ => False) μ ν
  obtain ⟨μy1, hy1, hF⟩ := zh_let hF
  have gy1 := zFr.put g0 (r := q) (by first | omega | (dsimp only; omega)) hy1
  obtain ⟨ty2, hty2, hF⟩ := zh_bind hF
  have gty2 := zFr.tr gy1 (fr_M_isPoint hty2) (fun r h => by first | exact h | exact h.elim | omega | (revert h; dsimp only; omega)) (fun r h => by first | exact h | exact h.elim | omega | (revert h; dsimp only; omega))
  rcases Decidable.em (ty2.1 = 0) with cy3 | cy3
  · replace hF := zh_t cy3 hF
    exact zFr.tr gty2 (g_M_volts_21  hF) (fun _ h => h) (fun _ h => h)
  · replace hF := zh_f cy3 hF
    obtain ⟨ty4, hty4, hF⟩ := zh_bind hF
    have gty4 := zFr.tr gty2 (fr_M_voltsAt hty4) (fun r h => by first | exact h | exact h.elim | omega | (revert h; dsimp only; omega)) (fun r h => by first | exact h | exact h.elim | omega | (revert h; dsimp only; omega))
    exact zFr.tr gty4 (g_M_volts_21  hF) (fun _ h => h) (fun _ h => h)
theorem fr_M_volts {q : Nat} {x1 : Int32} {μ : zI} {ν : zJ} {out : (Int32 × zI × zJ)} (hE : E_M_volts q x1 μ ν = some out) : zFr (fun r => (q ≤ r ∧ r < q + 12)) (fun _ => False) μ ν out.2.1 out.2.2 := (g_M_volts_0 hE)
theorem g_M_power_21 {q : Nat}  {x1 : Int32} {s0 : Int32} {μ : zI} {ν : zJ} {out : (Int32 × zI × zJ)} (hF : e_M_power_21 q  x1 s0 μ ν = some out) : zFr (fun r => (q ≤ r ∧ r < q + 12)) (fun _ => False) μ ν out.2.1 out.2.2 := by
  unfold e_M_power_21 at hF
  have g0 := zFr.rf (fun r => (q ≤ r ∧ r < q + 12)) (fun _ => False) μ ν
  cases hF
  exact g0
theorem g_M_power_0 {q : Nat}  {x1 : Int32} {μ : zI} {ν : zJ} {out : (Int32 × zI × zJ)} (hF : e_M_power_0 q  x1 μ ν = some out) : zFr (fun r => (q ≤ r ∧ r < q + 12)) (fun _ => False) μ ν out.2.1 out.2.2 := by
  unfold e_M_power_0 at hF
  have g0 := zFr.rf (fun r => (q ≤ r ∧ r < q + 12)) (fun _ => False) μ ν
  obtain ⟨μy1, hy1, hF⟩ := zh_let hF
  have gy1 := zFr.put g0 (r := q) (by first | omega | (dsimp only; omega)) hy1
  obtain ⟨ty2, hty2, hF⟩ := zh_bind hF
  have gty2 := zFr.tr gy1 (fr_M_isPoint hty2) (fun r h => by first | exact h | exact h.elim | omega | (revert h; dsimp only; omega)) (fun r h => by first | exact h | exact h.elim | omega | (revert h; dsimp only; omega))
  rcases Decidable.em (ty2.1 = 0) with cy3 | cy3
  · replace hF := zh_t cy3 hF
    exact zFr.tr gty2 (g_M_power_21  hF) (fun _ h => h) (fun _ h => h)
  · replace hF := zh_f cy3 hF
    obtain ⟨ty4, hty4, hF⟩ := zh_bind hF
    have gty4 := zFr.tr gty2 (fr_M_powerAt hty4) (fun r h => by first | exact h | exact h.elim | omega | (revert h; dsimp only; omega)) (fun r h => by first | exact h | exact h.elim | omega | (revert h; dsimp only; omega))
    exact zFr.tr gty4 (g_M_power_21  hF) (fun _ h => h) (fun _ h => h)
theorem fr_M_power {q : Nat} {x1 : Int32} {μ : zI} {ν : zJ} {out : (Int32 × zI × zJ)} (hE : E_M_power q x1 μ ν = some out) : zFr (fun r => (q ≤ r ∧ r < q + 12)) (fun _ => False) μ ν out.2.1 out.2.2 := (g_M_power_0 hE)
theorem g_M_slope_35 {q : Nat}  {x1 : Int32} {s0 : Int32} {μ : zI} {ν : zJ} {out : (Int32 × zI × zJ)} (hF : e_M_slope_35 q  x1 s0 μ ν = some out) : zFr (fun r => (q ≤ r ∧ r < q + 12)) (fun _ => False) μ ν out.2.1 out.2.2 := by
  unfold e_M_slope_35 at hF
  have g0 := zFr.rf (fun r => (q ≤ r ∧ r < q + 12)) (fun _ => False) μ ν
  cases hF
  exact g0
theorem g_M_slope_32 {q : Nat}  {x1 : Int32} {μ : zI} {ν : zJ} {out : (Int32 × zI × zJ)} (hF : e_M_slope_32 q  x1 μ ν = some out) : zFr (fun r => (q ≤ r ∧ r < q + 12)) (fun _ => False) μ ν out.2.1 out.2.2 := by
  unfold e_M_slope_32 at hF
  have g0 := zFr.rf (fun r => (q ≤ r ∧ r < q + 12)) (fun _ => False) μ ν
  exact zFr.tr g0 (g_M_slope_35  hF) (fun _ h => h) (fun _ h => h)
theorem g_M_slope_0 {q : Nat}  {x1 : Int32} {μ : zI} {ν : zJ} {out : (Int32 × zI × zJ)} (hF : e_M_slope_0 q  x1 μ ν = some out) : zFr (fun r => (q ≤ r ∧ r < q + 12)) (fun _ => False) μ ν out.2.1 out.2.2 := by
  unfold e_M_slope_0 at hF
  have g0 := zFr.rf (fun r => (q ≤ r ∧ r < q + 12)) (fun _ => False) μ ν
  obtain ⟨μy1, hy1, hF⟩ := zh_let hF
  have gy1 := zFr.put g0 (r := q) (by first | omega | (dsimp only; omega)) hy1
  rcases Decidable.em (x1 < 0) with cy2 | cy2
  · replace hF := zh_t cy2 hF
    exact zFr.tr gy1 (g_M_slope_32  hF) (fun _ h => h) (fun _ h => h)
  · replace hF := zh_f cy2 hF
    rcases Decidable.em (999 ≤ x1) with cy3 | cy3
    · replace hF := zh_t cy3 hF
      exact zFr.tr gy1 (g_M_slope_32  hF) (fun _ h => h) (fun _ h => h)
    · replace hF := zh_f cy3 hF
      obtain ⟨ty4, hty4, hF⟩ := zh_bind hF
      have gty4 := zFr.tr gy1 (fr_M_powerAt hty4) (fun r h => by first | exact h | exact h.elim | omega | (revert h; dsimp only; omega)) (fun r h => by first | exact h | exact h.elim | omega | (revert h; dsimp only; omega))
      obtain ⟨ty5, hty5, hF⟩ := zh_bind hF
      have gty5 := zFr.tr gty4 (fr_M_powerAt hty5) (fun r h => by first | exact h | exact h.elim | omega | (revert h; dsimp only; omega)) (fun r h => by first | exact h | exact h.elim | omega | (revert h; dsimp only; omega))
      exact zFr.tr gty5 (g_M_slope_35  hF) (fun _ h => h) (fun _ h => h)
theorem fr_M_slope {q : Nat} {x1 : Int32} {μ : zI} {ν : zJ} {out : (Int32 × zI × zJ)} (hE : E_M_slope q x1 μ ν = some out) : zFr (fun r => (q ≤ r ∧ r < q + 12)) (fun _ => False) μ ν out.2.1 out.2.2 := (g_M_slope_0 hE)
theorem g_M_topsTo_130 {q : Nat} {r4 : Int32 → Int32 → Int32 → zI → zJ → Option (Int32 × zI × zJ)} {x1 : Int32} {x2 : Int32} {x3 : Int32} {x4 : Int32} {x5 : Int32} {x6 : Int32} {s0 : Int32} {s1 : Int32} {μ : zI} {ν : zJ} {out : (Int32 × zI × zJ)} (hr4 : ∀ (x1 : Int32) (x2 : Int32) (x3 : Int32) (μ : zI) (ν : zJ), r4 x1 x2 x3 μ ν = some out → zFr (fun r => (q ≤ r ∧ r < q + 12)) (fun _ => False) μ ν out.2.1 out.2.2) (hF : e_M_topsTo_130 q r4 x1 x2 x3 x4 x5 x6 s0 s1 μ ν = some out) : zFr (fun r => (q ≤ r ∧ r < q + 12)) (fun _ => False) μ ν out.2.1 out.2.2 := by
  unfold e_M_topsTo_130 at hF
  have g0 := zFr.rf (fun r => (q ≤ r ∧ r < q + 12)) (fun _ => False) μ ν
  obtain ⟨y1, hy1, hF⟩ := zh_let hF
  obtain ⟨y2, hy2, hF⟩ := zh_let hF
  exact zFr.tr g0 (hr4 _ _ _ _ _ hF) (fun _ h => h) (fun _ h => h)
theorem g_M_topsTo_119 {q : Nat} {r4 : Int32 → Int32 → Int32 → zI → zJ → Option (Int32 × zI × zJ)} {x1 : Int32} {x2 : Int32} {x3 : Int32} {x4 : Int32} {x5 : Int32} {x6 : Int32} {μ : zI} {ν : zJ} {out : (Int32 × zI × zJ)} (hr4 : ∀ (x1 : Int32) (x2 : Int32) (x3 : Int32) (μ : zI) (ν : zJ), r4 x1 x2 x3 μ ν = some out → zFr (fun r => (q ≤ r ∧ r < q + 12)) (fun _ => False) μ ν out.2.1 out.2.2) (hF : e_M_topsTo_119 q r4 x1 x2 x3 x4 x5 x6 μ ν = some out) : zFr (fun r => (q ≤ r ∧ r < q + 12)) (fun _ => False) μ ν out.2.1 out.2.2 := by
  unfold e_M_topsTo_119 at hF
  have g0 := zFr.rf (fun r => (q ≤ r ∧ r < q + 12)) (fun _ => False) μ ν
  rcases Decidable.em (x6 = 0) with cy1 | cy1
  · replace hF := zh_t cy1 hF
    exact zFr.tr g0 (g_M_topsTo_130 hr4 hF) (fun _ h => h) (fun _ h => h)
  · replace hF := zh_f cy1 hF
    exact zFr.tr g0 (g_M_topsTo_130 hr4 hF) (fun _ h => h) (fun _ h => h)
theorem g_M_topsTo_88 {q : Nat} {r4 : Int32 → Int32 → Int32 → zI → zJ → Option (Int32 × zI × zJ)} {x1 : Int32} {x2 : Int32} {x3 : Int32} {x4 : Int32} {x5 : Int32} {s0 : Int32} {μ : zI} {ν : zJ} {out : (Int32 × zI × zJ)} (hr4 : ∀ (x1 : Int32) (x2 : Int32) (x3 : Int32) (μ : zI) (ν : zJ), r4 x1 x2 x3 μ ν = some out → zFr (fun r => (q ≤ r ∧ r < q + 12)) (fun _ => False) μ ν out.2.1 out.2.2) (hF : e_M_topsTo_88 q r4 x1 x2 x3 x4 x5 s0 μ ν = some out) : zFr (fun r => (q ≤ r ∧ r < q + 12)) (fun _ => False) μ ν out.2.1 out.2.2 := by
  unfold e_M_topsTo_88 at hF
  have g0 := zFr.rf (fun r => (q ≤ r ∧ r < q + 12)) (fun _ => False) μ ν
  rcases Decidable.em (s0 = 0) with cy1 | cy1
  · replace hF := zh_t cy1 hF
    exact zFr.tr g0 (g_M_topsTo_119 hr4 hF) (fun _ h => h) (fun _ h => h)
  · replace hF := zh_f cy1 hF
    rcases (Decidable.em (x2 = x1)).symm with cy2 | cy2
    · replace hF := zh_f cy2 hF
      exact zFr.tr g0 (g_M_topsTo_119 hr4 hF) (fun _ h => h) (fun _ h => h)
    · replace hF := zh_t cy2 hF
      obtain ⟨μy3, hy3, hF⟩ := zh_let hF
      have gy3 := zFr.put g0 (r := q) (by first | omega | (dsimp only; omega)) hy3
      obtain ⟨μy4, hy4, hF⟩ := zh_let hF
      have gy4 := zFr.put gy3 (r := q) (by first | omega | (dsimp only; omega)) hy4
      cases hF
      exact gy4
theorem g_M_topsTo_83 {q : Nat} {r4 : Int32 → Int32 → Int32 → zI → zJ → Option (Int32 × zI × zJ)} {x1 : Int32} {x2 : Int32} {x3 : Int32} {x4 : Int32} {x5 : Int32} {μ : zI} {ν : zJ} {out : (Int32 × zI × zJ)} (hr4 : ∀ (x1 : Int32) (x2 : Int32) (x3 : Int32) (μ : zI) (ν : zJ), r4 x1 x2 x3 μ ν = some out → zFr (fun r => (q ≤ r ∧ r < q + 12)) (fun _ => False) μ ν out.2.1 out.2.2) (hF : e_M_topsTo_83 q r4 x1 x2 x3 x4 x5 μ ν = some out) : zFr (fun r => (q ≤ r ∧ r < q + 12)) (fun _ => False) μ ν out.2.1 out.2.2 := by
  unfold e_M_topsTo_83 at hF
  have g0 := zFr.rf (fun r => (q ≤ r ∧ r < q + 12)) (fun _ => False) μ ν
  exact zFr.tr g0 (g_M_topsTo_88 hr4 hF) (fun _ h => h) (fun _ h => h)
theorem g_M_topsTo_87 {q : Nat} {r4 : Int32 → Int32 → Int32 → zI → zJ → Option (Int32 × zI × zJ)} {x1 : Int32} {x2 : Int32} {x3 : Int32} {x4 : Int32} {x5 : Int32} {μ : zI} {ν : zJ} {out : (Int32 × zI × zJ)} (hr4 : ∀ (x1 : Int32) (x2 : Int32) (x3 : Int32) (μ : zI) (ν : zJ), r4 x1 x2 x3 μ ν = some out → zFr (fun r => (q ≤ r ∧ r < q + 12)) (fun _ => False) μ ν out.2.1 out.2.2) (hF : e_M_topsTo_87 q r4 x1 x2 x3 x4 x5 μ ν = some out) : zFr (fun r => (q ≤ r ∧ r < q + 12)) (fun _ => False) μ ν out.2.1 out.2.2 := by
  unfold e_M_topsTo_87 at hF
  have g0 := zFr.rf (fun r => (q ≤ r ∧ r < q + 12)) (fun _ => False) μ ν
  exact zFr.tr g0 (g_M_topsTo_88 hr4 hF) (fun _ h => h) (fun _ h => h)
theorem g_M_topsTo_50 {q : Nat} {r4 : Int32 → Int32 → Int32 → zI → zJ → Option (Int32 × zI × zJ)} {x1 : Int32} {x2 : Int32} {x3 : Int32} {x4 : Int32} {x5 : Int32} {μ : zI} {ν : zJ} {out : (Int32 × zI × zJ)} (hr4 : ∀ (x1 : Int32) (x2 : Int32) (x3 : Int32) (μ : zI) (ν : zJ), r4 x1 x2 x3 μ ν = some out → zFr (fun r => (q ≤ r ∧ r < q + 12)) (fun _ => False) μ ν out.2.1 out.2.2) (hF : e_M_topsTo_50 q r4 x1 x2 x3 x4 x5 μ ν = some out) : zFr (fun r => (q ≤ r ∧ r < q + 12)) (fun _ => False) μ ν out.2.1 out.2.2 := by
  unfold e_M_topsTo_50 at hF
  have g0 := zFr.rf (fun r => (q ≤ r ∧ r < q + 12)) (fun _ => False) μ ν
  obtain ⟨ty1, hty1, hF⟩ := zh_bind hF
  have gty1 := zFr.tr g0 (fr_M_powerAt hty1) (fun r h => by first | exact h | exact h.elim | omega | (revert h; dsimp only; omega)) (fun r h => by first | exact h | exact h.elim | omega | (revert h; dsimp only; omega))
  rcases Decidable.em (x4 ≤ ty1.1) with cy2 | cy2
  · replace hF := zh_t cy2 hF
    exact zFr.tr gty1 (g_M_topsTo_87 hr4 hF) (fun _ h => h) (fun _ h => h)
  · replace hF := zh_f cy2 hF
    rcases Decidable.em (x5 = 999) with cy3 | cy3
    · replace hF := zh_t cy3 hF
      exact zFr.tr gty1 (g_M_topsTo_83 hr4 hF) (fun _ h => h) (fun _ h => h)
    · replace hF := zh_f cy3 hF
      obtain ⟨ty4, hty4, hF⟩ := zh_bind hF
      have gty4 := zFr.tr gty1 (fr_M_powerAt hty4) (fun r h => by first | exact h | exact h.elim | omega | (revert h; dsimp only; omega)) (fun r h => by first | exact h | exact h.elim | omega | (revert h; dsimp only; omega))
      rcases Decidable.em (x4 ≤ ty4.1) with cy5 | cy5
      · replace hF := zh_t cy5 hF
        exact zFr.tr gty4 (g_M_topsTo_87 hr4 hF) (fun _ h => h) (fun _ h => h)
      · replace hF := zh_f cy5 hF
        exact zFr.tr gty4 (g_M_topsTo_83 hr4 hF) (fun _ h => h) (fun _ h => h)
theorem g_M_topsTo_21 {q : Nat} {r4 : Int32 → Int32 → Int32 → zI → zJ → Option (Int32 × zI × zJ)} {out : (Int32 × zI × zJ)} (hr4 : ∀ (x1 : Int32) (x2 : Int32) (x3 : Int32) (μ : zI) (ν : zJ), r4 x1 x2 x3 μ ν = some out → zFr (fun r => (q ≤ r ∧ r < q + 12)) (fun _ => False) μ ν out.2.1 out.2.2) : ∀ (n : Nat) (x1 : Int32) (x2 : Int32) (x3 : Int32) (x4 : Int32) (x5 : Int32) (μ : zI) (ν : zJ), f_M_topsTo_21 q r4 n x1 x2 x3 x4 x5 μ ν = some out → zFr (fun r => (q ≤ r ∧ r < q + 12)) (fun _ => False) μ ν out.2.1 out.2.2 := by
  intro n
  induction n with
  | zero => intro x1 x2 x3 x4 x5 μ ν hF; cases hF
  | succ n ih =>
    intro x1 x2 x3 x4 x5 μ ν hF
    dsimp only [f_M_topsTo_21] at hF
    have g0 := zFr.rf (fun r => (q ≤ r ∧ r < q + 12)) (fun _ => False) μ ν
    rcases Decidable.em (1000 ≤ (x5 + 1)) with cy1 | cy1
    · replace hF := zh_t cy1 hF
      exact zFr.tr g0 (g_M_topsTo_50 hr4 hF) (fun _ h => h) (fun _ h => h)
    · replace hF := zh_f cy1 hF
      obtain ⟨ty2, hty2, hF⟩ := zh_bind hF
      have gty2 := zFr.tr g0 (fr_M_powerAt hty2) (fun r h => by first | exact h | exact h.elim | omega | (revert h; dsimp only; omega)) (fun r h => by first | exact h | exact h.elim | omega | (revert h; dsimp only; omega))
      rcases (Decidable.em (ty2.1 = x4)).symm with cy3 | cy3
      · replace hF := zh_f cy3 hF
        exact zFr.tr gty2 (g_M_topsTo_50 hr4 hF) (fun _ h => h) (fun _ h => h)
      · replace hF := zh_t cy3 hF
        exact zFr.tr gty2 (ih _ _ _ _ _ _ _ hF) (fun _ h => h) (fun _ h => h)
theorem g_M_topsTo_4 {q : Nat}  {out : (Int32 × zI × zJ)} : ∀ (n : Nat) (x1 : Int32) (x2 : Int32) (x3 : Int32) (μ : zI) (ν : zJ), f_M_topsTo_4 q  n x1 x2 x3 μ ν = some out → zFr (fun r => (q ≤ r ∧ r < q + 12)) (fun _ => False) μ ν out.2.1 out.2.2 := by
  intro n
  induction n with
  | zero => intro x1 x2 x3 μ ν hF; cases hF
  | succ n ih =>
    intro x1 x2 x3 μ ν hF
    dsimp only [f_M_topsTo_4] at hF
    have g0 := zFr.rf (fun r => (q ≤ r ∧ r < q + 12)) (fun _ => False) μ ν
    rcases Decidable.em (1000 ≤ x3) with cy1 | cy1
    · replace hF := zh_t cy1 hF
      cases hF
      exact g0
    · replace hF := zh_f cy1 hF
      obtain ⟨ty2, hty2, hF⟩ := zh_bind hF
      have gty2 := zFr.tr g0 (fr_M_powerAt hty2) (fun r h => by first | exact h | exact h.elim | omega | (revert h; dsimp only; omega)) (fun r h => by first | exact h | exact h.elim | omega | (revert h; dsimp only; omega))
      obtain ⟨y3, hy3, hF⟩ := zh_let hF
      exact zFr.tr gty2 (g_M_topsTo_21 (fun a0 a1 a2 a3 a4 => ih a0 a1 a2 a3 a4) zFuel _ _ _ _ _ _ _ hF) (fun _ h => h) (fun _ h => h)
theorem g_M_topsTo_0 {q : Nat}  {x1 : Int32} {μ : zI} {ν : zJ} {out : (Int32 × zI × zJ)} (hF : e_M_topsTo_0 q  x1 μ ν = some out) : zFr (fun r => (q ≤ r ∧ r < q + 12)) (fun _ => False) μ ν out.2.1 out.2.2 := by
  unfold e_M_topsTo_0 at hF
  have g0 := zFr.rf (fun r => (q ≤ r ∧ r < q + 12)) (fun _ => False) μ ν
  exact zFr.tr g0 (g_M_topsTo_4  zFuel _ _ _ _ _ hF) (fun _ h => h) (fun _ h => h)
theorem fr_M_topsTo {q : Nat} {x1 : Int32} {μ : zI} {ν : zJ} {out : (Int32 × zI × zJ)} (hE : E_M_topsTo q x1 μ ν = some out) : zFr (fun r => (q ≤ r ∧ r < q + 12)) (fun _ => False) μ ν out.2.1 out.2.2 := (g_M_topsTo_0 hE)
theorem g_M_tops_0 {q : Nat}   {μ : zI} {ν : zJ} {out : (Int32 × zI × zJ)} (hF : e_M_tops_0 q   μ ν = some out) : zFr (fun r => (q ≤ r ∧ r < q + 12)) (fun _ => False) μ ν out.2.1 out.2.2 := by
  unfold e_M_tops_0 at hF
  have g0 := zFr.rf (fun r => (q ≤ r ∧ r < q + 12)) (fun _ => False) μ ν
  obtain ⟨μy1, hy1, hF⟩ := zh_let hF
  have gy1 := zFr.put g0 (r := q) (by first | omega | (dsimp only; omega)) hy1
  obtain ⟨ty2, hty2, hF⟩ := zh_bind hF
  have gty2 := zFr.tr gy1 (fr_M_topsTo hty2) (fun r h => by first | exact h | exact h.elim | omega | (revert h; dsimp only; omega)) (fun r h => by first | exact h | exact h.elim | omega | (revert h; dsimp only; omega))
  cases hF
  exact gty2
theorem fr_M_tops {q : Nat} {μ : zI} {ν : zJ} {out : (Int32 × zI × zJ)} (hE : E_M_tops q μ ν = some out) : zFr (fun r => (q ≤ r ∧ r < q + 12)) (fun _ => False) μ ν out.2.1 out.2.2 := (g_M_tops_0 hE)
theorem g_M_top_18 {q : Nat}  {x1 : Int32} {x2 : Int32} {μ : zI} {ν : zJ} {out : (Int32 × zI × zJ)} (hF : e_M_top_18 q  x1 x2 μ ν = some out) : zFr (fun r => (q ≤ r ∧ r < q + 12)) (fun _ => False) μ ν out.2.1 out.2.2 := by
  unfold e_M_top_18 at hF
  have g0 := zFr.rf (fun r => (q ≤ r ∧ r < q + 12)) (fun _ => False) μ ν
  cases hF
  exact g0
theorem g_M_top_63 {q : Nat}  {x1 : Int32} {x2 : Int32} {s0 : Int32} {μ : zI} {ν : zJ} {out : (Int32 × zI × zJ)} (hF : e_M_top_63 q  x1 x2 s0 μ ν = some out) : zFr (fun r => (q ≤ r ∧ r < q + 12)) (fun _ => False) μ ν out.2.1 out.2.2 := by
  unfold e_M_top_63 at hF
  have g0 := zFr.rf (fun r => (q ≤ r ∧ r < q + 12)) (fun _ => False) μ ν
  cases hF
  exact g0
theorem g_M_top_0 {q : Nat}  {x1 : Int32} {x2 : Int32} {μ : zI} {ν : zJ} {out : (Int32 × zI × zJ)} (hF : e_M_top_0 q  x1 x2 μ ν = some out) : zFr (fun r => (q ≤ r ∧ r < q + 12)) (fun _ => False) μ ν out.2.1 out.2.2 := by
  unfold e_M_top_0 at hF
  have g0 := zFr.rf (fun r => (q ≤ r ∧ r < q + 12)) (fun _ => False) μ ν
  obtain ⟨μy1, hy1, hF⟩ := zh_let hF
  have gy1 := zFr.put g0 (r := q) (by first | omega | (dsimp only; omega)) hy1
  rcases Decidable.em (x1 < 0) with cy2 | cy2
  · replace hF := zh_t cy2 hF
    exact zFr.tr gy1 (g_M_top_18  hF) (fun _ h => h) (fun _ h => h)
  · replace hF := zh_f cy2 hF
    rcases Decidable.em (x2 < 0) with cy3 | cy3
    · replace hF := zh_t cy3 hF
      exact zFr.tr gy1 (g_M_top_18  hF) (fun _ h => h) (fun _ h => h)
    · replace hF := zh_f cy3 hF
      rcases Decidable.em (x2 ≤ 2) with cy4 | cy4
      · replace hF := zh_t cy4 hF
        obtain ⟨ty5, hty5, hF⟩ := zh_bind hF
        have gty5 := zFr.tr gy1 (fr_M_topsTo hty5) (fun r h => by first | exact h | exact h.elim | omega | (revert h; dsimp only; omega)) (fun r h => by first | exact h | exact h.elim | omega | (revert h; dsimp only; omega))
        rcases Decidable.em (x1 < ty5.1) with cy6 | cy6
        · replace hF := zh_t cy6 hF
          rcases (Decidable.em (x2 = 0)).symm with cy7 | cy7
          · replace hF := zh_f cy7 hF
            rcases (Decidable.em (x2 = 1)).symm with cy8 | cy8
            · replace hF := zh_f cy8 hF
              exact zFr.tr gty5 (g_M_top_63  hF) (fun _ h => h) (fun _ h => h)
            · replace hF := zh_t cy8 hF
              obtain ⟨ty9, hty9, hF⟩ := zh_bind hF
              have gty9 := zFr.tr gty5 (fr_M_powerAt hty9) (fun r h => by first | exact h | exact h.elim | omega | (revert h; dsimp only; omega)) (fun r h => by first | exact h | exact h.elim | omega | (revert h; dsimp only; omega))
              exact zFr.tr gty9 (g_M_top_63  hF) (fun _ h => h) (fun _ h => h)
          · replace hF := zh_t cy7 hF
            exact zFr.tr gty5 (g_M_top_63  hF) (fun _ h => h) (fun _ h => h)
        · replace hF := zh_f cy6 hF
          cases hF
          exact gty5
      · replace hF := zh_f cy4 hF
        exact zFr.tr gy1 (g_M_top_18  hF) (fun _ h => h) (fun _ h => h)
theorem fr_M_top {q : Nat} {x1 : Int32} {x2 : Int32} {μ : zI} {ν : zJ} {out : (Int32 × zI × zJ)} (hE : E_M_top q x1 x2 μ ν = some out) : zFr (fun r => (q ≤ r ∧ r < q + 12)) (fun _ => False) μ ν out.2.1 out.2.2 := (g_M_top_0 hE)
theorem g_M_best_41 {q : Nat}  {x1 : Int32} {s0 : Int32} {μ : zI} {ν : zJ} {out : (Int32 × zI × zJ)} (hF : e_M_best_41 q  x1 s0 μ ν = some out) : zFr (fun r => (q ≤ r ∧ r < q + 12)) (fun _ => False) μ ν out.2.1 out.2.2 := by
  unfold e_M_best_41 at hF
  have g0 := zFr.rf (fun r => (q ≤ r ∧ r < q + 12)) (fun _ => False) μ ν
  cases hF
  exact g0
theorem g_M_best_0 {q : Nat}  {x1 : Int32} {μ : zI} {ν : zJ} {out : (Int32 × zI × zJ)} (hF : e_M_best_0 q  x1 μ ν = some out) : zFr (fun r => (q ≤ r ∧ r < q + 12)) (fun _ => False) μ ν out.2.1 out.2.2 := by
  unfold e_M_best_0 at hF
  have g0 := zFr.rf (fun r => (q ≤ r ∧ r < q + 12)) (fun _ => False) μ ν
  obtain ⟨μy1, hy1, hF⟩ := zh_let hF
  have gy1 := zFr.put g0 (r := q) (by first | omega | (dsimp only; omega)) hy1
  obtain ⟨ty2, hty2, hF⟩ := zh_bind hF
  have gty2 := zFr.tr gy1 (fr_M_finds hty2) (fun r h => by first | exact h | exact h.elim | omega | (revert h; dsimp only; omega)) (fun r h => by first | exact h | exact h.elim | omega | (revert h; dsimp only; omega))
  rcases (Decidable.em (x1 = 0)).symm with cy3 | cy3
  · replace hF := zh_f cy3 hF
    rcases (Decidable.em (x1 = 1)).symm with cy4 | cy4
    · replace hF := zh_f cy4 hF
      exact zFr.tr gty2 (g_M_best_41  hF) (fun _ h => h) (fun _ h => h)
    · replace hF := zh_t cy4 hF
      exact zFr.tr gty2 (g_M_best_41  hF) (fun _ h => h) (fun _ h => h)
  · replace hF := zh_t cy3 hF
    exact zFr.tr gty2 (g_M_best_41  hF) (fun _ h => h) (fun _ h => h)
theorem fr_M_best {q : Nat} {x1 : Int32} {μ : zI} {ν : zJ} {out : (Int32 × zI × zJ)} (hE : E_M_best q x1 μ ν = some out) : zFr (fun r => (q ≤ r ∧ r < q + 12)) (fun _ => False) μ ν out.2.1 out.2.2 := (g_M_best_0 hE)
theorem g_M_band_25 {q : Nat}  {x1 : Int32} {x2 : Int32} {μ : zI} {ν : zJ} {out : (Int32 × zI × zJ)} (hF : e_M_band_25 q  x1 x2 μ ν = some out) : zFr (fun r => (q ≤ r ∧ r < q + 12)) (fun _ => False) μ ν out.2.1 out.2.2 := by
  unfold e_M_band_25 at hF
  have g0 := zFr.rf (fun r => (q ≤ r ∧ r < q + 12)) (fun _ => False) μ ν
  cases hF
  exact g0
theorem g_M_band_105 {q : Nat} {r48 : Int32 → Int32 → Int32 → Int32 → Int32 → Int32 → zI → zJ → Option (Int32 × zI × zJ)} {x1 : Int32} {x2 : Int32} {x3 : Int32} {x4 : Int32} {x5 : Int32} {x6 : Int32} {μ : zI} {ν : zJ} {out : (Int32 × zI × zJ)} (hr48 : ∀ (x1 : Int32) (x2 : Int32) (x3 : Int32) (x4 : Int32) (x5 : Int32) (x6 : Int32) (μ : zI) (ν : zJ), r48 x1 x2 x3 x4 x5 x6 μ ν = some out → zFr (fun r => (q ≤ r ∧ r < q + 12)) (fun _ => False) μ ν out.2.1 out.2.2) (hF : e_M_band_105 q r48 x1 x2 x3 x4 x5 x6 μ ν = some out) : zFr (fun r => (q ≤ r ∧ r < q + 12)) (fun _ => False) μ ν out.2.1 out.2.2 := by
  unfold e_M_band_105 at hF
  have g0 := zFr.rf (fun r => (q ≤ r ∧ r < q + 12)) (fun _ => False) μ ν
  exact zFr.tr g0 (hr48 _ _ _ _ _ _ _ _ hF) (fun _ h => h) (fun _ h => h)
theorem g_M_band_97 {q : Nat} {r48 : Int32 → Int32 → Int32 → Int32 → Int32 → Int32 → zI → zJ → Option (Int32 × zI × zJ)} {x1 : Int32} {x2 : Int32} {x3 : Int32} {x4 : Int32} {x5 : Int32} {x6 : Int32} {s0 : Int32} {μ : zI} {ν : zJ} {out : (Int32 × zI × zJ)} (hr48 : ∀ (x1 : Int32) (x2 : Int32) (x3 : Int32) (x4 : Int32) (x5 : Int32) (x6 : Int32) (μ : zI) (ν : zJ), r48 x1 x2 x3 x4 x5 x6 μ ν = some out → zFr (fun r => (q ≤ r ∧ r < q + 12)) (fun _ => False) μ ν out.2.1 out.2.2) (hF : e_M_band_97 q r48 x1 x2 x3 x4 x5 x6 s0 μ ν = some out) : zFr (fun r => (q ≤ r ∧ r < q + 12)) (fun _ => False) μ ν out.2.1 out.2.2 := by
  unfold e_M_band_97 at hF
  have g0 := zFr.rf (fun r => (q ≤ r ∧ r < q + 12)) (fun _ => False) μ ν
  exact zFr.tr g0 (g_M_band_105 hr48 hF) (fun _ h => h) (fun _ h => h)
theorem g_M_band_131 {q : Nat}  {x1 : Int32} {x2 : Int32} {x3 : Int32} {x4 : Int32} {x5 : Int32} {x6 : Int32} {s0 : Int32} {μ : zI} {ν : zJ} {out : (Int32 × zI × zJ)} (hF : e_M_band_131 q  x1 x2 x3 x4 x5 x6 s0 μ ν = some out) : zFr (fun r => (q ≤ r ∧ r < q + 12)) (fun _ => False) μ ν out.2.1 out.2.2 := by
  unfold e_M_band_131 at hF
  have g0 := zFr.rf (fun r => (q ≤ r ∧ r < q + 12)) (fun _ => False) μ ν
  cases hF
  exact g0
theorem g_M_band_48 {q : Nat}  {out : (Int32 × zI × zJ)} : ∀ (n : Nat) (x1 : Int32) (x2 : Int32) (x3 : Int32) (x4 : Int32) (x5 : Int32) (x6 : Int32) (μ : zI) (ν : zJ), f_M_band_48 q  n x1 x2 x3 x4 x5 x6 μ ν = some out → zFr (fun r => (q ≤ r ∧ r < q + 12)) (fun _ => False) μ ν out.2.1 out.2.2 := by
  intro n
  induction n with
  | zero => intro x1 x2 x3 x4 x5 x6 μ ν hF; cases hF
  | succ n ih =>
    intro x1 x2 x3 x4 x5 x6 μ ν hF
    dsimp only [f_M_band_48] at hF
    have g0 := zFr.rf (fun r => (q ≤ r ∧ r < q + 12)) (fun _ => False) μ ν
    rcases Decidable.em (1000 ≤ x6) with cy1 | cy1
    · replace hF := zh_t cy1 hF
      rcases (Decidable.em (x2 = 0)).symm with cy2 | cy2
      · replace hF := zh_f cy2 hF
        rcases (Decidable.em (x2 = 1)).symm with cy3 | cy3
        · replace hF := zh_f cy3 hF
          exact zFr.tr g0 (g_M_band_131  hF) (fun _ h => h) (fun _ h => h)
        · replace hF := zh_t cy3 hF
          exact zFr.tr g0 (g_M_band_131  hF) (fun _ h => h) (fun _ h => h)
      · replace hF := zh_t cy2 hF
        exact zFr.tr g0 (g_M_band_131  hF) (fun _ h => h) (fun _ h => h)
    · replace hF := zh_f cy1 hF
      obtain ⟨ty4, hty4, hF⟩ := zh_bind hF
      have gty4 := zFr.tr g0 (fr_M_powerAt hty4) (fun r h => by first | exact h | exact h.elim | omega | (revert h; dsimp only; omega)) (fun r h => by first | exact h | exact h.elim | omega | (revert h; dsimp only; omega))
      rcases Decidable.em (0 ≤ (lg_cmp (100 * (Int32.toInt64 ty4.1)) ((Int32.toInt64 x1) * (Int32.toInt64 (ty4.2.1 (q + 7) 144))))) with cy5 | cy5
      · replace hF := zh_t cy5 hF
        rcases (Decidable.em (x3 = (-1))).symm with cy6 | cy6
        · replace hF := zh_f cy6 hF
          exact zFr.tr gty4 (g_M_band_97 (fun a0 a1 a2 a3 a4 a5 a6 a7 => ih a0 a1 a2 a3 a4 a5 a6 a7) hF) (fun _ h => h) (fun _ h => h)
        · replace hF := zh_t cy6 hF
          exact zFr.tr gty4 (g_M_band_97 (fun a0 a1 a2 a3 a4 a5 a6 a7 => ih a0 a1 a2 a3 a4 a5 a6 a7) hF) (fun _ h => h) (fun _ h => h)
      · replace hF := zh_f cy5 hF
        exact zFr.tr gty4 (g_M_band_105 (fun a0 a1 a2 a3 a4 a5 a6 a7 => ih a0 a1 a2 a3 a4 a5 a6 a7) hF) (fun _ h => h) (fun _ h => h)
theorem g_M_band_0 {q : Nat}  {x1 : Int32} {x2 : Int32} {μ : zI} {ν : zJ} {out : (Int32 × zI × zJ)} (hF : e_M_band_0 q  x1 x2 μ ν = some out) : zFr (fun r => (q ≤ r ∧ r < q + 12)) (fun _ => False) μ ν out.2.1 out.2.2 := by
  unfold e_M_band_0 at hF
  have g0 := zFr.rf (fun r => (q ≤ r ∧ r < q + 12)) (fun _ => False) μ ν
  obtain ⟨μy1, hy1, hF⟩ := zh_let hF
  have gy1 := zFr.put g0 (r := q) (by first | omega | (dsimp only; omega)) hy1
  rcases Decidable.em (x1 < 1) with cy2 | cy2
  · replace hF := zh_t cy2 hF
    exact zFr.tr gy1 (g_M_band_25  hF) (fun _ h => h) (fun _ h => h)
  · replace hF := zh_f cy2 hF
    rcases Decidable.em (100 < x1) with cy3 | cy3
    · replace hF := zh_t cy3 hF
      exact zFr.tr gy1 (g_M_band_25  hF) (fun _ h => h) (fun _ h => h)
    · replace hF := zh_f cy3 hF
      rcases Decidable.em (x2 < 0) with cy4 | cy4
      · replace hF := zh_t cy4 hF
        exact zFr.tr gy1 (g_M_band_25  hF) (fun _ h => h) (fun _ h => h)
      · replace hF := zh_f cy4 hF
        rcases Decidable.em (x2 ≤ 2) with cy5 | cy5
        · replace hF := zh_t cy5 hF
          obtain ⟨ty6, hty6, hF⟩ := zh_bind hF
          have gty6 := zFr.tr gy1 (fr_M_bestNow hty6) (fun r h => by first | exact h | exact h.elim | omega | (revert h; dsimp only; omega)) (fun r h => by first | exact h | exact h.elim | omega | (revert h; dsimp only; omega))
          rcases (Decidable.em (ty6.1 = 0)).symm with cy7 | cy7
          · replace hF := zh_f cy7 hF
            exact zFr.tr gty6 (g_M_band_48  zFuel _ _ _ _ _ _ _ _ hF) (fun _ h => h) (fun _ h => h)
          · replace hF := zh_t cy7 hF
            cases hF
            exact gty6
        · replace hF := zh_f cy5 hF
          exact zFr.tr gy1 (g_M_band_25  hF) (fun _ h => h) (fun _ h => h)
theorem fr_M_band {q : Nat} {x1 : Int32} {x2 : Int32} {μ : zI} {ν : zJ} {out : (Int32 × zI × zJ)} (hE : E_M_band q x1 x2 μ ν = some out) : zFr (fun r => (q ≤ r ∧ r < q + 12)) (fun _ => False) μ ν out.2.1 out.2.2 := (g_M_band_0 hE)
theorem g_M_climbed_105 {q : Nat} {r18 : Int32 → Int32 → Int32 → zI → zJ → Option (Int32 × zI × zJ)} {x1 : Int32} {x2 : Int32} {x3 : Int32} {x4 : Int32} {x5 : Int32} {x6 : Int32} {μ : zI} {ν : zJ} {out : (Int32 × zI × zJ)} (hr18 : ∀ (x1 : Int32) (x2 : Int32) (x3 : Int32) (μ : zI) (ν : zJ), r18 x1 x2 x3 μ ν = some out → zFr (fun r => (q ≤ r ∧ r < q + 12)) (fun _ => False) μ ν out.2.1 out.2.2) (hF : e_M_climbed_105 q r18 x1 x2 x3 x4 x5 x6 μ ν = some out) : zFr (fun r => (q ≤ r ∧ r < q + 12)) (fun _ => False) μ ν out.2.1 out.2.2 := by
  unfold e_M_climbed_105 at hF
  have g0 := zFr.rf (fun r => (q ≤ r ∧ r < q + 12)) (fun _ => False) μ ν
  exact zFr.tr g0 (hr18 _ _ _ _ _ hF) (fun _ h => h) (fun _ h => h)
theorem g_M_climbed_103 {q : Nat} {r18 : Int32 → Int32 → Int32 → zI → zJ → Option (Int32 × zI × zJ)} {x1 : Int32} {x2 : Int32} {x3 : Int32} {x4 : Int32} {x5 : Int32} {x6 : Int32} {s0 : Int32} {s1 : Int32} {μ : zI} {ν : zJ} {out : (Int32 × zI × zJ)} (hr18 : ∀ (x1 : Int32) (x2 : Int32) (x3 : Int32) (μ : zI) (ν : zJ), r18 x1 x2 x3 μ ν = some out → zFr (fun r => (q ≤ r ∧ r < q + 12)) (fun _ => False) μ ν out.2.1 out.2.2) (hF : e_M_climbed_103 q r18 x1 x2 x3 x4 x5 x6 s0 s1 μ ν = some out) : zFr (fun r => (q ≤ r ∧ r < q + 12)) (fun _ => False) μ ν out.2.1 out.2.2 := by
  unfold e_M_climbed_103 at hF
  have g0 := zFr.rf (fun r => (q ≤ r ∧ r < q + 12)) (fun _ => False) μ ν
  obtain ⟨y1, hy1, hF⟩ := zh_let hF
  exact zFr.tr g0 (g_M_climbed_105 hr18 hF) (fun _ h => h) (fun _ h => h)
theorem g_M_climbed_85 {q : Nat} {r18 : Int32 → Int32 → Int32 → zI → zJ → Option (Int32 × zI × zJ)} {x1 : Int32} {x2 : Int32} {x3 : Int32} {x4 : Int32} {x5 : Int32} {x6 : Int32} {s0 : Int32} {μ : zI} {ν : zJ} {out : (Int32 × zI × zJ)} (hr18 : ∀ (x1 : Int32) (x2 : Int32) (x3 : Int32) (μ : zI) (ν : zJ), r18 x1 x2 x3 μ ν = some out → zFr (fun r => (q ≤ r ∧ r < q + 12)) (fun _ => False) μ ν out.2.1 out.2.2) (hF : e_M_climbed_85 q r18 x1 x2 x3 x4 x5 x6 s0 μ ν = some out) : zFr (fun r => (q ≤ r ∧ r < q + 12)) (fun _ => False) μ ν out.2.1 out.2.2 := by
  unfold e_M_climbed_85 at hF
  have g0 := zFr.rf (fun r => (q ≤ r ∧ r < q + 12)) (fun _ => False) μ ν
  rcases Decidable.em (s0 = 0) with cy1 | cy1
  · replace hF := zh_t cy1 hF
    exact zFr.tr g0 (g_M_climbed_105 hr18 hF) (fun _ h => h) (fun _ h => h)
  · replace hF := zh_f cy1 hF
    rcases Decidable.em (x5 ≤ x6) with cy2 | cy2
    · replace hF := zh_t cy2 hF
      exact zFr.tr g0 (g_M_climbed_103 hr18 hF) (fun _ h => h) (fun _ h => h)
    · replace hF := zh_f cy2 hF
      exact zFr.tr g0 (g_M_climbed_103 hr18 hF) (fun _ h => h) (fun _ h => h)
theorem g_M_climbed_80 {q : Nat} {r18 : Int32 → Int32 → Int32 → zI → zJ → Option (Int32 × zI × zJ)} {x1 : Int32} {x2 : Int32} {x3 : Int32} {x4 : Int32} {x5 : Int32} {x6 : Int32} {μ : zI} {ν : zJ} {out : (Int32 × zI × zJ)} (hr18 : ∀ (x1 : Int32) (x2 : Int32) (x3 : Int32) (μ : zI) (ν : zJ), r18 x1 x2 x3 μ ν = some out → zFr (fun r => (q ≤ r ∧ r < q + 12)) (fun _ => False) μ ν out.2.1 out.2.2) (hF : e_M_climbed_80 q r18 x1 x2 x3 x4 x5 x6 μ ν = some out) : zFr (fun r => (q ≤ r ∧ r < q + 12)) (fun _ => False) μ ν out.2.1 out.2.2 := by
  unfold e_M_climbed_80 at hF
  have g0 := zFr.rf (fun r => (q ≤ r ∧ r < q + 12)) (fun _ => False) μ ν
  exact zFr.tr g0 (g_M_climbed_85 hr18 hF) (fun _ h => h) (fun _ h => h)
theorem g_M_climbed_64 {q : Nat} {r18 : Int32 → Int32 → Int32 → zI → zJ → Option (Int32 × zI × zJ)} {x1 : Int32} {x2 : Int32} {x3 : Int32} {x4 : Int32} {x5 : Int32} {s0 : Int32} {μ : zI} {ν : zJ} {out : (Int32 × zI × zJ)} (hr18 : ∀ (x1 : Int32) (x2 : Int32) (x3 : Int32) (μ : zI) (ν : zJ), r18 x1 x2 x3 μ ν = some out → zFr (fun r => (q ≤ r ∧ r < q + 12)) (fun _ => False) μ ν out.2.1 out.2.2) (hF : e_M_climbed_64 q r18 x1 x2 x3 x4 x5 s0 μ ν = some out) : zFr (fun r => (q ≤ r ∧ r < q + 12)) (fun _ => False) μ ν out.2.1 out.2.2 := by
  unfold e_M_climbed_64 at hF
  have g0 := zFr.rf (fun r => (q ≤ r ∧ r < q + 12)) (fun _ => False) μ ν
  rcases Decidable.em (x4 < x5) with cy1 | cy1
  · replace hF := zh_t cy1 hF
    exact zFr.tr g0 (g_M_climbed_80 hr18 hF) (fun _ h => h) (fun _ h => h)
  · replace hF := zh_f cy1 hF
    rcases Decidable.em (s0 ≤ x4) with cy2 | cy2
    · replace hF := zh_t cy2 hF
      exact zFr.tr g0 (g_M_climbed_85 hr18 hF) (fun _ h => h) (fun _ h => h)
    · replace hF := zh_f cy2 hF
      exact zFr.tr g0 (g_M_climbed_80 hr18 hF) (fun _ h => h) (fun _ h => h)
theorem g_M_climbed_47 {q : Nat} {r18 : Int32 → Int32 → Int32 → zI → zJ → Option (Int32 × zI × zJ)} {x1 : Int32} {x2 : Int32} {x3 : Int32} {x4 : Int32} {s0 : Int32} {μ : zI} {ν : zJ} {out : (Int32 × zI × zJ)} (hr18 : ∀ (x1 : Int32) (x2 : Int32) (x3 : Int32) (μ : zI) (ν : zJ), r18 x1 x2 x3 μ ν = some out → zFr (fun r => (q ≤ r ∧ r < q + 12)) (fun _ => False) μ ν out.2.1 out.2.2) (hF : e_M_climbed_47 q r18 x1 x2 x3 x4 s0 μ ν = some out) : zFr (fun r => (q ≤ r ∧ r < q + 12)) (fun _ => False) μ ν out.2.1 out.2.2 := by
  unfold e_M_climbed_47 at hF
  have g0 := zFr.rf (fun r => (q ≤ r ∧ r < q + 12)) (fun _ => False) μ ν
  rcases Decidable.em (x2 ≤ 0) with cy1 | cy1
  · replace hF := zh_t cy1 hF
    exact zFr.tr g0 (g_M_climbed_64 hr18 hF) (fun _ h => h) (fun _ h => h)
  · replace hF := zh_f cy1 hF
    obtain ⟨ty2, hty2, hF⟩ := zh_bind hF
    have gty2 := zFr.tr g0 (fr_M_powerAt hty2) (fun r h => by first | exact h | exact h.elim | omega | (revert h; dsimp only; omega)) (fun r h => by first | exact h | exact h.elim | omega | (revert h; dsimp only; omega))
    exact zFr.tr gty2 (g_M_climbed_64 hr18 hF) (fun _ h => h) (fun _ h => h)
theorem g_M_climbed_18 {q : Nat}  {out : (Int32 × zI × zJ)} : ∀ (n : Nat) (x1 : Int32) (x2 : Int32) (x3 : Int32) (μ : zI) (ν : zJ), f_M_climbed_18 q  n x1 x2 x3 μ ν = some out → zFr (fun r => (q ≤ r ∧ r < q + 12)) (fun _ => False) μ ν out.2.1 out.2.2 := by
  intro n
  induction n with
  | zero => intro x1 x2 x3 μ ν hF; cases hF
  | succ n ih =>
    intro x1 x2 x3 μ ν hF
    dsimp only [f_M_climbed_18] at hF
    have g0 := zFr.rf (fun r => (q ≤ r ∧ r < q + 12)) (fun _ => False) μ ν
    rcases Decidable.em (x3 = 0) with cy1 | cy1
    · replace hF := zh_t cy1 hF
      cases hF
      exact g0
    · replace hF := zh_f cy1 hF
      obtain ⟨ty2, hty2, hF⟩ := zh_bind hF
      have gty2 := zFr.tr g0 (fr_M_powerAt hty2) (fun r h => by first | exact h | exact h.elim | omega | (revert h; dsimp only; omega)) (fun r h => by first | exact h | exact h.elim | omega | (revert h; dsimp only; omega))
      obtain ⟨y3, hy3, hF⟩ := zh_let hF
      rcases Decidable.em (999 ≤ x2) with cy4 | cy4
      · replace hF := zh_t cy4 hF
        exact zFr.tr gty2 (g_M_climbed_47 (fun a0 a1 a2 a3 a4 => ih a0 a1 a2 a3 a4) hF) (fun _ h => h) (fun _ h => h)
      · replace hF := zh_f cy4 hF
        obtain ⟨ty5, hty5, hF⟩ := zh_bind hF
        have gty5 := zFr.tr gty2 (fr_M_powerAt hty5) (fun r h => by first | exact h | exact h.elim | omega | (revert h; dsimp only; omega)) (fun r h => by first | exact h | exact h.elim | omega | (revert h; dsimp only; omega))
        exact zFr.tr gty5 (g_M_climbed_47 (fun a0 a1 a2 a3 a4 => ih a0 a1 a2 a3 a4) hF) (fun _ h => h) (fun _ h => h)
theorem g_M_climbed_0 {q : Nat}  {x1 : Int32} {μ : zI} {ν : zJ} {out : (Int32 × zI × zJ)} (hF : e_M_climbed_0 q  x1 μ ν = some out) : zFr (fun r => (q ≤ r ∧ r < q + 12)) (fun _ => False) μ ν out.2.1 out.2.2 := by
  unfold e_M_climbed_0 at hF
  have g0 := zFr.rf (fun r => (q ≤ r ∧ r < q + 12)) (fun _ => False) μ ν
  obtain ⟨μy1, hy1, hF⟩ := zh_let hF
  have gy1 := zFr.put g0 (r := q) (by first | omega | (dsimp only; omega)) hy1
  obtain ⟨ty2, hty2, hF⟩ := zh_bind hF
  have gty2 := zFr.tr gy1 (fr_M_isPoint hty2) (fun r h => by first | exact h | exact h.elim | omega | (revert h; dsimp only; omega)) (fun r h => by first | exact h | exact h.elim | omega | (revert h; dsimp only; omega))
  rcases (Decidable.em (ty2.1 = 0)).symm with cy3 | cy3
  · replace hF := zh_f cy3 hF
    exact zFr.tr gty2 (g_M_climbed_18  zFuel _ _ _ _ _ hF) (fun _ h => h) (fun _ h => h)
  · replace hF := zh_t cy3 hF
    cases hF
    exact gty2
theorem fr_M_climbed {q : Nat} {x1 : Int32} {μ : zI} {ν : zJ} {out : (Int32 × zI × zJ)} (hE : E_M_climbed q x1 μ ν = some out) : zFr (fun r => (q ≤ r ∧ r < q + 12)) (fun _ => False) μ ν out.2.1 out.2.2 := (g_M_climbed_0 hE)
theorem g_M_bestBy_0 {q : Nat}  {x1 : Int32} {x2 : Int32} {μ : zI} {ν : zJ} {out : (Int32 × zI × zJ)} (hF : e_M_bestBy_0 q  x1 x2 μ ν = some out) : zFr (fun r => (q ≤ r ∧ r < q + 12)) (fun _ => False) μ ν out.2.1 out.2.2 := by
  unfold e_M_bestBy_0 at hF
  have g0 := zFr.rf (fun r => (q ≤ r ∧ r < q + 12)) (fun _ => False) μ ν
  obtain ⟨hy1, hF⟩ := zh_if hF
  obtain ⟨y2, hy2, hF⟩ := zh_let hF
  obtain ⟨ty3, hty3, hF⟩ := zh_bind hF
  have gty3 := zFr.tr g0 (fr_M_lights hty3) (fun r h => by first | exact h | exact h.elim | omega | (revert h; dsimp only; omega)) (fun r h => by first | exact h | exact h.elim | omega | (revert h; dsimp only; omega))
  obtain ⟨ty4, hty4, hF⟩ := zh_bind hF
  have gty4 := zFr.tr gty3 (fr_M_bestNow hty4) (fun r h => by first | exact h | exact h.elim | omega | (revert h; dsimp only; omega)) (fun r h => by first | exact h | exact h.elim | omega | (revert h; dsimp only; omega))
  obtain ⟨y5, hy5, hF⟩ := zh_let hF
  obtain ⟨ty6, hty6, hF⟩ := zh_bind hF
  have gty6 := zFr.tr gty4 (fr_M_lights hty6) (fun r h => by first | exact h | exact h.elim | omega | (revert h; dsimp only; omega)) (fun r h => by first | exact h | exact h.elim | omega | (revert h; dsimp only; omega))
  cases hF
  exact gty6
theorem fr_M_bestBy {q : Nat} {x1 : Int32} {x2 : Int32} {μ : zI} {ν : zJ} {out : (Int32 × zI × zJ)} (hE : E_M_bestBy q x1 x2 μ ν = some out) : zFr (fun r => (q ≤ r ∧ r < q + 12)) (fun _ => False) μ ν out.2.1 out.2.2 := (g_M_bestBy_0 hE)
theorem g_M_shadeOf_29 {q : Nat}  {x1 : Int32} {s0 : Int32} {μ : zI} {ν : zJ} {out : (Int32 × zI × zJ)} (hF : e_M_shadeOf_29 q  x1 s0 μ ν = some out) : zFr (fun r => (q ≤ r ∧ r < q + 12)) (fun _ => False) μ ν out.2.1 out.2.2 := by
  unfold e_M_shadeOf_29 at hF
  have g0 := zFr.rf (fun r => (q ≤ r ∧ r < q + 12)) (fun _ => False) μ ν
  cases hF
  exact g0
theorem g_M_shadeOf_0 {q : Nat}  {x1 : Int32} {μ : zI} {ν : zJ} {out : (Int32 × zI × zJ)} (hF : e_M_shadeOf_0 q  x1 μ ν = some out) : zFr (fun r => (q ≤ r ∧ r < q + 12)) (fun _ => False) μ ν out.2.1 out.2.2 := by
  unfold e_M_shadeOf_0 at hF
  have g0 := zFr.rf (fun r => (q ≤ r ∧ r < q + 12)) (fun _ => False) μ ν
  obtain ⟨μy1, hy1, hF⟩ := zh_let hF
  have gy1 := zFr.put g0 (r := q) (by first | omega | (dsimp only; omega)) hy1
  obtain ⟨ty2, hty2, hF⟩ := zh_bind hF
  have gty2 := zFr.tr gy1 (fr_M_isModule hty2) (fun r h => by first | exact h | exact h.elim | omega | (revert h; dsimp only; omega)) (fun r h => by first | exact h | exact h.elim | omega | (revert h; dsimp only; omega))
  rcases Decidable.em (ty2.1 = 0) with cy3 | cy3
  · replace hF := zh_t cy3 hF
    exact zFr.tr gty2 (g_M_shadeOf_29  hF) (fun _ h => h) (fun _ h => h)
  · replace hF := zh_f cy3 hF
    obtain ⟨ty4, hty4, hF⟩ := zh_bind hF
    have gty4 := zFr.tr gty2 (fr_M_bestBy hty4) (fun r h => by first | exact h | exact h.elim | omega | (revert h; dsimp only; omega)) (fun r h => by first | exact h | exact h.elim | omega | (revert h; dsimp only; omega))
    obtain ⟨ty5, hty5, hF⟩ := zh_bind hF
    have gty5 := zFr.tr gty4 (fr_M_bestNow hty5) (fun r h => by first | exact h | exact h.elim | omega | (revert h; dsimp only; omega)) (fun r h => by first | exact h | exact h.elim | omega | (revert h; dsimp only; omega))
    exact zFr.tr gty5 (g_M_shadeOf_29  hF) (fun _ h => h) (fun _ h => h)
theorem fr_M_shadeOf {q : Nat} {x1 : Int32} {μ : zI} {ν : zJ} {out : (Int32 × zI × zJ)} (hE : E_M_shadeOf q x1 μ ν = some out) : zFr (fun r => (q ≤ r ∧ r < q + 12)) (fun _ => False) μ ν out.2.1 out.2.2 := (g_M_shadeOf_0 hE)
theorem g_M_lightFor_24 {q : Nat}  {x1 : Int32} {x2 : Int32} {μ : zI} {ν : zJ} {out : (Int32 × zI × zJ)} (hF : e_M_lightFor_24 q  x1 x2 μ ν = some out) : zFr (fun r => (q ≤ r ∧ r < q + 12)) (fun _ => False) μ ν out.2.1 out.2.2 := by
  unfold e_M_lightFor_24 at hF
  have g0 := zFr.rf (fun r => (q ≤ r ∧ r < q + 12)) (fun _ => False) μ ν
  cases hF
  exact g0
theorem g_M_lightFor_28 {q : Nat}  {out : (Int32 × zI × zJ)} : ∀ (n : Nat) (x1 : Int32) (x2 : Int32) (x3 : Int32) (μ : zI) (ν : zJ), f_M_lightFor_28 q  n x1 x2 x3 μ ν = some out → zFr (fun r => (q ≤ r ∧ r < q + 12)) (fun _ => False) μ ν out.2.1 out.2.2 := by
  intro n
  induction n with
  | zero => intro x1 x2 x3 μ ν hF; cases hF
  | succ n ih =>
    intro x1 x2 x3 μ ν hF
    dsimp only [f_M_lightFor_28] at hF
    have g0 := zFr.rf (fun r => (q ≤ r ∧ r < q + 12)) (fun _ => False) μ ν
    rcases Decidable.em (100 < x3) with cy1 | cy1
    · replace hF := zh_t cy1 hF
      cases hF
      exact g0
    · replace hF := zh_f cy1 hF
      obtain ⟨ty2, hty2, hF⟩ := zh_bind hF
      have gty2 := zFr.tr g0 (fr_M_bestBy hty2) (fun r h => by first | exact h | exact h.elim | omega | (revert h; dsimp only; omega)) (fun r h => by first | exact h | exact h.elim | omega | (revert h; dsimp only; omega))
      rcases Decidable.em (ty2.1 < x2) with cy3 | cy3
      · replace hF := zh_t cy3 hF
        exact zFr.tr gty2 (ih _ _ _ _ _ hF) (fun _ h => h) (fun _ h => h)
      · replace hF := zh_f cy3 hF
        cases hF
        exact gty2
theorem g_M_lightFor_0 {q : Nat}  {x1 : Int32} {x2 : Int32} {μ : zI} {ν : zJ} {out : (Int32 × zI × zJ)} (hF : e_M_lightFor_0 q  x1 x2 μ ν = some out) : zFr (fun r => (q ≤ r ∧ r < q + 12)) (fun _ => False) μ ν out.2.1 out.2.2 := by
  unfold e_M_lightFor_0 at hF
  have g0 := zFr.rf (fun r => (q ≤ r ∧ r < q + 12)) (fun _ => False) μ ν
  obtain ⟨μy1, hy1, hF⟩ := zh_let hF
  have gy1 := zFr.put g0 (r := q) (by first | omega | (dsimp only; omega)) hy1
  obtain ⟨ty2, hty2, hF⟩ := zh_bind hF
  have gty2 := zFr.tr gy1 (fr_M_isModule hty2) (fun r h => by first | exact h | exact h.elim | omega | (revert h; dsimp only; omega)) (fun r h => by first | exact h | exact h.elim | omega | (revert h; dsimp only; omega))
  rcases Decidable.em (ty2.1 = 0) with cy3 | cy3
  · replace hF := zh_t cy3 hF
    exact zFr.tr gty2 (g_M_lightFor_24  hF) (fun _ h => h) (fun _ h => h)
  · replace hF := zh_f cy3 hF
    rcases Decidable.em (x2 < 0) with cy4 | cy4
    · replace hF := zh_t cy4 hF
      exact zFr.tr gty2 (g_M_lightFor_24  hF) (fun _ h => h) (fun _ h => h)
    · replace hF := zh_f cy4 hF
      rcases Decidable.em (x2 ≤ 9999999) with cy5 | cy5
      · replace hF := zh_t cy5 hF
        exact zFr.tr gty2 (g_M_lightFor_28  zFuel _ _ _ _ _ hF) (fun _ h => h) (fun _ h => h)
      · replace hF := zh_f cy5 hF
        exact zFr.tr gty2 (g_M_lightFor_24  hF) (fun _ h => h) (fun _ h => h)
theorem fr_M_lightFor {q : Nat} {x1 : Int32} {x2 : Int32} {μ : zI} {ν : zJ} {out : (Int32 × zI × zJ)} (hE : E_M_lightFor q x1 x2 μ ν = some out) : zFr (fun r => (q ≤ r ∧ r < q + 12)) (fun _ => False) μ ν out.2.1 out.2.2 := (g_M_lightFor_0 hE)
theorem g_M_darkest_48 {q : Nat} {r12 : Int32 → Int32 → Int32 → zI → zJ → Option (Int32 × zI × zJ)} {x1 : Int32} {x2 : Int32} {x3 : Int32} {x4 : Int32} {μ : zI} {ν : zJ} {out : (Int32 × zI × zJ)} (hr12 : ∀ (x1 : Int32) (x2 : Int32) (x3 : Int32) (μ : zI) (ν : zJ), r12 x1 x2 x3 μ ν = some out → zFr (fun r => (q ≤ r ∧ r < q + 12)) (fun _ => False) μ ν out.2.1 out.2.2) (hF : e_M_darkest_48 q r12 x1 x2 x3 x4 μ ν = some out) : zFr (fun r => (q ≤ r ∧ r < q + 12)) (fun _ => False) μ ν out.2.1 out.2.2 := by
  unfold e_M_darkest_48 at hF
  have g0 := zFr.rf (fun r => (q ≤ r ∧ r < q + 12)) (fun _ => False) μ ν
  exact zFr.tr g0 (hr12 _ _ _ _ _ hF) (fun _ h => h) (fun _ h => h)
theorem g_M_darkest_12 {q : Nat}  {out : (Int32 × zI × zJ)} : ∀ (n : Nat) (x1 : Int32) (x2 : Int32) (x3 : Int32) (μ : zI) (ν : zJ), f_M_darkest_12 q  n x1 x2 x3 μ ν = some out → zFr (fun r => (q ≤ r ∧ r < q + 12)) (fun _ => False) μ ν out.2.1 out.2.2 := by
  intro n
  induction n with
  | zero => intro x1 x2 x3 μ ν hF; cases hF
  | succ n ih =>
    intro x1 x2 x3 μ ν hF
    dsimp only [f_M_darkest_12] at hF
    have g0 := zFr.rf (fun r => (q ≤ r ∧ r < q + 12)) (fun _ => False) μ ν
    rcases Decidable.em ((μ q 9) ≤ x3) with cy1 | cy1
    · replace hF := zh_t cy1 hF
      cases hF
      exact g0
    · replace hF := zh_f cy1 hF
      obtain ⟨ty2, hty2, hF⟩ := zh_bind hF
      have gty2 := zFr.tr g0 (fr_M_bestBy hty2) (fun r h => by first | exact h | exact h.elim | omega | (revert h; dsimp only; omega)) (fun r h => by first | exact h | exact h.elim | omega | (revert h; dsimp only; omega))
      obtain ⟨ty3, hty3, hF⟩ := zh_bind hF
      have gty3 := zFr.tr gty2 (fr_M_bestNow hty3) (fun r h => by first | exact h | exact h.elim | omega | (revert h; dsimp only; omega)) (fun r h => by first | exact h | exact h.elim | omega | (revert h; dsimp only; omega))
      obtain ⟨y4, hy4, hF⟩ := zh_let hF
      rcases Decidable.em (x2 < y4) with cy5 | cy5
      · replace hF := zh_t cy5 hF
        exact zFr.tr gty3 (g_M_darkest_48 (fun a0 a1 a2 a3 a4 => ih a0 a1 a2 a3 a4) hF) (fun _ h => h) (fun _ h => h)
      · replace hF := zh_f cy5 hF
        exact zFr.tr gty3 (g_M_darkest_48 (fun a0 a1 a2 a3 a4 => ih a0 a1 a2 a3 a4) hF) (fun _ h => h) (fun _ h => h)
theorem g_M_darkest_0 {q : Nat}   {μ : zI} {ν : zJ} {out : (Int32 × zI × zJ)} (hF : e_M_darkest_0 q   μ ν = some out) : zFr (fun r => (q ≤ r ∧ r < q + 12)) (fun _ => False) μ ν out.2.1 out.2.2 := by
  unfold e_M_darkest_0 at hF
  have g0 := zFr.rf (fun r => (q ≤ r ∧ r < q + 12)) (fun _ => False) μ ν
  obtain ⟨μy1, hy1, hF⟩ := zh_let hF
  have gy1 := zFr.put g0 (r := q) (by first | omega | (dsimp only; omega)) hy1
  exact zFr.tr gy1 (g_M_darkest_12  zFuel _ _ _ _ _ hF) (fun _ h => h) (fun _ h => h)
theorem fr_M_darkest {q : Nat} {μ : zI} {ν : zJ} {out : (Int32 × zI × zJ)} (hE : E_M_darkest q μ ν = some out) : zFr (fun r => (q ≤ r ∧ r < q + 12)) (fun _ => False) μ ν out.2.1 out.2.2 := (g_M_darkest_0 hE)
theorem g_M_bestShare_52 {q : Nat} {r21 : Int32 → Int32 → Int32 → zI → zJ → Option (Int32 × zI × zJ)} {x1 : Int32} {x2 : Int32} {x3 : Int32} {x4 : Int32} {μ : zI} {ν : zJ} {out : (Int32 × zI × zJ)} (hr21 : ∀ (x1 : Int32) (x2 : Int32) (x3 : Int32) (μ : zI) (ν : zJ), r21 x1 x2 x3 μ ν = some out → zFr (fun r => (q ≤ r ∧ r < q + 12)) (fun _ => False) μ ν out.2.1 out.2.2) (hF : e_M_bestShare_52 q r21 x1 x2 x3 x4 μ ν = some out) : zFr (fun r => (q ≤ r ∧ r < q + 12)) (fun _ => False) μ ν out.2.1 out.2.2 := by
  unfold e_M_bestShare_52 at hF
  have g0 := zFr.rf (fun r => (q ≤ r ∧ r < q + 12)) (fun _ => False) μ ν
  exact zFr.tr g0 (hr21 _ _ _ _ _ hF) (fun _ h => h) (fun _ h => h)
theorem g_M_bestShare_21 {q : Nat}  {out : (Int32 × zI × zJ)} : ∀ (n : Nat) (x1 : Int32) (x2 : Int32) (x3 : Int32) (μ : zI) (ν : zJ), f_M_bestShare_21 q  n x1 x2 x3 μ ν = some out → zFr (fun r => (q ≤ r ∧ r < q + 12)) (fun _ => False) μ ν out.2.1 out.2.2 := by
  intro n
  induction n with
  | zero => intro x1 x2 x3 μ ν hF; cases hF
  | succ n ih =>
    intro x1 x2 x3 μ ν hF
    dsimp only [f_M_bestShare_21] at hF
    have g0 := zFr.rf (fun r => (q ≤ r ∧ r < q + 12)) (fun _ => False) μ ν
    rcases Decidable.em (99 < x3) with cy1 | cy1
    · replace hF := zh_t cy1 hF
      cases hF
      exact g0
    · replace hF := zh_f cy1 hF
      obtain ⟨ty2, hty2, hF⟩ := zh_bind hF
      have gty2 := zFr.tr g0 (fr_M_shared hty2) (fun r h => by first | exact h | exact h.elim | omega | (revert h; dsimp only; omega)) (fun r h => by first | exact h | exact h.elim | omega | (revert h; dsimp only; omega))
      obtain ⟨ty3, hty3, hF⟩ := zh_bind hF
      have gty3 := zFr.tr gty2 (fr_M_powerAt hty3) (fun r h => by first | exact h | exact h.elim | omega | (revert h; dsimp only; omega)) (fun r h => by first | exact h | exact h.elim | omega | (revert h; dsimp only; omega))
      obtain ⟨y4, hy4, hF⟩ := zh_let hF
      rcases Decidable.em (x2 < y4) with cy5 | cy5
      · replace hF := zh_t cy5 hF
        exact zFr.tr gty3 (g_M_bestShare_52 (fun a0 a1 a2 a3 a4 => ih a0 a1 a2 a3 a4) hF) (fun _ h => h) (fun _ h => h)
      · replace hF := zh_f cy5 hF
        exact zFr.tr gty3 (g_M_bestShare_52 (fun a0 a1 a2 a3 a4 => ih a0 a1 a2 a3 a4) hF) (fun _ h => h) (fun _ h => h)
theorem g_M_bestShare_0 {q : Nat}   {μ : zI} {ν : zJ} {out : (Int32 × zI × zJ)} (hF : e_M_bestShare_0 q   μ ν = some out) : zFr (fun r => (q ≤ r ∧ r < q + 12)) (fun _ => False) μ ν out.2.1 out.2.2 := by
  unfold e_M_bestShare_0 at hF
  have g0 := zFr.rf (fun r => (q ≤ r ∧ r < q + 12)) (fun _ => False) μ ν
  obtain ⟨μy1, hy1, hF⟩ := zh_let hF
  have gy1 := zFr.put g0 (r := q) (by first | omega | (dsimp only; omega)) hy1
  rcases (Decidable.em ((μy1 q 9) = 0)).symm with cy2 | cy2
  · replace hF := zh_f cy2 hF
    exact zFr.tr gy1 (g_M_bestShare_21  zFuel _ _ _ _ _ hF) (fun _ h => h) (fun _ h => h)
  · replace hF := zh_t cy2 hF
    cases hF
    exact gy1
theorem fr_M_bestShare {q : Nat} {μ : zI} {ν : zJ} {out : (Int32 × zI × zJ)} (hE : E_M_bestShare q μ ν = some out) : zFr (fun r => (q ≤ r ∧ r < q + 12)) (fun _ => False) μ ν out.2.1 out.2.2 := (g_M_bestShare_0 hE)
theorem g_M_now_29 {q : Nat}  {x1 : Int32} {s0 : Int32} {μ : zI} {ν : zJ} {out : (Int32 × zI × zJ)} (hF : e_M_now_29 q  x1 s0 μ ν = some out) : zFr (fun r => (q ≤ r ∧ r < q + 12)) (fun _ => False) μ ν out.2.1 out.2.2 := by
  unfold e_M_now_29 at hF
  have g0 := zFr.rf (fun r => (q ≤ r ∧ r < q + 12)) (fun _ => False) μ ν
  cases hF
  exact g0
theorem g_M_now_27 {q : Nat}  {x1 : Int32} {μ : zI} {ν : zJ} {out : (Int32 × zI × zJ)} (hF : e_M_now_27 q  x1 μ ν = some out) : zFr (fun r => (q ≤ r ∧ r < q + 12)) (fun _ => False) μ ν out.2.1 out.2.2 := by
  unfold e_M_now_27 at hF
  have g0 := zFr.rf (fun r => (q ≤ r ∧ r < q + 12)) (fun _ => False) μ ν
  exact zFr.tr g0 (g_M_now_29  hF) (fun _ h => h) (fun _ h => h)
theorem g_M_now_0 {q : Nat}  {x1 : Int32} {μ : zI} {ν : zJ} {out : (Int32 × zI × zJ)} (hF : e_M_now_0 q  x1 μ ν = some out) : zFr (fun r => (q ≤ r ∧ r < q + 12)) (fun _ => False) μ ν out.2.1 out.2.2 := by
  unfold e_M_now_0 at hF
  have g0 := zFr.rf (fun r => (q ≤ r ∧ r < q + 12)) (fun _ => False) μ ν
  obtain ⟨μy1, hy1, hF⟩ := zh_let hF
  have gy1 := zFr.put g0 (r := q) (by first | omega | (dsimp only; omega)) hy1
  rcases Decidable.em (x1 < 0) with cy2 | cy2
  · replace hF := zh_t cy2 hF
    exact zFr.tr gy1 (g_M_now_27  hF) (fun _ h => h) (fun _ h => h)
  · replace hF := zh_f cy2 hF
    rcases Decidable.em (17 < x1) with cy3 | cy3
    · replace hF := zh_t cy3 hF
      exact zFr.tr gy1 (g_M_now_27  hF) (fun _ h => h) (fun _ h => h)
    · replace hF := zh_f cy3 hF
      obtain ⟨hy4, hF⟩ := zh_if hF
      exact zFr.tr gy1 (g_M_now_29  hF) (fun _ h => h) (fun _ h => h)
theorem fr_M_now {q : Nat} {x1 : Int32} {μ : zI} {ν : zJ} {out : (Int32 × zI × zJ)} (hE : E_M_now q x1 μ ν = some out) : zFr (fun r => (q ≤ r ∧ r < q + 12)) (fun _ => False) μ ν out.2.1 out.2.2 := (g_M_now_0 hE)
theorem g_M_sum_27 {q : Nat}  {x1 : Int32} {v0 : Int64} {μ : zI} {ν : zJ} {out : (Int64 × zI × zJ)} (hF : e_M_sum_27 q  x1 v0 μ ν = some out) : zFr (fun r => (q ≤ r ∧ r < q + 12)) (fun _ => False) μ ν out.2.1 out.2.2 := by
  unfold e_M_sum_27 at hF
  have g0 := zFr.rf (fun r => (q ≤ r ∧ r < q + 12)) (fun _ => False) μ ν
  cases hF
  exact g0
theorem g_M_sum_24 {q : Nat}  {x1 : Int32} {μ : zI} {ν : zJ} {out : (Int64 × zI × zJ)} (hF : e_M_sum_24 q  x1 μ ν = some out) : zFr (fun r => (q ≤ r ∧ r < q + 12)) (fun _ => False) μ ν out.2.1 out.2.2 := by
  unfold e_M_sum_24 at hF
  have g0 := zFr.rf (fun r => (q ≤ r ∧ r < q + 12)) (fun _ => False) μ ν
  exact zFr.tr g0 (g_M_sum_27  hF) (fun _ h => h) (fun _ h => h)
theorem g_M_sum_0 {q : Nat}  {x1 : Int32} {μ : zI} {ν : zJ} {out : (Int64 × zI × zJ)} (hF : e_M_sum_0 q  x1 μ ν = some out) : zFr (fun r => (q ≤ r ∧ r < q + 12)) (fun _ => False) μ ν out.2.1 out.2.2 := by
  unfold e_M_sum_0 at hF
  have g0 := zFr.rf (fun r => (q ≤ r ∧ r < q + 12)) (fun _ => False) μ ν
  obtain ⟨μy1, hy1, hF⟩ := zh_let hF
  have gy1 := zFr.put g0 (r := q) (by first | omega | (dsimp only; omega)) hy1
  rcases Decidable.em (x1 < 0) with cy2 | cy2
  · replace hF := zh_t cy2 hF
    exact zFr.tr gy1 (g_M_sum_24  hF) (fun _ h => h) (fun _ h => h)
  · replace hF := zh_f cy2 hF
    rcases Decidable.em (10 < x1) with cy3 | cy3
    · replace hF := zh_t cy3 hF
      exact zFr.tr gy1 (g_M_sum_24  hF) (fun _ h => h) (fun _ h => h)
    · replace hF := zh_f cy3 hF
      obtain ⟨hy4, hF⟩ := zh_if hF
      exact zFr.tr gy1 (g_M_sum_27  hF) (fun _ h => h) (fun _ h => h)
theorem fr_M_sum {q : Nat} {x1 : Int32} {μ : zI} {ν : zJ} {out : (Int64 × zI × zJ)} (hE : E_M_sum q x1 μ ν = some out) : zFr (fun r => (q ≤ r ∧ r < q + 12)) (fun _ => False) μ ν out.2.1 out.2.2 := (g_M_sum_0 hE)
theorem g_M_past_19 {q : Nat}  {x1 : Int32} {x2 : Int32} {μ : zI} {ν : zJ} {out : (Int32 × zI × zJ)} (hF : e_M_past_19 q  x1 x2 μ ν = some out) : zFr (fun r => (q ≤ r ∧ r < q + 12)) (fun _ => False) μ ν out.2.1 out.2.2 := by
  unfold e_M_past_19 at hF
  have g0 := zFr.rf (fun r => (q ≤ r ∧ r < q + 12)) (fun _ => False) μ ν
  cases hF
  exact g0
theorem g_M_past_45 {q : Nat}  {x1 : Int32} {x2 : Int32} {s0 : Int32} {μ : zI} {ν : zJ} {out : (Int32 × zI × zJ)} (hF : e_M_past_45 q  x1 x2 s0 μ ν = some out) : zFr (fun r => (q ≤ r ∧ r < q + 12)) (fun _ => False) μ ν out.2.1 out.2.2 := by
  unfold e_M_past_45 at hF
  have g0 := zFr.rf (fun r => (q ≤ r ∧ r < q + 12)) (fun _ => False) μ ν
  cases hF
  exact g0
theorem g_M_past_0 {q : Nat}  {x1 : Int32} {x2 : Int32} {μ : zI} {ν : zJ} {out : (Int32 × zI × zJ)} (hF : e_M_past_0 q  x1 x2 μ ν = some out) : zFr (fun r => (q ≤ r ∧ r < q + 12)) (fun _ => False) μ ν out.2.1 out.2.2 := by
  unfold e_M_past_0 at hF
  have g0 := zFr.rf (fun r => (q ≤ r ∧ r < q + 12)) (fun _ => False) μ ν
  obtain ⟨μy1, hy1, hF⟩ := zh_let hF
  have gy1 := zFr.put g0 (r := q) (by first | omega | (dsimp only; omega)) hy1
  rcases Decidable.em (x1 < 0) with cy2 | cy2
  · replace hF := zh_t cy2 hF
    exact zFr.tr gy1 (g_M_past_19  hF) (fun _ h => h) (fun _ h => h)
  · replace hF := zh_f cy2 hF
    rcases Decidable.em (x2 < 0) with cy3 | cy3
    · replace hF := zh_t cy3 hF
      exact zFr.tr gy1 (g_M_past_19  hF) (fun _ h => h) (fun _ h => h)
    · replace hF := zh_f cy3 hF
      rcases Decidable.em (x2 ≤ 9) with cy4 | cy4
      · replace hF := zh_t cy4 hF
        rcases Decidable.em ((μy1 q 28) ≤ x1) with cy5 | cy5
        · replace hF := zh_t cy5 hF
          exact zFr.tr gy1 (g_M_past_45  hF) (fun _ h => h) (fun _ h => h)
        · replace hF := zh_f cy5 hF
          obtain ⟨hy6, hF⟩ := zh_if hF
          exact zFr.tr gy1 (g_M_past_45  hF) (fun _ h => h) (fun _ h => h)
      · replace hF := zh_f cy4 hF
        exact zFr.tr gy1 (g_M_past_19  hF) (fun _ h => h) (fun _ h => h)
theorem fr_M_past {q : Nat} {x1 : Int32} {x2 : Int32} {μ : zI} {ν : zJ} {out : (Int32 × zI × zJ)} (hE : E_M_past q x1 x2 μ ν = some out) : zFr (fun r => (q ≤ r ∧ r < q + 12)) (fun _ => False) μ ν out.2.1 out.2.2 := (g_M_past_0 hE)
theorem g_M_wasNear_40 {q : Nat}  {x1 : Int32} {x2 : Int32} {s0 : Int32} {μ : zI} {ν : zJ} {out : (Int32 × zI × zJ)} (hF : e_M_wasNear_40 q  x1 x2 s0 μ ν = some out) : zFr (fun _ => False) (fun _ => False) μ ν out.2.1 out.2.2 := by
  unfold e_M_wasNear_40 at hF
  have g0 := zFr.rf (fun _ => False) (fun _ => False) μ ν
  obtain ⟨hy1, hF⟩ := zh_if hF
  cases hF
  exact g0
theorem g_M_wasNear_0 {q : Nat}  {x1 : Int32} {x2 : Int32} {μ : zI} {ν : zJ} {out : (Int32 × zI × zJ)} (hF : e_M_wasNear_0 q  x1 x2 μ ν = some out) : zFr (fun _ => False) (fun _ => False) μ ν out.2.1 out.2.2 := by
  unfold e_M_wasNear_0 at hF
  have g0 := zFr.rf (fun _ => False) (fun _ => False) μ ν
  obtain ⟨hy1, hF⟩ := zh_if hF
  obtain ⟨hy2, hF⟩ := zh_if hF
  rcases Decidable.em ((lg_cmp (100 * (Int32.toInt64 (μ (q + 11) (Int32.toNatClampNeg ((10 * x1) + 1))))) ((Int32.toInt64 x2) * (Int32.toInt64 (μ (q + 11) (Int32.toNatClampNeg ((10 * x1) + 2)))))) < 0) with cy3 | cy3
  · replace hF := zh_t cy3 hF
    exact zFr.tr g0 (g_M_wasNear_40  hF) (fun _ h => h) (fun _ h => h)
  · replace hF := zh_f cy3 hF
    exact zFr.tr g0 (g_M_wasNear_40  hF) (fun _ h => h) (fun _ h => h)
theorem fr_M_wasNear {q : Nat} {x1 : Int32} {x2 : Int32} {μ : zI} {ν : zJ} {out : (Int32 × zI × zJ)} (hE : E_M_wasNear q x1 x2 μ ν = some out) : zFr (fun _ => False) (fun _ => False) μ ν out.2.1 out.2.2 := (g_M_wasNear_0 hE)
theorem g_M_isPart_15  {x0 : Int32} {s0 : Int32} {μ : zI} {ν : zJ} {out : (Int32 × zI × zJ)} (hF : e_M_isPart_15   x0 s0 μ ν = some out) : zFr (fun _ => False) (fun _ => False) μ ν out.2.1 out.2.2 := by
  unfold e_M_isPart_15 at hF
  have g0 := zFr.rf (fun _ => False) (fun _ => False) μ ν
  obtain ⟨hy1, hF⟩ := zh_if hF
  cases hF
  exact g0
theorem g_M_isPart_14  {x0 : Int32} {μ : zI} {ν : zJ} {out : (Int32 × zI × zJ)} (hF : e_M_isPart_14   x0 μ ν = some out) : zFr (fun _ => False) (fun _ => False) μ ν out.2.1 out.2.2 := by
  unfold e_M_isPart_14 at hF
  have g0 := zFr.rf (fun _ => False) (fun _ => False) μ ν
  exact zFr.tr g0 (g_M_isPart_15  hF) (fun _ h => h) (fun _ h => h)
theorem g_M_isPart_0  {x0 : Int32} {μ : zI} {ν : zJ} {out : (Int32 × zI × zJ)} (hF : e_M_isPart_0   x0 μ ν = some out) : zFr (fun _ => False) (fun _ => False) μ ν out.2.1 out.2.2 := by
  unfold e_M_isPart_0 at hF
  have g0 := zFr.rf (fun _ => False) (fun _ => False) μ ν
  rcases Decidable.em (x0 < 0) with cy1 | cy1
  · replace hF := zh_t cy1 hF
    exact zFr.tr g0 (g_M_isPart_14  hF) (fun _ h => h) (fun _ h => h)
  · replace hF := zh_f cy1 hF
    rcases Decidable.em (100 < x0) with cy2 | cy2
    · replace hF := zh_t cy2 hF
      exact zFr.tr g0 (g_M_isPart_14  hF) (fun _ h => h) (fun _ h => h)
    · replace hF := zh_f cy2 hF
      exact zFr.tr g0 (g_M_isPart_15  hF) (fun _ h => h) (fun _ h => h)
theorem fr_M_isPart {x0 : Int32} {μ : zI} {ν : zJ} {out : (Int32 × zI × zJ)} (hE : E_M_isPart x0 μ ν = some out) : zFr (fun _ => False) (fun _ => False) μ ν out.2.1 out.2.2 := (g_M_isPart_0 hE)
theorem g_M_near_41 {q : Nat} {r18 : Int32 → Int32 → Int32 → zI → zJ → Option (Int32 × zI × zJ)} {x1 : Int32} {x2 : Int32} {x3 : Int32} {s0 : Int32} {s1 : Int32} {μ : zI} {ν : zJ} {out : (Int32 × zI × zJ)} (hr18 : ∀ (x1 : Int32) (x2 : Int32) (x3 : Int32) (μ : zI) (ν : zJ), r18 x1 x2 x3 μ ν = some out → zFr (fun r => (q ≤ r ∧ r < q + 12)) (fun _ => False) μ ν out.2.1 out.2.2) (hF : e_M_near_41 q r18 x1 x2 x3 s0 s1 μ ν = some out) : zFr (fun r => (q ≤ r ∧ r < q + 12)) (fun _ => False) μ ν out.2.1 out.2.2 := by
  unfold e_M_near_41 at hF
  have g0 := zFr.rf (fun r => (q ≤ r ∧ r < q + 12)) (fun _ => False) μ ν
  obtain ⟨y1, hy1, hF⟩ := zh_let hF
  exact zFr.tr g0 (hr18 _ _ _ _ _ hF) (fun _ h => h) (fun _ h => h)
theorem g_M_near_18 {q : Nat}  {out : (Int32 × zI × zJ)} : ∀ (n : Nat) (x1 : Int32) (x2 : Int32) (x3 : Int32) (μ : zI) (ν : zJ), f_M_near_18 q  n x1 x2 x3 μ ν = some out → zFr (fun r => (q ≤ r ∧ r < q + 12)) (fun _ => False) μ ν out.2.1 out.2.2 := by
  intro n
  induction n with
  | zero => intro x1 x2 x3 μ ν hF; cases hF
  | succ n ih =>
    intro x1 x2 x3 μ ν hF
    dsimp only [f_M_near_18] at hF
    have g0 := zFr.rf (fun r => (q ≤ r ∧ r < q + 12)) (fun _ => False) μ ν
    rcases Decidable.em ((μ q 28) ≤ x3) with cy1 | cy1
    · replace hF := zh_t cy1 hF
      cases hF
      exact g0
    · replace hF := zh_f cy1 hF
      obtain ⟨ty2, hty2, hF⟩ := zh_bind hF
      have gty2 := zFr.tr g0 (fr_M_wasNear hty2) (fun r h => by first | exact h | exact h.elim | omega | (revert h; dsimp only; omega)) (fun r h => by first | exact h | exact h.elim | omega | (revert h; dsimp only; omega))
      rcases Decidable.em (ty2.1 = 0) with cy3 | cy3
      · replace hF := zh_t cy3 hF
        exact zFr.tr gty2 (g_M_near_41 (fun a0 a1 a2 a3 a4 => ih a0 a1 a2 a3 a4) hF) (fun _ h => h) (fun _ h => h)
      · replace hF := zh_f cy3 hF
        exact zFr.tr gty2 (g_M_near_41 (fun a0 a1 a2 a3 a4 => ih a0 a1 a2 a3 a4) hF) (fun _ h => h) (fun _ h => h)
theorem g_M_near_0 {q : Nat}  {x1 : Int32} {μ : zI} {ν : zJ} {out : (Int32 × zI × zJ)} (hF : e_M_near_0 q  x1 μ ν = some out) : zFr (fun r => (q ≤ r ∧ r < q + 12)) (fun _ => False) μ ν out.2.1 out.2.2 := by
  unfold e_M_near_0 at hF
  have g0 := zFr.rf (fun r => (q ≤ r ∧ r < q + 12)) (fun _ => False) μ ν
  obtain ⟨μy1, hy1, hF⟩ := zh_let hF
  have gy1 := zFr.put g0 (r := q) (by first | omega | (dsimp only; omega)) hy1
  obtain ⟨ty2, hty2, hF⟩ := zh_bind hF
  have gty2 := zFr.tr gy1 (fr_M_isPart hty2) (fun r h => by first | exact h | exact h.elim | omega | (revert h; dsimp only; omega)) (fun r h => by first | exact h | exact h.elim | omega | (revert h; dsimp only; omega))
  rcases (Decidable.em (ty2.1 = 0)).symm with cy3 | cy3
  · replace hF := zh_f cy3 hF
    exact zFr.tr gty2 (g_M_near_18  zFuel _ _ _ _ _ hF) (fun _ h => h) (fun _ h => h)
  · replace hF := zh_t cy3 hF
    cases hF
    exact gty2
theorem fr_M_near {q : Nat} {x1 : Int32} {μ : zI} {ν : zJ} {out : (Int32 × zI × zJ)} (hE : E_M_near q x1 μ ν = some out) : zFr (fun r => (q ≤ r ∧ r < q + 12)) (fun _ => False) μ ν out.2.1 out.2.2 := (g_M_near_0 hE)
theorem g_M_longestAway_58 {q : Nat} {r21 : Int32 → Int32 → Int32 → Int32 → zI → zJ → Option (Int32 × zI × zJ)} {x1 : Int32} {x2 : Int32} {x3 : Int32} {x4 : Int32} {s0 : Int32} {μ : zI} {ν : zJ} {out : (Int32 × zI × zJ)} (hr21 : ∀ (x1 : Int32) (x2 : Int32) (x3 : Int32) (x4 : Int32) (μ : zI) (ν : zJ), r21 x1 x2 x3 x4 μ ν = some out → zFr (fun r => (q ≤ r ∧ r < q + 12)) (fun _ => False) μ ν out.2.1 out.2.2) (hF : e_M_longestAway_58 q r21 x1 x2 x3 x4 s0 μ ν = some out) : zFr (fun r => (q ≤ r ∧ r < q + 12)) (fun _ => False) μ ν out.2.1 out.2.2 := by
  unfold e_M_longestAway_58 at hF
  have g0 := zFr.rf (fun r => (q ≤ r ∧ r < q + 12)) (fun _ => False) μ ν
  exact zFr.tr g0 (hr21 _ _ _ _ _ _ hF) (fun _ h => h) (fun _ h => h)
theorem g_M_longestAway_47 {q : Nat} {r21 : Int32 → Int32 → Int32 → Int32 → zI → zJ → Option (Int32 × zI × zJ)} {x1 : Int32} {x2 : Int32} {x3 : Int32} {x4 : Int32} {s0 : Int32} {μ : zI} {ν : zJ} {out : (Int32 × zI × zJ)} (hr21 : ∀ (x1 : Int32) (x2 : Int32) (x3 : Int32) (x4 : Int32) (μ : zI) (ν : zJ), r21 x1 x2 x3 x4 μ ν = some out → zFr (fun r => (q ≤ r ∧ r < q + 12)) (fun _ => False) μ ν out.2.1 out.2.2) (hF : e_M_longestAway_47 q r21 x1 x2 x3 x4 s0 μ ν = some out) : zFr (fun r => (q ≤ r ∧ r < q + 12)) (fun _ => False) μ ν out.2.1 out.2.2 := by
  unfold e_M_longestAway_47 at hF
  have g0 := zFr.rf (fun r => (q ≤ r ∧ r < q + 12)) (fun _ => False) μ ν
  rcases Decidable.em (s0 ≤ x2) with cy1 | cy1
  · replace hF := zh_t cy1 hF
    exact zFr.tr g0 (g_M_longestAway_58 hr21 hF) (fun _ h => h) (fun _ h => h)
  · replace hF := zh_f cy1 hF
    exact zFr.tr g0 (g_M_longestAway_58 hr21 hF) (fun _ h => h) (fun _ h => h)
theorem g_M_longestAway_21 {q : Nat}  {out : (Int32 × zI × zJ)} : ∀ (n : Nat) (x1 : Int32) (x2 : Int32) (x3 : Int32) (x4 : Int32) (μ : zI) (ν : zJ), f_M_longestAway_21 q  n x1 x2 x3 x4 μ ν = some out → zFr (fun r => (q ≤ r ∧ r < q + 12)) (fun _ => False) μ ν out.2.1 out.2.2 := by
  intro n
  induction n with
  | zero => intro x1 x2 x3 x4 μ ν hF; cases hF
  | succ n ih =>
    intro x1 x2 x3 x4 μ ν hF
    dsimp only [f_M_longestAway_21] at hF
    have g0 := zFr.rf (fun r => (q ≤ r ∧ r < q + 12)) (fun _ => False) μ ν
    rcases Decidable.em ((μ q 28) ≤ x4) with cy1 | cy1
    · replace hF := zh_t cy1 hF
      cases hF
      exact g0
    · replace hF := zh_f cy1 hF
      obtain ⟨ty2, hty2, hF⟩ := zh_bind hF
      have gty2 := zFr.tr g0 (fr_M_wasNear hty2) (fun r h => by first | exact h | exact h.elim | omega | (revert h; dsimp only; omega)) (fun r h => by first | exact h | exact h.elim | omega | (revert h; dsimp only; omega))
      rcases Decidable.em (ty2.1 = 0) with cy3 | cy3
      · replace hF := zh_t cy3 hF
        exact zFr.tr gty2 (g_M_longestAway_47 (fun a0 a1 a2 a3 a4 a5 => ih a0 a1 a2 a3 a4 a5) hF) (fun _ h => h) (fun _ h => h)
      · replace hF := zh_f cy3 hF
        exact zFr.tr gty2 (g_M_longestAway_47 (fun a0 a1 a2 a3 a4 a5 => ih a0 a1 a2 a3 a4 a5) hF) (fun _ h => h) (fun _ h => h)
theorem g_M_longestAway_0 {q : Nat}  {x1 : Int32} {μ : zI} {ν : zJ} {out : (Int32 × zI × zJ)} (hF : e_M_longestAway_0 q  x1 μ ν = some out) : zFr (fun r => (q ≤ r ∧ r < q + 12)) (fun _ => False) μ ν out.2.1 out.2.2 := by
  unfold e_M_longestAway_0 at hF
  have g0 := zFr.rf (fun r => (q ≤ r ∧ r < q + 12)) (fun _ => False) μ ν
  obtain ⟨μy1, hy1, hF⟩ := zh_let hF
  have gy1 := zFr.put g0 (r := q) (by first | omega | (dsimp only; omega)) hy1
  obtain ⟨ty2, hty2, hF⟩ := zh_bind hF
  have gty2 := zFr.tr gy1 (fr_M_isPart hty2) (fun r h => by first | exact h | exact h.elim | omega | (revert h; dsimp only; omega)) (fun r h => by first | exact h | exact h.elim | omega | (revert h; dsimp only; omega))
  rcases (Decidable.em (ty2.1 = 0)).symm with cy3 | cy3
  · replace hF := zh_f cy3 hF
    exact zFr.tr gty2 (g_M_longestAway_21  zFuel _ _ _ _ _ _ hF) (fun _ h => h) (fun _ h => h)
  · replace hF := zh_t cy3 hF
    cases hF
    exact gty2
theorem fr_M_longestAway {q : Nat} {x1 : Int32} {μ : zI} {ν : zJ} {out : (Int32 × zI × zJ)} (hE : E_M_longestAway q x1 μ ν = some out) : zFr (fun r => (q ≤ r ∧ r < q + 12)) (fun _ => False) μ ν out.2.1 out.2.2 := (g_M_longestAway_0 hE)
theorem g_M_ripple_16 {q : Nat}  {x1 : Int32} {μ : zI} {ν : zJ} {out : (Int32 × zI × zJ)} (hF : e_M_ripple_16 q  x1 μ ν = some out) : zFr (fun r => (q ≤ r ∧ r < q + 12)) (fun _ => False) μ ν out.2.1 out.2.2 := by
  unfold e_M_ripple_16 at hF
  have g0 := zFr.rf (fun r => (q ≤ r ∧ r < q + 12)) (fun _ => False) μ ν
  cases hF
  exact g0
theorem g_M_ripple_117 {q : Nat} {r45 : Int32 → Int32 → Int32 → Int32 → zI → zJ → Option (Int32 × zI × zJ)} {x1 : Int32} {x2 : Int32} {x3 : Int32} {x4 : Int32} {s0 : Int32} {μ : zI} {ν : zJ} {out : (Int32 × zI × zJ)} (hr45 : ∀ (x1 : Int32) (x2 : Int32) (x3 : Int32) (x4 : Int32) (μ : zI) (ν : zJ), r45 x1 x2 x3 x4 μ ν = some out → zFr (fun r => (q ≤ r ∧ r < q + 12)) (fun _ => False) μ ν out.2.1 out.2.2) (hF : e_M_ripple_117 q r45 x1 x2 x3 x4 s0 μ ν = some out) : zFr (fun r => (q ≤ r ∧ r < q + 12)) (fun _ => False) μ ν out.2.1 out.2.2 := by
  unfold e_M_ripple_117 at hF
  have g0 := zFr.rf (fun r => (q ≤ r ∧ r < q + 12)) (fun _ => False) μ ν
  exact zFr.tr g0 (hr45 _ _ _ _ _ _ hF) (fun _ h => h) (fun _ h => h)
theorem g_M_ripple_88 {q : Nat} {r45 : Int32 → Int32 → Int32 → Int32 → zI → zJ → Option (Int32 × zI × zJ)} {x1 : Int32} {x2 : Int32} {x3 : Int32} {x4 : Int32} {s0 : Int32} {μ : zI} {ν : zJ} {out : (Int32 × zI × zJ)} (hr45 : ∀ (x1 : Int32) (x2 : Int32) (x3 : Int32) (x4 : Int32) (μ : zI) (ν : zJ), r45 x1 x2 x3 x4 μ ν = some out → zFr (fun r => (q ≤ r ∧ r < q + 12)) (fun _ => False) μ ν out.2.1 out.2.2) (hF : e_M_ripple_88 q r45 x1 x2 x3 x4 s0 μ ν = some out) : zFr (fun r => (q ≤ r ∧ r < q + 12)) (fun _ => False) μ ν out.2.1 out.2.2 := by
  unfold e_M_ripple_88 at hF
  have g0 := zFr.rf (fun r => (q ≤ r ∧ r < q + 12)) (fun _ => False) μ ν
  obtain ⟨hy1, hF⟩ := zh_if hF
  rcases Decidable.em ((μ (q + 11) (Int32.toNatClampNeg (10 * x4))) ≤ x3) with cy2 | cy2
  · replace hF := zh_t cy2 hF
    exact zFr.tr g0 (g_M_ripple_117 hr45 hF) (fun _ h => h) (fun _ h => h)
  · replace hF := zh_f cy2 hF
    obtain ⟨hy3, hF⟩ := zh_if hF
    exact zFr.tr g0 (g_M_ripple_117 hr45 hF) (fun _ h => h) (fun _ h => h)
theorem g_M_ripple_124 {q : Nat}  {x1 : Int32} {x2 : Int32} {x3 : Int32} {x4 : Int32} {μ : zI} {ν : zJ} {out : (Int32 × zI × zJ)} (hF : e_M_ripple_124 q  x1 x2 x3 x4 μ ν = some out) : zFr (fun r => (q ≤ r ∧ r < q + 12)) (fun _ => False) μ ν out.2.1 out.2.2 := by
  unfold e_M_ripple_124 at hF
  have g0 := zFr.rf (fun r => (q ≤ r ∧ r < q + 12)) (fun _ => False) μ ν
  cases hF
  exact g0
theorem g_M_ripple_45 {q : Nat}  {out : (Int32 × zI × zJ)} : ∀ (n : Nat) (x1 : Int32) (x2 : Int32) (x3 : Int32) (x4 : Int32) (μ : zI) (ν : zJ), f_M_ripple_45 q  n x1 x2 x3 x4 μ ν = some out → zFr (fun r => (q ≤ r ∧ r < q + 12)) (fun _ => False) μ ν out.2.1 out.2.2 := by
  intro n
  induction n with
  | zero => intro x1 x2 x3 x4 μ ν hF; cases hF
  | succ n ih =>
    intro x1 x2 x3 x4 μ ν hF
    dsimp only [f_M_ripple_45] at hF
    have g0 := zFr.rf (fun r => (q ≤ r ∧ r < q + 12)) (fun _ => False) μ ν
    rcases Decidable.em (x1 ≤ x4) with cy1 | cy1
    · replace hF := zh_t cy1 hF
      exact zFr.tr g0 (g_M_ripple_124  hF) (fun _ h => h) (fun _ h => h)
    · replace hF := zh_f cy1 hF
      rcases Decidable.em ((μ q 28) ≤ x4) with cy2 | cy2
      · replace hF := zh_t cy2 hF
        exact zFr.tr g0 (g_M_ripple_124  hF) (fun _ h => h) (fun _ h => h)
      · replace hF := zh_f cy2 hF
        obtain ⟨hy3, hF⟩ := zh_if hF
        rcases Decidable.em (x2 ≤ (μ (q + 11) (Int32.toNatClampNeg (10 * x4)))) with cy4 | cy4
        · replace hF := zh_t cy4 hF
          exact zFr.tr g0 (g_M_ripple_88 (fun a0 a1 a2 a3 a4 a5 => ih a0 a1 a2 a3 a4 a5) hF) (fun _ h => h) (fun _ h => h)
        · replace hF := zh_f cy4 hF
          obtain ⟨hy5, hF⟩ := zh_if hF
          exact zFr.tr g0 (g_M_ripple_88 (fun a0 a1 a2 a3 a4 a5 => ih a0 a1 a2 a3 a4 a5) hF) (fun _ h => h) (fun _ h => h)
theorem g_M_ripple_0 {q : Nat}  {x1 : Int32} {μ : zI} {ν : zJ} {out : (Int32 × zI × zJ)} (hF : e_M_ripple_0 q  x1 μ ν = some out) : zFr (fun r => (q ≤ r ∧ r < q + 12)) (fun _ => False) μ ν out.2.1 out.2.2 := by
  unfold e_M_ripple_0 at hF
  have g0 := zFr.rf (fun r => (q ≤ r ∧ r < q + 12)) (fun _ => False) μ ν
  obtain ⟨μy1, hy1, hF⟩ := zh_let hF
  have gy1 := zFr.put g0 (r := q) (by first | omega | (dsimp only; omega)) hy1
  rcases Decidable.em (x1 < 1) with cy2 | cy2
  · replace hF := zh_t cy2 hF
    exact zFr.tr gy1 (g_M_ripple_16  hF) (fun _ h => h) (fun _ h => h)
  · replace hF := zh_f cy2 hF
    rcases Decidable.em (x1 ≤ 100) with cy3 | cy3
    · replace hF := zh_t cy3 hF
      rcases (Decidable.em ((μy1 q 28) = 0)).symm with cy4 | cy4
      · replace hF := zh_f cy4 hF
        obtain ⟨y5, hy5, hF⟩ := zh_let hF
        obtain ⟨y6, hy6, hF⟩ := zh_let hF
        exact zFr.tr gy1 (g_M_ripple_45  zFuel _ _ _ _ _ _ hF) (fun _ h => h) (fun _ h => h)
      · replace hF := zh_t cy4 hF
        cases hF
        exact gy1
    · replace hF := zh_f cy3 hF
      exact zFr.tr gy1 (g_M_ripple_16  hF) (fun _ h => h) (fun _ h => h)
theorem fr_M_ripple {q : Nat} {x1 : Int32} {μ : zI} {ν : zJ} {out : (Int32 × zI × zJ)} (hE : E_M_ripple q x1 μ ν = some out) : zFr (fun r => (q ≤ r ∧ r < q + 12)) (fun _ => False) μ ν out.2.1 out.2.2 := (g_M_ripple_0 hE)
theorem g_M_average_16 {q : Nat}  {x1 : Int32} {μ : zI} {ν : zJ} {out : (Int32 × zI × zJ)} (hF : e_M_average_16 q  x1 μ ν = some out) : zFr (fun r => (q ≤ r ∧ r < q + 12)) (fun _ => False) μ ν out.2.1 out.2.2 := by
  unfold e_M_average_16 at hF
  have g0 := zFr.rf (fun r => (q ≤ r ∧ r < q + 12)) (fun _ => False) μ ν
  cases hF
  exact g0
theorem g_M_average_50 {q : Nat}  {out : (Int32 × zI × zJ)} : ∀ (n : Nat) (x1 : Int32) (x2 : Int32) (w3 : Int64) (x5 : Int32) (μ : zI) (ν : zJ), f_M_average_50 q  n x1 x2 w3 x5 μ ν = some out → zFr (fun r => (q ≤ r ∧ r < q + 12)) (fun _ => False) μ ν out.2.1 out.2.2 := by
  intro n
  induction n with
  | zero => intro x1 x2 w3 x5 μ ν hF; cases hF
  | succ n ih =>
    intro x1 x2 w3 x5 μ ν hF
    dsimp only [f_M_average_50] at hF
    have g0 := zFr.rf (fun r => (q ≤ r ∧ r < q + 12)) (fun _ => False) μ ν
    rcases Decidable.em (x2 ≤ x5) with cy1 | cy1
    · replace hF := zh_t cy1 hF
      obtain ⟨hy2, hF⟩ := zh_nel hF
      cases hF
      exact g0
    · replace hF := zh_f cy1 hF
      obtain ⟨hy3, hF⟩ := zh_if hF
      obtain ⟨y4, hy4, hF⟩ := zh_let hF
      exact zFr.tr g0 (ih _ _ _ _ _ _ hF) (fun _ h => h) (fun _ h => h)
theorem g_M_average_44 {q : Nat}  {x1 : Int32} {s0 : Int32} {μ : zI} {ν : zJ} {out : (Int32 × zI × zJ)} (hF : e_M_average_44 q  x1 s0 μ ν = some out) : zFr (fun r => (q ≤ r ∧ r < q + 12)) (fun _ => False) μ ν out.2.1 out.2.2 := by
  unfold e_M_average_44 at hF
  have g0 := zFr.rf (fun r => (q ≤ r ∧ r < q + 12)) (fun _ => False) μ ν
  exact zFr.tr g0 (g_M_average_50  zFuel _ _ _ _ _ _ hF) (fun _ h => h) (fun _ h => h)
theorem g_M_average_0 {q : Nat}  {x1 : Int32} {μ : zI} {ν : zJ} {out : (Int32 × zI × zJ)} (hF : e_M_average_0 q  x1 μ ν = some out) : zFr (fun r => (q ≤ r ∧ r < q + 12)) (fun _ => False) μ ν out.2.1 out.2.2 := by
  unfold e_M_average_0 at hF
  have g0 := zFr.rf (fun r => (q ≤ r ∧ r < q + 12)) (fun _ => False) μ ν
  obtain ⟨μy1, hy1, hF⟩ := zh_let hF
  have gy1 := zFr.put g0 (r := q) (by first | omega | (dsimp only; omega)) hy1
  rcases Decidable.em (x1 < 1) with cy2 | cy2
  · replace hF := zh_t cy2 hF
    exact zFr.tr gy1 (g_M_average_16  hF) (fun _ h => h) (fun _ h => h)
  · replace hF := zh_f cy2 hF
    rcases Decidable.em (x1 ≤ 100) with cy3 | cy3
    · replace hF := zh_t cy3 hF
      rcases (Decidable.em ((μy1 q 28) = 0)).symm with cy4 | cy4
      · replace hF := zh_f cy4 hF
        rcases Decidable.em ((μy1 q 28) ≤ x1) with cy5 | cy5
        · replace hF := zh_t cy5 hF
          exact zFr.tr gy1 (g_M_average_44  hF) (fun _ h => h) (fun _ h => h)
        · replace hF := zh_f cy5 hF
          exact zFr.tr gy1 (g_M_average_44  hF) (fun _ h => h) (fun _ h => h)
      · replace hF := zh_t cy4 hF
        cases hF
        exact gy1
    · replace hF := zh_f cy3 hF
      exact zFr.tr gy1 (g_M_average_16  hF) (fun _ h => h) (fun _ h => h)
theorem fr_M_average {q : Nat} {x1 : Int32} {μ : zI} {ν : zJ} {out : (Int32 × zI × zJ)} (hE : E_M_average q x1 μ ν = some out) : zFr (fun r => (q ≤ r ∧ r < q + 12)) (fun _ => False) μ ν out.2.1 out.2.2 := (g_M_average_0 hE)
theorem g_M_worst_14 {q : Nat}  {x1 : Int32} {μ : zI} {ν : zJ} {out : (Int32 × zI × zJ)} (hF : e_M_worst_14 q  x1 μ ν = some out) : zFr (fun r => (q ≤ r ∧ r < q + 12)) (fun _ => False) μ ν out.2.1 out.2.2 := by
  unfold e_M_worst_14 at hF
  have g0 := zFr.rf (fun r => (q ≤ r ∧ r < q + 12)) (fun _ => False) μ ν
  cases hF
  exact g0
theorem g_M_worst_75 {q : Nat} {r24 : Int32 → Int32 → Int32 → Int32 → zI → zJ → Option (Int32 × zI × zJ)} {x1 : Int32} {x2 : Int32} {x3 : Int32} {x4 : Int32} {x5 : Int32} {μ : zI} {ν : zJ} {out : (Int32 × zI × zJ)} (hr24 : ∀ (x1 : Int32) (x2 : Int32) (x3 : Int32) (x4 : Int32) (μ : zI) (ν : zJ), r24 x1 x2 x3 x4 μ ν = some out → zFr (fun r => (q ≤ r ∧ r < q + 12)) (fun _ => False) μ ν out.2.1 out.2.2) (hF : e_M_worst_75 q r24 x1 x2 x3 x4 x5 μ ν = some out) : zFr (fun r => (q ≤ r ∧ r < q + 12)) (fun _ => False) μ ν out.2.1 out.2.2 := by
  unfold e_M_worst_75 at hF
  have g0 := zFr.rf (fun r => (q ≤ r ∧ r < q + 12)) (fun _ => False) μ ν
  exact zFr.tr g0 (hr24 _ _ _ _ _ _ hF) (fun _ h => h) (fun _ h => h)
theorem g_M_worst_96 {q : Nat}  {x1 : Int32} {x2 : Int32} {x3 : Int32} {x4 : Int32} {s0 : Int32} {μ : zI} {ν : zJ} {out : (Int32 × zI × zJ)} (hF : e_M_worst_96 q  x1 x2 x3 x4 s0 μ ν = some out) : zFr (fun r => (q ≤ r ∧ r < q + 12)) (fun _ => False) μ ν out.2.1 out.2.2 := by
  unfold e_M_worst_96 at hF
  have g0 := zFr.rf (fun r => (q ≤ r ∧ r < q + 12)) (fun _ => False) μ ν
  cases hF
  exact g0
theorem g_M_worst_91 {q : Nat}  {x1 : Int32} {x2 : Int32} {x3 : Int32} {x4 : Int32} {μ : zI} {ν : zJ} {out : (Int32 × zI × zJ)} (hF : e_M_worst_91 q  x1 x2 x3 x4 μ ν = some out) : zFr (fun r => (q ≤ r ∧ r < q + 12)) (fun _ => False) μ ν out.2.1 out.2.2 := by
  unfold e_M_worst_91 at hF
  have g0 := zFr.rf (fun r => (q ≤ r ∧ r < q + 12)) (fun _ => False) μ ν
  exact zFr.tr g0 (g_M_worst_96  hF) (fun _ h => h) (fun _ h => h)
theorem g_M_worst_24 {q : Nat}  {out : (Int32 × zI × zJ)} : ∀ (n : Nat) (x1 : Int32) (x2 : Int32) (x3 : Int32) (x4 : Int32) (μ : zI) (ν : zJ), f_M_worst_24 q  n x1 x2 x3 x4 μ ν = some out → zFr (fun r => (q ≤ r ∧ r < q + 12)) (fun _ => False) μ ν out.2.1 out.2.2 := by
  intro n
  induction n with
  | zero => intro x1 x2 x3 x4 μ ν hF; cases hF
  | succ n ih =>
    intro x1 x2 x3 x4 μ ν hF
    dsimp only [f_M_worst_24] at hF
    have g0 := zFr.rf (fun r => (q ≤ r ∧ r < q + 12)) (fun _ => False) μ ν
    rcases Decidable.em ((μ q 28) ≤ x4) with cy1 | cy1
    · replace hF := zh_t cy1 hF
      rcases Decidable.em (x1 = 0) with cy2 | cy2
      · replace hF := zh_t cy2 hF
        exact zFr.tr g0 (g_M_worst_91  hF) (fun _ h => h) (fun _ h => h)
      · replace hF := zh_f cy2 hF
        rcases (Decidable.em (x2 = (-2))).symm with cy3 | cy3
        · replace hF := zh_f cy3 hF
          exact zFr.tr g0 (g_M_worst_96  hF) (fun _ h => h) (fun _ h => h)
        · replace hF := zh_t cy3 hF
          exact zFr.tr g0 (g_M_worst_91  hF) (fun _ h => h) (fun _ h => h)
    · replace hF := zh_f cy1 hF
      obtain ⟨hy4, hF⟩ := zh_if hF
      obtain ⟨hy5, hF⟩ := zh_if hF
      obtain ⟨y6, hy6, hF⟩ := zh_let hF
      rcases Decidable.em (x3 < y6) with cy7 | cy7
      · replace hF := zh_t cy7 hF
        exact zFr.tr g0 (g_M_worst_75 (fun a0 a1 a2 a3 a4 a5 => ih a0 a1 a2 a3 a4 a5) hF) (fun _ h => h) (fun _ h => h)
      · replace hF := zh_f cy7 hF
        exact zFr.tr g0 (g_M_worst_75 (fun a0 a1 a2 a3 a4 a5 => ih a0 a1 a2 a3 a4 a5) hF) (fun _ h => h) (fun _ h => h)
theorem g_M_worst_0 {q : Nat}  {x1 : Int32} {μ : zI} {ν : zJ} {out : (Int32 × zI × zJ)} (hF : e_M_worst_0 q  x1 μ ν = some out) : zFr (fun r => (q ≤ r ∧ r < q + 12)) (fun _ => False) μ ν out.2.1 out.2.2 := by
  unfold e_M_worst_0 at hF
  have g0 := zFr.rf (fun r => (q ≤ r ∧ r < q + 12)) (fun _ => False) μ ν
  obtain ⟨μy1, hy1, hF⟩ := zh_let hF
  have gy1 := zFr.put g0 (r := q) (by first | omega | (dsimp only; omega)) hy1
  rcases Decidable.em (x1 < 0) with cy2 | cy2
  · replace hF := zh_t cy2 hF
    exact zFr.tr gy1 (g_M_worst_14  hF) (fun _ h => h) (fun _ h => h)
  · replace hF := zh_f cy2 hF
    rcases Decidable.em (x1 ≤ 1) with cy3 | cy3
    · replace hF := zh_t cy3 hF
      exact zFr.tr gy1 (g_M_worst_24  zFuel _ _ _ _ _ _ hF) (fun _ h => h) (fun _ h => h)
    · replace hF := zh_f cy3 hF
      exact zFr.tr gy1 (g_M_worst_14  hF) (fun _ h => h) (fun _ h => h)
theorem fr_M_worst {q : Nat} {x1 : Int32} {μ : zI} {ν : zJ} {out : (Int32 × zI × zJ)} (hE : E_M_worst q x1 μ ν = some out) : zFr (fun r => (q ≤ r ∧ r < q + 12)) (fun _ => False) μ ν out.2.1 out.2.2 := (g_M_worst_0 hE)
theorem g_M_comes_18 {q : Nat}  {x1 : Int32} {x2 : Int32} {μ : zI} {ν : zJ} {out : (Int32 × zI × zJ)} (hF : e_M_comes_18 q  x1 x2 μ ν = some out) : zFr (fun r => (q ≤ r ∧ r < q + 12)) (fun _ => False) μ ν out.2.1 out.2.2 := by
  unfold e_M_comes_18 at hF
  have g0 := zFr.rf (fun r => (q ≤ r ∧ r < q + 12)) (fun _ => False) μ ν
  cases hF
  exact g0
theorem g_M_comes_49 {q : Nat}  {x1 : Int32} {x2 : Int32} {s0 : Int32} {μ : zI} {ν : zJ} {out : (Int32 × zI × zJ)} (hF : e_M_comes_49 q  x1 x2 s0 μ ν = some out) : zFr (fun r => (q ≤ r ∧ r < q + 12)) (fun _ => False) μ ν out.2.1 out.2.2 := by
  unfold e_M_comes_49 at hF
  have g0 := zFr.rf (fun r => (q ≤ r ∧ r < q + 12)) (fun _ => False) μ ν
  cases hF
  exact g0
theorem g_M_comes_0 {q : Nat}  {x1 : Int32} {x2 : Int32} {μ : zI} {ν : zJ} {out : (Int32 × zI × zJ)} (hF : e_M_comes_0 q  x1 x2 μ ν = some out) : zFr (fun r => (q ≤ r ∧ r < q + 12)) (fun _ => False) μ ν out.2.1 out.2.2 := by
  unfold e_M_comes_0 at hF
  have g0 := zFr.rf (fun r => (q ≤ r ∧ r < q + 12)) (fun _ => False) μ ν
  obtain ⟨μy1, hy1, hF⟩ := zh_let hF
  have gy1 := zFr.put g0 (r := q) (by first | omega | (dsimp only; omega)) hy1
  rcases Decidable.em (x1 < 0) with cy2 | cy2
  · replace hF := zh_t cy2 hF
    exact zFr.tr gy1 (g_M_comes_18  hF) (fun _ h => h) (fun _ h => h)
  · replace hF := zh_f cy2 hF
    rcases Decidable.em (x2 < 0) with cy3 | cy3
    · replace hF := zh_t cy3 hF
      exact zFr.tr gy1 (g_M_comes_18  hF) (fun _ h => h) (fun _ h => h)
    · replace hF := zh_f cy3 hF
      rcases Decidable.em (x2 ≤ 3) with cy4 | cy4
      · replace hF := zh_t cy4 hF
        rcases Decidable.em ((μy1 (q + 7) 46) ≤ x1) with cy5 | cy5
        · replace hF := zh_t cy5 hF
          exact zFr.tr gy1 (g_M_comes_49  hF) (fun _ h => h) (fun _ h => h)
        · replace hF := zh_f cy5 hF
          obtain ⟨hy6, hF⟩ := zh_if hF
          exact zFr.tr gy1 (g_M_comes_49  hF) (fun _ h => h) (fun _ h => h)
      · replace hF := zh_f cy4 hF
        exact zFr.tr gy1 (g_M_comes_18  hF) (fun _ h => h) (fun _ h => h)
theorem fr_M_comes {q : Nat} {x1 : Int32} {x2 : Int32} {μ : zI} {ν : zJ} {out : (Int32 × zI × zJ)} (hE : E_M_comes q x1 x2 μ ν = some out) : zFr (fun r => (q ≤ r ∧ r < q + 12)) (fun _ => False) μ ν out.2.1 out.2.2 := (g_M_comes_0 hE)
theorem g_M_cancel_0 {q : Nat}  {x1 : Int32} {μ : zI} {ν : zJ} {out : (Int32 × zI × zJ)} (hF : e_M_cancel_0 q  x1 μ ν = some out) : zFr (fun r => (q ≤ r ∧ r < q + 12)) (fun _ => False) μ ν out.2.1 out.2.2 := by
  unfold e_M_cancel_0 at hF
  have g0 := zFr.rf (fun r => (q ≤ r ∧ r < q + 12)) (fun _ => False) μ ν
  obtain ⟨μy1, hy1, hF⟩ := zh_let hF
  have gy1 := zFr.put g0 (r := q) (by first | omega | (dsimp only; omega)) hy1
  rcases Decidable.em (0 ≤ x1) with cy2 | cy2
  · replace hF := zh_t cy2 hF
    rcases Decidable.em (x1 < (μy1 (q + 7) 46)) with cy3 | cy3
    · replace hF := zh_t cy3 hF
      obtain ⟨ty4, hty4, hF⟩ := zh_bind hF
      have gty4 := zFr.tr gy1 (fr_M_removes hty4) (fun r h => by first | exact h | exact h.elim | omega | (revert h; dsimp only; omega)) (fun r h => by first | exact h | exact h.elim | omega | (revert h; dsimp only; omega))
      cases hF
      exact gty4
    · replace hF := zh_f cy3 hF
      cases hF
      exact gy1
  · replace hF := zh_f cy2 hF
    cases hF
    exact gy1
theorem fr_M_cancel {q : Nat} {x1 : Int32} {μ : zI} {ν : zJ} {out : (Int32 × zI × zJ)} (hE : E_M_cancel q x1 μ ν = some out) : zFr (fun r => (q ≤ r ∧ r < q + 12)) (fun _ => False) μ ν out.2.1 out.2.2 := (g_M_cancel_0 hE)
theorem g_M_canTry_24 {q : Nat}  {x1 : Int32} {s0 : Int32} {μ : zI} {ν : zJ} {out : (Int32 × zI × zJ)} (hF : e_M_canTry_24 q  x1 s0 μ ν = some out) : zFr (fun _ => False) (fun _ => False) μ ν out.2.1 out.2.2 := by
  unfold e_M_canTry_24 at hF
  have g0 := zFr.rf (fun _ => False) (fun _ => False) μ ν
  obtain ⟨hy1, hF⟩ := zh_if hF
  cases hF
  exact g0
theorem g_M_canTry_23 {q : Nat}  {x1 : Int32} {μ : zI} {ν : zJ} {out : (Int32 × zI × zJ)} (hF : e_M_canTry_23 q  x1 μ ν = some out) : zFr (fun _ => False) (fun _ => False) μ ν out.2.1 out.2.2 := by
  unfold e_M_canTry_23 at hF
  have g0 := zFr.rf (fun _ => False) (fun _ => False) μ ν
  exact zFr.tr g0 (g_M_canTry_24  hF) (fun _ h => h) (fun _ h => h)
theorem g_M_canTry_0 {q : Nat}  {x1 : Int32} {μ : zI} {ν : zJ} {out : (Int32 × zI × zJ)} (hF : e_M_canTry_0 q  x1 μ ν = some out) : zFr (fun _ => False) (fun _ => False) μ ν out.2.1 out.2.2 := by
  unfold e_M_canTry_0 at hF
  have g0 := zFr.rf (fun _ => False) (fun _ => False) μ ν
  rcases Decidable.em (x1 < 1) with cy1 | cy1
  · replace hF := zh_t cy1 hF
    exact zFr.tr g0 (g_M_canTry_23  hF) (fun _ h => h) (fun _ h => h)
  · replace hF := zh_f cy1 hF
    rcases Decidable.em (300 < x1) with cy2 | cy2
    · replace hF := zh_t cy2 hF
      exact zFr.tr g0 (g_M_canTry_23  hF) (fun _ h => h) (fun _ h => h)
    · replace hF := zh_f cy2 hF
      rcases Decidable.em ((μ q 9) ≤ 0) with cy3 | cy3
      · replace hF := zh_t cy3 hF
        exact zFr.tr g0 (g_M_canTry_23  hF) (fun _ h => h) (fun _ h => h)
      · replace hF := zh_f cy3 hF
        exact zFr.tr g0 (g_M_canTry_24  hF) (fun _ h => h) (fun _ h => h)
theorem fr_M_canTry {q : Nat} {x1 : Int32} {μ : zI} {ν : zJ} {out : (Int32 × zI × zJ)} (hE : E_M_canTry q x1 μ ν = some out) : zFr (fun _ => False) (fun _ => False) μ ν out.2.1 out.2.2 := (g_M_canTry_0 hE)
theorem g_M_runs_2 {q : Nat}  {out : (zI × zJ)} : ∀ (n : Nat) (x1 : Int32) (x2 : Int32) (μ : zI) (ν : zJ), f_M_runs_2 q  n x1 x2 μ ν = some out → zFr (fun r => (q ≤ r ∧ r < q + 12)) (fun r => (q ≤ r ∧ r < q + 12)) μ ν out.1 out.2 := by
  intro n
  induction n with
  | zero => intro x1 x2 μ ν hF; cases hF
  | succ n ih =>
    intro x1 x2 μ ν hF
    dsimp only [f_M_runs_2] at hF
    have g0 := zFr.rf (fun r => (q ≤ r ∧ r < q + 12)) (fun r => (q ≤ r ∧ r < q + 12)) μ ν
    rcases Decidable.em (x1 ≤ x2) with cy1 | cy1
    · replace hF := zh_t cy1 hF
      cases hF
      exact g0
    · replace hF := zh_f cy1 hF
      obtain ⟨ty2, hty2, hF⟩ := zh_bind hF
      have gty2 := zFr.tr g0 (fr_M_ticksOnce hty2) (fun r h => by first | exact h | exact h.elim | omega | (revert h; dsimp only; omega)) (fun r h => by first | exact h | exact h.elim | omega | (revert h; dsimp only; omega))
      exact zFr.tr gty2 (ih _ _ _ _ hF) (fun _ h => h) (fun _ h => h)
theorem g_M_runs_0 {q : Nat}  {x1 : Int32} {μ : zI} {ν : zJ} {out : (zI × zJ)} (hF : e_M_runs_0 q  x1 μ ν = some out) : zFr (fun r => (q ≤ r ∧ r < q + 12)) (fun r => (q ≤ r ∧ r < q + 12)) μ ν out.1 out.2 := by
  unfold e_M_runs_0 at hF
  have g0 := zFr.rf (fun r => (q ≤ r ∧ r < q + 12)) (fun r => (q ≤ r ∧ r < q + 12)) μ ν
  exact zFr.tr g0 (g_M_runs_2  zFuel _ _ _ _ hF) (fun _ h => h) (fun _ h => h)
theorem fr_M_runs {q : Nat} {x1 : Int32} {μ : zI} {ν : zJ} {out : (zI × zJ)} (hE : E_M_runs q x1 μ ν = some out) : zFr (fun r => (q ≤ r ∧ r < q + 12)) (fun r => (q ≤ r ∧ r < q + 12)) μ ν out.1 out.2 := (g_M_runs_0 hE)
theorem g_M_ifTicks_23 {q : Nat}  {x1 : Int32} {x2 : Int32} {μ : zI} {ν : zJ} {out : (Int32 × zI × zJ)} (hF : e_M_ifTicks_23 q  x1 x2 μ ν = some out) : zFr (fun r => (q ≤ r ∧ r < q + 12)) (fun r => (q ≤ r ∧ r < q + 12)) μ ν out.2.1 out.2.2 := by
  unfold e_M_ifTicks_23 at hF
  have g0 := zFr.rf (fun r => (q ≤ r ∧ r < q + 12)) (fun r => (q ≤ r ∧ r < q + 12)) μ ν
  cases hF
  exact g0
theorem g_M_ifTicks_166 {q : Nat}  {x1 : Int32} {x2 : Int32} {x3 : Int32} {μ : zI} {ν : zJ} {out : (Int32 × zI × zJ)} (hF : e_M_ifTicks_166 q  x1 x2 x3 μ ν = some out) : zFr (fun r => (q ≤ r ∧ r < q + 12)) (fun r => (q ≤ r ∧ r < q + 12)) μ ν out.2.1 out.2.2 := by
  unfold e_M_ifTicks_166 at hF
  have g0 := zFr.rf (fun r => (q ≤ r ∧ r < q + 12)) (fun r => (q ≤ r ∧ r < q + 12)) μ ν
  obtain ⟨ty1, hty1, hF⟩ := zh_bind hF
  have gty1 := zFr.tr g0 (fr_M_comesBack hty1) (fun r h => by first | exact h | exact h.elim | omega | (revert h; dsimp only; omega)) (fun r h => by first | exact h | exact h.elim | omega | (revert h; dsimp only; omega))
  cases hF
  exact gty1
theorem g_M_ifTicks_0 {q : Nat}  {x1 : Int32} {x2 : Int32} {μ : zI} {ν : zJ} {out : (Int32 × zI × zJ)} (hF : e_M_ifTicks_0 q  x1 x2 μ ν = some out) : zFr (fun r => (q ≤ r ∧ r < q + 12)) (fun r => (q ≤ r ∧ r < q + 12)) μ ν out.2.1 out.2.2 := by
  unfold e_M_ifTicks_0 at hF
  have g0 := zFr.rf (fun r => (q ≤ r ∧ r < q + 12)) (fun r => (q ≤ r ∧ r < q + 12)) μ ν
  obtain ⟨μy1, hy1, hF⟩ := zh_let hF
  have gy1 := zFr.put g0 (r := q) (by first | omega | (dsimp only; omega)) hy1
  obtain ⟨ty2, hty2, hF⟩ := zh_bind hF
  have gty2 := zFr.tr gy1 (fr_M_canTry hty2) (fun r h => by first | exact h | exact h.elim | omega | (revert h; dsimp only; omega)) (fun r h => by first | exact h | exact h.elim | omega | (revert h; dsimp only; omega))
  rcases Decidable.em (ty2.1 = 0) with cy3 | cy3
  · replace hF := zh_t cy3 hF
    exact zFr.tr gty2 (g_M_ifTicks_23  hF) (fun _ h => h) (fun _ h => h)
  · replace hF := zh_f cy3 hF
    rcases Decidable.em (x2 < 0) with cy4 | cy4
    · replace hF := zh_t cy4 hF
      exact zFr.tr gty2 (g_M_ifTicks_23  hF) (fun _ h => h) (fun _ h => h)
    · replace hF := zh_f cy4 hF
      rcases Decidable.em (x2 ≤ 7) with cy5 | cy5
      · replace hF := zh_t cy5 hF
        obtain ⟨ty6, hty6, hF⟩ := zh_bind hF
        have gty6 := zFr.tr gty2 (fr_M_goesAside hty6) (fun r h => by first | exact h | exact h.elim | omega | (revert h; dsimp only; omega)) (fun r h => by first | exact h | exact h.elim | omega | (revert h; dsimp only; omega))
        obtain ⟨ty7, hty7, hF⟩ := zh_bind hF
        have gty7 := zFr.tr gty6 (fr_M_runs hty7) (fun r h => by first | exact h | exact h.elim | omega | (revert h; dsimp only; omega)) (fun r h => by first | exact h | exact h.elim | omega | (revert h; dsimp only; omega))
        by_cases cy8 : x2 = 0
        · replace hF := zh_t cy8 hF
          obtain ⟨y15, hy15, hF⟩ := zh_let hF
          exact zFr.tr gty7 (g_M_ifTicks_166  hF) (fun _ h => h) (fun _ h => h)
        · replace hF := zh_f cy8 hF
          by_cases cy9 : x2 = 1
          · replace hF := zh_t cy9 hF
            obtain ⟨hy16, hF⟩ := zh_if hF
            obtain ⟨hy17, hF⟩ := zh_if hF
            obtain ⟨y18, hy18, hF⟩ := zh_let hF
            exact zFr.tr gty7 (g_M_ifTicks_166  hF) (fun _ h => h) (fun _ h => h)
          · replace hF := zh_f cy9 hF
            by_cases cy10 : x2 = 2
            · replace hF := zh_t cy10 hF
              obtain ⟨hy19, hF⟩ := zh_if hF
              obtain ⟨hy20, hF⟩ := zh_if hF
              obtain ⟨y21, hy21, hF⟩ := zh_let hF
              exact zFr.tr gty7 (g_M_ifTicks_166  hF) (fun _ h => h) (fun _ h => h)
            · replace hF := zh_f cy10 hF
              by_cases cy11 : x2 = 3
              · replace hF := zh_t cy11 hF
                obtain ⟨hy22, hF⟩ := zh_if hF
                obtain ⟨hy23, hF⟩ := zh_if hF
                obtain ⟨y24, hy24, hF⟩ := zh_let hF
                exact zFr.tr gty7 (g_M_ifTicks_166  hF) (fun _ h => h) (fun _ h => h)
              · replace hF := zh_f cy11 hF
                by_cases cy12 : x2 = 4
                · replace hF := zh_t cy12 hF
                  obtain ⟨y25, hy25, hF⟩ := zh_let hF
                  exact zFr.tr gty7 (g_M_ifTicks_166  hF) (fun _ h => h) (fun _ h => h)
                · replace hF := zh_f cy12 hF
                  by_cases cy13 : x2 = 5
                  · replace hF := zh_t cy13 hF
                    obtain ⟨y26, hy26, hF⟩ := zh_let hF
                    exact zFr.tr gty7 (g_M_ifTicks_166  hF) (fun _ h => h) (fun _ h => h)
                  · replace hF := zh_f cy13 hF
                    by_cases cy14 : x2 = 6
                    · replace hF := zh_t cy14 hF
                      obtain ⟨y27, hy27, hF⟩ := zh_let hF
                      exact zFr.tr gty7 (g_M_ifTicks_166  hF) (fun _ h => h) (fun _ h => h)
                    · replace hF := zh_f cy14 hF
                      obtain ⟨y28, hy28, hF⟩ := zh_let hF
                      exact zFr.tr gty7 (g_M_ifTicks_166  hF) (fun _ h => h) (fun _ h => h)
      · replace hF := zh_f cy5 hF
        exact zFr.tr gty2 (g_M_ifTicks_23  hF) (fun _ h => h) (fun _ h => h)
theorem fr_M_ifTicks {q : Nat} {x1 : Int32} {x2 : Int32} {μ : zI} {ν : zJ} {out : (Int32 × zI × zJ)} (hE : E_M_ifTicks q x1 x2 μ ν = some out) : zFr (fun r => (q ≤ r ∧ r < q + 12)) (fun r => (q ≤ r ∧ r < q + 12)) μ ν out.2.1 out.2.2 := (g_M_ifTicks_0 hE)
theorem g_M_firstBy_125 {q : Nat} {r20 : Int32 → Int32 → Int32 → Int32 → zI → zJ → Option (Int32 × zI × zJ)} {x1 : Int32} {x2 : Int32} {x3 : Int32} {x4 : Int32} {x5 : Int32} {s0 : Int32} {μ : zI} {ν : zJ} {out : (Int32 × zI × zJ)} (hr20 : ∀ (x1 : Int32) (x2 : Int32) (x3 : Int32) (x4 : Int32) (μ : zI) (ν : zJ), r20 x1 x2 x3 x4 μ ν = some out → zFr (fun r => (q ≤ r ∧ r < q + 12)) (fun r => (q ≤ r ∧ r < q + 12)) μ ν out.2.1 out.2.2) (hF : e_M_firstBy_125 q r20 x1 x2 x3 x4 x5 s0 μ ν = some out) : zFr (fun r => (q ≤ r ∧ r < q + 12)) (fun r => (q ≤ r ∧ r < q + 12)) μ ν out.2.1 out.2.2 := by
  unfold e_M_firstBy_125 at hF
  have g0 := zFr.rf (fun r => (q ≤ r ∧ r < q + 12)) (fun r => (q ≤ r ∧ r < q + 12)) μ ν
  exact zFr.tr g0 (hr20 _ _ _ _ _ _ hF) (fun _ h => h) (fun _ h => h)
theorem g_M_firstBy_111 {q : Nat} {r20 : Int32 → Int32 → Int32 → Int32 → zI → zJ → Option (Int32 × zI × zJ)} {x1 : Int32} {x2 : Int32} {x3 : Int32} {x4 : Int32} {s0 : Int32} {μ : zI} {ν : zJ} {out : (Int32 × zI × zJ)} (hr20 : ∀ (x1 : Int32) (x2 : Int32) (x3 : Int32) (x4 : Int32) (μ : zI) (ν : zJ), r20 x1 x2 x3 x4 μ ν = some out → zFr (fun r => (q ≤ r ∧ r < q + 12)) (fun r => (q ≤ r ∧ r < q + 12)) μ ν out.2.1 out.2.2) (hF : e_M_firstBy_111 q r20 x1 x2 x3 x4 s0 μ ν = some out) : zFr (fun r => (q ≤ r ∧ r < q + 12)) (fun r => (q ≤ r ∧ r < q + 12)) μ ν out.2.1 out.2.2 := by
  unfold e_M_firstBy_111 at hF
  have g0 := zFr.rf (fun r => (q ≤ r ∧ r < q + 12)) (fun r => (q ≤ r ∧ r < q + 12)) μ ν
  rcases Decidable.em (s0 = 0) with cy1 | cy1
  · replace hF := zh_t cy1 hF
    exact zFr.tr g0 (g_M_firstBy_125 hr20 hF) (fun _ h => h) (fun _ h => h)
  · replace hF := zh_f cy1 hF
    exact zFr.tr g0 (g_M_firstBy_125 hr20 hF) (fun _ h => h) (fun _ h => h)
theorem g_M_firstBy_132 {q : Nat}  {x1 : Int32} {x2 : Int32} {x3 : Int32} {x4 : Int32} {μ : zI} {ν : zJ} {out : (Int32 × zI × zJ)} (hF : e_M_firstBy_132 q  x1 x2 x3 x4 μ ν = some out) : zFr (fun r => (q ≤ r ∧ r < q + 12)) (fun r => (q ≤ r ∧ r < q + 12)) μ ν out.2.1 out.2.2 := by
  unfold e_M_firstBy_132 at hF
  have g0 := zFr.rf (fun r => (q ≤ r ∧ r < q + 12)) (fun r => (q ≤ r ∧ r < q + 12)) μ ν
  obtain ⟨ty1, hty1, hF⟩ := zh_bind hF
  have gty1 := zFr.tr g0 (fr_M_comesBack hty1) (fun r h => by first | exact h | exact h.elim | omega | (revert h; dsimp only; omega)) (fun r h => by first | exact h | exact h.elim | omega | (revert h; dsimp only; omega))
  cases hF
  exact gty1
theorem g_M_firstBy_20 {q : Nat}  {out : (Int32 × zI × zJ)} : ∀ (n : Nat) (x1 : Int32) (x2 : Int32) (x3 : Int32) (x4 : Int32) (μ : zI) (ν : zJ), f_M_firstBy_20 q  n x1 x2 x3 x4 μ ν = some out → zFr (fun r => (q ≤ r ∧ r < q + 12)) (fun r => (q ≤ r ∧ r < q + 12)) μ ν out.2.1 out.2.2 := by
  intro n
  induction n with
  | zero => intro x1 x2 x3 x4 μ ν hF; cases hF
  | succ n ih =>
    intro x1 x2 x3 x4 μ ν hF
    dsimp only [f_M_firstBy_20] at hF
    have g0 := zFr.rf (fun r => (q ≤ r ∧ r < q + 12)) (fun r => (q ≤ r ∧ r < q + 12)) μ ν
    rcases Decidable.em (x1 < x4) with cy1 | cy1
    · replace hF := zh_t cy1 hF
      exact zFr.tr g0 (g_M_firstBy_132  hF) (fun _ h => h) (fun _ h => h)
    · replace hF := zh_f cy1 hF
      rcases (Decidable.em (x3 = (-2))).symm with cy2 | cy2
      · replace hF := zh_f cy2 hF
        exact zFr.tr g0 (g_M_firstBy_132  hF) (fun _ h => h) (fun _ h => h)
      · replace hF := zh_t cy2 hF
        obtain ⟨ty3, hty3, hF⟩ := zh_bind hF
        have gty3 := zFr.tr g0 (fr_M_ticksOnce hty3) (fun r h => by first | exact h | exact h.elim | omega | (revert h; dsimp only; omega)) (fun r h => by first | exact h | exact h.elim | omega | (revert h; dsimp only; omega))
        rcases (Decidable.em (x2 = 0)).symm with cy4 | cy4
        · replace hF := zh_f cy4 hF
          rcases (Decidable.em (x2 = 1)).symm with cy5 | cy5
          · replace hF := zh_f cy5 hF
            rcases (Decidable.em ((ty3.1 (q + 7) 33) = (ty3.1 (q + 7) 0))).symm with cy6 | cy6
            · replace hF := zh_f cy6 hF
              exact zFr.tr gty3 (g_M_firstBy_111 (fun a0 a1 a2 a3 a4 a5 => ih a0 a1 a2 a3 a4 a5) hF) (fun _ h => h) (fun _ h => h)
            · replace hF := zh_t cy6 hF
              exact zFr.tr gty3 (g_M_firstBy_111 (fun a0 a1 a2 a3 a4 a5 => ih a0 a1 a2 a3 a4 a5) hF) (fun _ h => h) (fun _ h => h)
          · replace hF := zh_t cy5 hF
            rcases (Decidable.em ((ty3.1 (q + 7) 34) = 2)).symm with cy7 | cy7
            · replace hF := zh_f cy7 hF
              exact zFr.tr gty3 (g_M_firstBy_111 (fun a0 a1 a2 a3 a4 a5 => ih a0 a1 a2 a3 a4 a5) hF) (fun _ h => h) (fun _ h => h)
            · replace hF := zh_t cy7 hF
              exact zFr.tr gty3 (g_M_firstBy_111 (fun a0 a1 a2 a3 a4 a5 => ih a0 a1 a2 a3 a4 a5) hF) (fun _ h => h) (fun _ h => h)
        · replace hF := zh_t cy4 hF
          rcases Decidable.em ((lg_cmp (ty3.2 (q + 9) 6) (ty3.2 (q + 10) 6)) ≤ 0) with cy8 | cy8
          · replace hF := zh_t cy8 hF
            exact zFr.tr gty3 (g_M_firstBy_111 (fun a0 a1 a2 a3 a4 a5 => ih a0 a1 a2 a3 a4 a5) hF) (fun _ h => h) (fun _ h => h)
          · replace hF := zh_f cy8 hF
            exact zFr.tr gty3 (g_M_firstBy_111 (fun a0 a1 a2 a3 a4 a5 => ih a0 a1 a2 a3 a4 a5) hF) (fun _ h => h) (fun _ h => h)
theorem g_M_firstBy_0 {q : Nat}  {x1 : Int32} {x2 : Int32} {μ : zI} {ν : zJ} {out : (Int32 × zI × zJ)} (hF : e_M_firstBy_0 q  x1 x2 μ ν = some out) : zFr (fun r => (q ≤ r ∧ r < q + 12)) (fun r => (q ≤ r ∧ r < q + 12)) μ ν out.2.1 out.2.2 := by
  unfold e_M_firstBy_0 at hF
  have g0 := zFr.rf (fun r => (q ≤ r ∧ r < q + 12)) (fun r => (q ≤ r ∧ r < q + 12)) μ ν
  obtain ⟨ty1, hty1, hF⟩ := zh_bind hF
  have gty1 := zFr.tr g0 (fr_M_canTry hty1) (fun r h => by first | exact h | exact h.elim | omega | (revert h; dsimp only; omega)) (fun r h => by first | exact h | exact h.elim | omega | (revert h; dsimp only; omega))
  rcases (Decidable.em (ty1.1 = 0)).symm with cy2 | cy2
  · replace hF := zh_f cy2 hF
    obtain ⟨ty3, hty3, hF⟩ := zh_bind hF
    have gty3 := zFr.tr gty1 (fr_M_goesAside hty3) (fun r h => by first | exact h | exact h.elim | omega | (revert h; dsimp only; omega)) (fun r h => by first | exact h | exact h.elim | omega | (revert h; dsimp only; omega))
    exact zFr.tr gty3 (g_M_firstBy_20  zFuel _ _ _ _ _ _ hF) (fun _ h => h) (fun _ h => h)
  · replace hF := zh_t cy2 hF
    cases hF
    exact gty1
theorem fr_M_firstBy {q : Nat} {x1 : Int32} {x2 : Int32} {μ : zI} {ν : zJ} {out : (Int32 × zI × zJ)} (hE : E_M_firstBy q x1 x2 μ ν = some out) : zFr (fun r => (q ≤ r ∧ r < q + 12)) (fun r => (q ≤ r ∧ r < q + 12)) μ ν out.2.1 out.2.2 := (g_M_firstBy_0 hE)
theorem g_M_firstSeen_0 {q : Nat}  {x1 : Int32} {μ : zI} {ν : zJ} {out : (Int32 × zI × zJ)} (hF : e_M_firstSeen_0 q  x1 μ ν = some out) : zFr (fun r => (q ≤ r ∧ r < q + 12)) (fun r => (q ≤ r ∧ r < q + 12)) μ ν out.2.1 out.2.2 := by
  unfold e_M_firstSeen_0 at hF
  have g0 := zFr.rf (fun r => (q ≤ r ∧ r < q + 12)) (fun r => (q ≤ r ∧ r < q + 12)) μ ν
  obtain ⟨μy1, hy1, hF⟩ := zh_let hF
  have gy1 := zFr.put g0 (r := q) (by first | omega | (dsimp only; omega)) hy1
  obtain ⟨ty2, hty2, hF⟩ := zh_bind hF
  have gty2 := zFr.tr gy1 (fr_M_firstBy hty2) (fun r h => by first | exact h | exact h.elim | omega | (revert h; dsimp only; omega)) (fun r h => by first | exact h | exact h.elim | omega | (revert h; dsimp only; omega))
  cases hF
  exact gty2
theorem fr_M_firstSeen {q : Nat} {x1 : Int32} {μ : zI} {ν : zJ} {out : (Int32 × zI × zJ)} (hE : E_M_firstSeen q x1 μ ν = some out) : zFr (fun r => (q ≤ r ∧ r < q + 12)) (fun r => (q ≤ r ∧ r < q + 12)) μ ν out.2.1 out.2.2 := (g_M_firstSeen_0 hE)
theorem g_M_firstFloat_0 {q : Nat}  {x1 : Int32} {μ : zI} {ν : zJ} {out : (Int32 × zI × zJ)} (hF : e_M_firstFloat_0 q  x1 μ ν = some out) : zFr (fun r => (q ≤ r ∧ r < q + 12)) (fun r => (q ≤ r ∧ r < q + 12)) μ ν out.2.1 out.2.2 := by
  unfold e_M_firstFloat_0 at hF
  have g0 := zFr.rf (fun r => (q ≤ r ∧ r < q + 12)) (fun r => (q ≤ r ∧ r < q + 12)) μ ν
  obtain ⟨μy1, hy1, hF⟩ := zh_let hF
  have gy1 := zFr.put g0 (r := q) (by first | omega | (dsimp only; omega)) hy1
  obtain ⟨ty2, hty2, hF⟩ := zh_bind hF
  have gty2 := zFr.tr gy1 (fr_M_firstBy hty2) (fun r h => by first | exact h | exact h.elim | omega | (revert h; dsimp only; omega)) (fun r h => by first | exact h | exact h.elim | omega | (revert h; dsimp only; omega))
  cases hF
  exact gty2
theorem fr_M_firstFloat {q : Nat} {x1 : Int32} {μ : zI} {ν : zJ} {out : (Int32 × zI × zJ)} (hE : E_M_firstFloat q x1 μ ν = some out) : zFr (fun r => (q ≤ r ∧ r < q + 12)) (fun r => (q ≤ r ∧ r < q + 12)) μ ν out.2.1 out.2.2 := (g_M_firstFloat_0 hE)
theorem g_M_firstFull_0 {q : Nat}  {x1 : Int32} {μ : zI} {ν : zJ} {out : (Int32 × zI × zJ)} (hF : e_M_firstFull_0 q  x1 μ ν = some out) : zFr (fun r => (q ≤ r ∧ r < q + 12)) (fun r => (q ≤ r ∧ r < q + 12)) μ ν out.2.1 out.2.2 := by
  unfold e_M_firstFull_0 at hF
  have g0 := zFr.rf (fun r => (q ≤ r ∧ r < q + 12)) (fun r => (q ≤ r ∧ r < q + 12)) μ ν
  obtain ⟨μy1, hy1, hF⟩ := zh_let hF
  have gy1 := zFr.put g0 (r := q) (by first | omega | (dsimp only; omega)) hy1
  obtain ⟨ty2, hty2, hF⟩ := zh_bind hF
  have gty2 := zFr.tr gy1 (fr_M_firstBy hty2) (fun r h => by first | exact h | exact h.elim | omega | (revert h; dsimp only; omega)) (fun r h => by first | exact h | exact h.elim | omega | (revert h; dsimp only; omega))
  cases hF
  exact gty2
theorem fr_M_firstFull {q : Nat} {x1 : Int32} {μ : zI} {ν : zJ} {out : (Int32 × zI × zJ)} (hE : E_M_firstFull q x1 μ ν = some out) : zFr (fun r => (q ≤ r ∧ r < q + 12)) (fun r => (q ≤ r ∧ r < q + 12)) μ ν out.2.1 out.2.2 := (g_M_firstFull_0 hE)
theorem g_M_seenIn_54 {q : Nat} {r21 : Int32 → Int32 → Int32 → Int32 → Int32 → Int32 → zI → zJ → Option (Int32 × zI × zJ)} {x1 : Int32} {x2 : Int32} {x3 : Int32} {x4 : Int32} {x5 : Int32} {x6 : Int32} {s0 : Int32} {μ : zI} {ν : zJ} {out : (Int32 × zI × zJ)} (hr21 : ∀ (x1 : Int32) (x2 : Int32) (x3 : Int32) (x4 : Int32) (x5 : Int32) (x6 : Int32) (μ : zI) (ν : zJ), r21 x1 x2 x3 x4 x5 x6 μ ν = some out → zFr (fun _ => False) (fun _ => False) μ ν out.2.1 out.2.2) (hF : e_M_seenIn_54 q r21 x1 x2 x3 x4 x5 x6 s0 μ ν = some out) : zFr (fun _ => False) (fun _ => False) μ ν out.2.1 out.2.2 := by
  unfold e_M_seenIn_54 at hF
  have g0 := zFr.rf (fun _ => False) (fun _ => False) μ ν
  rcases Decidable.em (s0 < (μ (q + 7) 8)) with cy1 | cy1
  · replace hF := zh_t cy1 hF
    exact zFr.tr g0 (hr21 _ _ _ _ _ _ _ _ hF) (fun _ h => h) (fun _ h => h)
  · replace hF := zh_f cy1 hF
    cases hF
    exact g0
theorem g_M_seenIn_21 {q : Nat}  {out : (Int32 × zI × zJ)} : ∀ (n : Nat) (x1 : Int32) (x2 : Int32) (x3 : Int32) (x4 : Int32) (x5 : Int32) (x6 : Int32) (μ : zI) (ν : zJ), f_M_seenIn_21 q  n x1 x2 x3 x4 x5 x6 μ ν = some out → zFr (fun _ => False) (fun _ => False) μ ν out.2.1 out.2.2 := by
  intro n
  induction n with
  | zero => intro x1 x2 x3 x4 x5 x6 μ ν hF; cases hF
  | succ n ih =>
    intro x1 x2 x3 x4 x5 x6 μ ν hF
    dsimp only [f_M_seenIn_21] at hF
    have g0 := zFr.rf (fun _ => False) (fun _ => False) μ ν
    rcases Decidable.em (x1 < x6) with cy1 | cy1
    · replace hF := zh_t cy1 hF
      cases hF
      exact g0
    · replace hF := zh_f cy1 hF
      obtain ⟨ty2, hty2, hF⟩ := zh_bind hF
      have gty2 := zFr.tr g0 (fr_M_drifts hty2) (fun r h => by first | exact h | exact h.elim | omega | (revert h; dsimp only; omega)) (fun r h => by first | exact h | exact h.elim | omega | (revert h; dsimp only; omega))
      obtain ⟨y3, hy3, hF⟩ := zh_let hF
      obtain ⟨ty4, hty4, hF⟩ := zh_bind hF
      have gty4 := zFr.tr gty2 (fr_M_isFar hty4) (fun r h => by first | exact h | exact h.elim | omega | (revert h; dsimp only; omega)) (fun r h => by first | exact h | exact h.elim | omega | (revert h; dsimp only; omega))
      rcases Decidable.em (ty4.1 = 0) with cy5 | cy5
      · replace hF := zh_t cy5 hF
        exact zFr.tr gty4 (g_M_seenIn_54 (fun a0 a1 a2 a3 a4 a5 a6 a7 => ih a0 a1 a2 a3 a4 a5 a6 a7) hF) (fun _ h => h) (fun _ h => h)
      · replace hF := zh_f cy5 hF
        exact zFr.tr gty4 (g_M_seenIn_54 (fun a0 a1 a2 a3 a4 a5 a6 a7 => ih a0 a1 a2 a3 a4 a5 a6 a7) hF) (fun _ h => h) (fun _ h => h)
theorem g_M_seenIn_0 {q : Nat}  {x1 : Int32} {x2 : Int32} {x3 : Int32} {μ : zI} {ν : zJ} {out : (Int32 × zI × zJ)} (hF : e_M_seenIn_0 q  x1 x2 x3 μ ν = some out) : zFr (fun _ => False) (fun _ => False) μ ν out.2.1 out.2.2 := by
  unfold e_M_seenIn_0 at hF
  have g0 := zFr.rf (fun _ => False) (fun _ => False) μ ν
  obtain ⟨y1, hy1, hF⟩ := zh_let hF
  obtain ⟨y2, hy2, hF⟩ := zh_let hF
  exact zFr.tr g0 (g_M_seenIn_21  zFuel _ _ _ _ _ _ _ _ hF) (fun _ h => h) (fun _ h => h)
theorem fr_M_seenIn {q : Nat} {x1 : Int32} {x2 : Int32} {x3 : Int32} {μ : zI} {ν : zJ} {out : (Int32 × zI × zJ)} (hE : E_M_seenIn q x1 x2 x3 μ ν = some out) : zFr (fun _ => False) (fun _ => False) μ ν out.2.1 out.2.2 := (g_M_seenIn_0 hE)
theorem g_M_isSome_17  {x0 : Int32} {s0 : Int32} {μ : zI} {ν : zJ} {out : (Int32 × zI × zJ)} (hF : e_M_isSome_17   x0 s0 μ ν = some out) : zFr (fun _ => False) (fun _ => False) μ ν out.2.1 out.2.2 := by
  unfold e_M_isSome_17 at hF
  have g0 := zFr.rf (fun _ => False) (fun _ => False) μ ν
  obtain ⟨hy1, hF⟩ := zh_if hF
  cases hF
  exact g0
theorem g_M_isSome_16  {x0 : Int32} {μ : zI} {ν : zJ} {out : (Int32 × zI × zJ)} (hF : e_M_isSome_16   x0 μ ν = some out) : zFr (fun _ => False) (fun _ => False) μ ν out.2.1 out.2.2 := by
  unfold e_M_isSome_16 at hF
  have g0 := zFr.rf (fun _ => False) (fun _ => False) μ ν
  exact zFr.tr g0 (g_M_isSome_17  hF) (fun _ h => h) (fun _ h => h)
theorem g_M_isSome_0  {x0 : Int32} {μ : zI} {ν : zJ} {out : (Int32 × zI × zJ)} (hF : e_M_isSome_0   x0 μ ν = some out) : zFr (fun _ => False) (fun _ => False) μ ν out.2.1 out.2.2 := by
  unfold e_M_isSome_0 at hF
  have g0 := zFr.rf (fun _ => False) (fun _ => False) μ ν
  rcases Decidable.em (x0 < 1) with cy1 | cy1
  · replace hF := zh_t cy1 hF
    exact zFr.tr g0 (g_M_isSome_16  hF) (fun _ h => h) (fun _ h => h)
  · replace hF := zh_f cy1 hF
    rcases Decidable.em (200 < x0) with cy2 | cy2
    · replace hF := zh_t cy2 hF
      exact zFr.tr g0 (g_M_isSome_16  hF) (fun _ h => h) (fun _ h => h)
    · replace hF := zh_f cy2 hF
      exact zFr.tr g0 (g_M_isSome_17  hF) (fun _ h => h) (fun _ h => h)
theorem fr_M_isSome {x0 : Int32} {μ : zI} {ν : zJ} {out : (Int32 × zI × zJ)} (hE : E_M_isSome x0 μ ν = some out) : zFr (fun _ => False) (fun _ => False) μ ν out.2.1 out.2.2 := (g_M_isSome_0 hE)
theorem g_M_leastPush_16 {q : Nat}  {out : (Int32 × zI × zJ)} : ∀ (n : Nat) (x1 : Int32) (x2 : Int32) (μ : zI) (ν : zJ), f_M_leastPush_16 q  n x1 x2 μ ν = some out → zFr (fun r => (q ≤ r ∧ r < q + 12)) (fun _ => False) μ ν out.2.1 out.2.2 := by
  intro n
  induction n with
  | zero => intro x1 x2 μ ν hF; cases hF
  | succ n ih =>
    intro x1 x2 μ ν hF
    dsimp only [f_M_leastPush_16] at hF
    have g0 := zFr.rf (fun r => (q ≤ r ∧ r < q + 12)) (fun _ => False) μ ν
    rcases Decidable.em (1000 < x2) with cy1 | cy1
    · replace hF := zh_t cy1 hF
      cases hF
      exact g0
    · replace hF := zh_f cy1 hF
      obtain ⟨ty2, hty2, hF⟩ := zh_bind hF
      have gty2 := zFr.tr g0 (fr_M_seenIn hty2) (fun r h => by first | exact h | exact h.elim | omega | (revert h; dsimp only; omega)) (fun r h => by first | exact h | exact h.elim | omega | (revert h; dsimp only; omega))
      rcases Decidable.em (ty2.1 = (-2)) with cy3 | cy3
      · replace hF := zh_t cy3 hF
        exact zFr.tr gty2 (ih _ _ _ _ hF) (fun _ h => h) (fun _ h => h)
      · replace hF := zh_f cy3 hF
        cases hF
        exact gty2
theorem g_M_leastPush_0 {q : Nat}  {x1 : Int32} {μ : zI} {ν : zJ} {out : (Int32 × zI × zJ)} (hF : e_M_leastPush_0 q  x1 μ ν = some out) : zFr (fun r => (q ≤ r ∧ r < q + 12)) (fun _ => False) μ ν out.2.1 out.2.2 := by
  unfold e_M_leastPush_0 at hF
  have g0 := zFr.rf (fun r => (q ≤ r ∧ r < q + 12)) (fun _ => False) μ ν
  obtain ⟨μy1, hy1, hF⟩ := zh_let hF
  have gy1 := zFr.put g0 (r := q) (by first | omega | (dsimp only; omega)) hy1
  obtain ⟨ty2, hty2, hF⟩ := zh_bind hF
  have gty2 := zFr.tr gy1 (fr_M_isSome hty2) (fun r h => by first | exact h | exact h.elim | omega | (revert h; dsimp only; omega)) (fun r h => by first | exact h | exact h.elim | omega | (revert h; dsimp only; omega))
  rcases (Decidable.em (ty2.1 = 0)).symm with cy3 | cy3
  · replace hF := zh_f cy3 hF
    exact zFr.tr gty2 (g_M_leastPush_16  zFuel _ _ _ _ hF) (fun _ h => h) (fun _ h => h)
  · replace hF := zh_t cy3 hF
    cases hF
    exact gty2
theorem fr_M_leastPush {q : Nat} {x1 : Int32} {μ : zI} {ν : zJ} {out : (Int32 × zI × zJ)} (hE : E_M_leastPush q x1 μ ν = some out) : zFr (fun r => (q ≤ r ∧ r < q + 12)) (fun _ => False) μ ν out.2.1 out.2.2 := (g_M_leastPush_0 hE)
theorem g_M_seenBy_41 {q : Nat}  {x1 : Int32} {x2 : Int32} {s0 : Int32} {μ : zI} {ν : zJ} {out : (Int32 × zI × zJ)} (hF : e_M_seenBy_41 q  x1 x2 s0 μ ν = some out) : zFr (fun r => (q ≤ r ∧ r < q + 12)) (fun _ => False) μ ν out.2.1 out.2.2 := by
  unfold e_M_seenBy_41 at hF
  have g0 := zFr.rf (fun r => (q ≤ r ∧ r < q + 12)) (fun _ => False) μ ν
  cases hF
  exact g0
theorem g_M_seenBy_40 {q : Nat}  {x1 : Int32} {x2 : Int32} {μ : zI} {ν : zJ} {out : (Int32 × zI × zJ)} (hF : e_M_seenBy_40 q  x1 x2 μ ν = some out) : zFr (fun r => (q ≤ r ∧ r < q + 12)) (fun _ => False) μ ν out.2.1 out.2.2 := by
  unfold e_M_seenBy_40 at hF
  have g0 := zFr.rf (fun r => (q ≤ r ∧ r < q + 12)) (fun _ => False) μ ν
  exact zFr.tr g0 (g_M_seenBy_41  hF) (fun _ h => h) (fun _ h => h)
theorem g_M_seenBy_0 {q : Nat}  {x1 : Int32} {x2 : Int32} {μ : zI} {ν : zJ} {out : (Int32 × zI × zJ)} (hF : e_M_seenBy_0 q  x1 x2 μ ν = some out) : zFr (fun r => (q ≤ r ∧ r < q + 12)) (fun _ => False) μ ν out.2.1 out.2.2 := by
  unfold e_M_seenBy_0 at hF
  have g0 := zFr.rf (fun r => (q ≤ r ∧ r < q + 12)) (fun _ => False) μ ν
  obtain ⟨μy1, hy1, hF⟩ := zh_let hF
  have gy1 := zFr.put g0 (r := q) (by first | omega | (dsimp only; omega)) hy1
  rcases Decidable.em (x1 < 45000) with cy2 | cy2
  · replace hF := zh_t cy2 hF
    exact zFr.tr gy1 (g_M_seenBy_40  hF) (fun _ h => h) (fun _ h => h)
  · replace hF := zh_f cy2 hF
    rcases Decidable.em (55000 < x1) with cy3 | cy3
    · replace hF := zh_t cy3 hF
      exact zFr.tr gy1 (g_M_seenBy_40  hF) (fun _ h => h) (fun _ h => h)
    · replace hF := zh_f cy3 hF
      obtain ⟨ty4, hty4, hF⟩ := zh_bind hF
      have gty4 := zFr.tr gy1 (fr_M_isSome hty4) (fun r h => by first | exact h | exact h.elim | omega | (revert h; dsimp only; omega)) (fun r h => by first | exact h | exact h.elim | omega | (revert h; dsimp only; omega))
      rcases Decidable.em (ty4.1 = 0) with cy5 | cy5
      · replace hF := zh_t cy5 hF
        exact zFr.tr gty4 (g_M_seenBy_40  hF) (fun _ h => h) (fun _ h => h)
      · replace hF := zh_f cy5 hF
        obtain ⟨ty6, hty6, hF⟩ := zh_bind hF
        have gty6 := zFr.tr gty4 (fr_M_seenIn hty6) (fun r h => by first | exact h | exact h.elim | omega | (revert h; dsimp only; omega)) (fun r h => by first | exact h | exact h.elim | omega | (revert h; dsimp only; omega))
        exact zFr.tr gty6 (g_M_seenBy_41  hF) (fun _ h => h) (fun _ h => h)
theorem fr_M_seenBy {q : Nat} {x1 : Int32} {x2 : Int32} {μ : zI} {ν : zJ} {out : (Int32 × zI × zJ)} (hE : E_M_seenBy q x1 x2 μ ν = some out) : zFr (fun r => (q ≤ r ∧ r < q + 12)) (fun _ => False) μ ν out.2.1 out.2.2 := (g_M_seenBy_0 hE)
theorem g_M_blind_49 {q : Nat} {r19 : Int32 → Int32 → Int32 → zI → zJ → Option (Int32 × zI × zJ)} {x1 : Int32} {x2 : Int32} {x3 : Int32} {s0 : Int32} {s1 : Int32} {μ : zI} {ν : zJ} {out : (Int32 × zI × zJ)} (hr19 : ∀ (x1 : Int32) (x2 : Int32) (x3 : Int32) (μ : zI) (ν : zJ), r19 x1 x2 x3 μ ν = some out → zFr (fun r => (q ≤ r ∧ r < q + 12)) (fun _ => False) μ ν out.2.1 out.2.2) (hF : e_M_blind_49 q r19 x1 x2 x3 s0 s1 μ ν = some out) : zFr (fun r => (q ≤ r ∧ r < q + 12)) (fun _ => False) μ ν out.2.1 out.2.2 := by
  unfold e_M_blind_49 at hF
  have g0 := zFr.rf (fun r => (q ≤ r ∧ r < q + 12)) (fun _ => False) μ ν
  obtain ⟨y1, hy1, hF⟩ := zh_let hF
  exact zFr.tr g0 (hr19 _ _ _ _ _ hF) (fun _ h => h) (fun _ h => h)
theorem g_M_blind_19 {q : Nat}  {out : (Int32 × zI × zJ)} : ∀ (n : Nat) (x1 : Int32) (x2 : Int32) (x3 : Int32) (μ : zI) (ν : zJ), f_M_blind_19 q  n x1 x2 x3 μ ν = some out → zFr (fun r => (q ≤ r ∧ r < q + 12)) (fun _ => False) μ ν out.2.1 out.2.2 := by
  intro n
  induction n with
  | zero => intro x1 x2 x3 μ ν hF; cases hF
  | succ n ih =>
    intro x1 x2 x3 μ ν hF
    dsimp only [f_M_blind_19] at hF
    have g0 := zFr.rf (fun r => (q ≤ r ∧ r < q + 12)) (fun _ => False) μ ν
    rcases Decidable.em (55000 < x3) with cy1 | cy1
    · replace hF := zh_t cy1 hF
      cases hF
      exact g0
    · replace hF := zh_f cy1 hF
      obtain ⟨ty2, hty2, hF⟩ := zh_bind hF
      have gty2 := zFr.tr g0 (fr_M_seenIn hty2) (fun r h => by first | exact h | exact h.elim | omega | (revert h; dsimp only; omega)) (fun r h => by first | exact h | exact h.elim | omega | (revert h; dsimp only; omega))
      rcases (Decidable.em (ty2.1 = (-2))).symm with cy3 | cy3
      · replace hF := zh_f cy3 hF
        exact zFr.tr gty2 (g_M_blind_49 (fun a0 a1 a2 a3 a4 => ih a0 a1 a2 a3 a4) hF) (fun _ h => h) (fun _ h => h)
      · replace hF := zh_t cy3 hF
        exact zFr.tr gty2 (g_M_blind_49 (fun a0 a1 a2 a3 a4 => ih a0 a1 a2 a3 a4) hF) (fun _ h => h) (fun _ h => h)
theorem g_M_blind_0 {q : Nat}  {x1 : Int32} {μ : zI} {ν : zJ} {out : (Int32 × zI × zJ)} (hF : e_M_blind_0 q  x1 μ ν = some out) : zFr (fun r => (q ≤ r ∧ r < q + 12)) (fun _ => False) μ ν out.2.1 out.2.2 := by
  unfold e_M_blind_0 at hF
  have g0 := zFr.rf (fun r => (q ≤ r ∧ r < q + 12)) (fun _ => False) μ ν
  obtain ⟨μy1, hy1, hF⟩ := zh_let hF
  have gy1 := zFr.put g0 (r := q) (by first | omega | (dsimp only; omega)) hy1
  obtain ⟨ty2, hty2, hF⟩ := zh_bind hF
  have gty2 := zFr.tr gy1 (fr_M_isSome hty2) (fun r h => by first | exact h | exact h.elim | omega | (revert h; dsimp only; omega)) (fun r h => by first | exact h | exact h.elim | omega | (revert h; dsimp only; omega))
  rcases (Decidable.em (ty2.1 = 0)).symm with cy3 | cy3
  · replace hF := zh_f cy3 hF
    exact zFr.tr gty2 (g_M_blind_19  zFuel _ _ _ _ _ hF) (fun _ h => h) (fun _ h => h)
  · replace hF := zh_t cy3 hF
    cases hF
    exact gty2
theorem fr_M_blind {q : Nat} {x1 : Int32} {μ : zI} {ν : zJ} {out : (Int32 × zI × zJ)} (hE : E_M_blind q x1 μ ν = some out) : zFr (fun r => (q ≤ r ∧ r < q + 12)) (fun _ => False) μ ν out.2.1 out.2.2 := (g_M_blind_0 hE)
theorem g_M_givenBy_55 {q : Nat}  {x1 : Int32} {x2 : Int32} {x3 : Int32} {μ : zI} {ν : zJ} {out : (Int64 × zI × zJ)} (hF : e_M_givenBy_55 q  x1 x2 x3 μ ν = some out) : zFr (fun r => (q ≤ r ∧ r < q + 12)) (fun r => (q ≤ r ∧ r < q + 12)) μ ν out.2.1 out.2.2 := by
  unfold e_M_givenBy_55 at hF
  have g0 := zFr.rf (fun r => (q ≤ r ∧ r < q + 12)) (fun r => (q ≤ r ∧ r < q + 12)) μ ν
  obtain ⟨ty1, hty1, hF⟩ := zh_bind hF
  have gty1 := zFr.tr g0 (fr_M_runs hty1) (fun r h => by first | exact h | exact h.elim | omega | (revert h; dsimp only; omega)) (fun r h => by first | exact h | exact h.elim | omega | (revert h; dsimp only; omega))
  obtain ⟨y2, hy2, hF⟩ := zh_let hF
  obtain ⟨ty3, hty3, hF⟩ := zh_bind hF
  have gty3 := zFr.tr gty1 (fr_M_comesBack hty3) (fun r h => by first | exact h | exact h.elim | omega | (revert h; dsimp only; omega)) (fun r h => by first | exact h | exact h.elim | omega | (revert h; dsimp only; omega))
  cases hF
  exact gty3
theorem g_M_givenBy_0 {q : Nat}  {x1 : Int32} {x2 : Int32} {x3 : Int32} {μ : zI} {ν : zJ} {out : (Int64 × zI × zJ)} (hF : e_M_givenBy_0 q  x1 x2 x3 μ ν = some out) : zFr (fun r => (q ≤ r ∧ r < q + 12)) (fun r => (q ≤ r ∧ r < q + 12)) μ ν out.2.1 out.2.2 := by
  unfold e_M_givenBy_0 at hF
  have g0 := zFr.rf (fun r => (q ≤ r ∧ r < q + 12)) (fun r => (q ≤ r ∧ r < q + 12)) μ ν
  obtain ⟨ty1, hty1, hF⟩ := zh_bind hF
  have gty1 := zFr.tr g0 (fr_M_goesAside hty1) (fun r h => by first | exact h | exact h.elim | omega | (revert h; dsimp only; omega)) (fun r h => by first | exact h | exact h.elim | omega | (revert h; dsimp only; omega))
  rcases (Decidable.em (x2 = 0)).symm with cy2 | cy2
  · replace hF := zh_f cy2 hF
    rcases (Decidable.em (x2 = 1)).symm with cy3 | cy3
    · replace hF := zh_f cy3 hF
      obtain ⟨μy4, hy4, hF⟩ := zh_let hF
      have gy4 := zFr.put gty1 (r := (q + 7)) (by first | omega | (dsimp only; omega)) hy4
      exact zFr.tr gy4 (g_M_givenBy_55  hF) (fun _ h => h) (fun _ h => h)
    · replace hF := zh_t cy3 hF
      obtain ⟨μy5, hy5, hF⟩ := zh_let hF
      have gy5 := zFr.put gty1 (r := (q + 7)) (by first | omega | (dsimp only; omega)) hy5
      obtain ⟨ty6, hty6, hF⟩ := zh_bind hF
      have gty6 := zFr.tr gy5 (fr_M_startsScan hty6) (fun r h => by first | exact h | exact h.elim | omega | (revert h; dsimp only; omega)) (fun r h => by first | exact h | exact h.elim | omega | (revert h; dsimp only; omega))
      exact zFr.tr gty6 (g_M_givenBy_55  hF) (fun _ h => h) (fun _ h => h)
  · replace hF := zh_t cy2 hF
    obtain ⟨μy7, hy7, hF⟩ := zh_let hF
    have gy7 := zFr.put gty1 (r := (q + 7)) (by first | omega | (dsimp only; omega)) hy7
    obtain ⟨μy8, hy8, hF⟩ := zh_let hF
    have gy8 := zFr.put gy7 (r := (q + 7)) (by first | omega | (dsimp only; omega)) hy8
    exact zFr.tr gy8 (g_M_givenBy_55  hF) (fun _ h => h) (fun _ h => h)
theorem fr_M_givenBy {q : Nat} {x1 : Int32} {x2 : Int32} {x3 : Int32} {μ : zI} {ν : zJ} {out : (Int64 × zI × zJ)} (hE : E_M_givenBy q x1 x2 x3 μ ν = some out) : zFr (fun r => (q ≤ r ∧ r < q + 12)) (fun r => (q ≤ r ∧ r < q + 12)) μ ν out.2.1 out.2.2 := (g_M_givenBy_0 hE)
theorem g_M_bestStep_57 {q : Nat} {r24 : Int32 → Int32 → Int64 → Int32 → zI → zJ → Option (Int32 × zI × zJ)} {x1 : Int32} {x2 : Int32} {w3 : Int64} {x5 : Int32} {w6 : Int64} {μ : zI} {ν : zJ} {out : (Int32 × zI × zJ)} (hr24 : ∀ (x1 : Int32) (x2 : Int32) (w3 : Int64) (x5 : Int32) (μ : zI) (ν : zJ), r24 x1 x2 w3 x5 μ ν = some out → zFr (fun r => (q ≤ r ∧ r < q + 12)) (fun r => (q ≤ r ∧ r < q + 12)) μ ν out.2.1 out.2.2) (hF : e_M_bestStep_57 q r24 x1 x2 w3 x5 w6 μ ν = some out) : zFr (fun r => (q ≤ r ∧ r < q + 12)) (fun r => (q ≤ r ∧ r < q + 12)) μ ν out.2.1 out.2.2 := by
  unfold e_M_bestStep_57 at hF
  have g0 := zFr.rf (fun r => (q ≤ r ∧ r < q + 12)) (fun r => (q ≤ r ∧ r < q + 12)) μ ν
  obtain ⟨y1, hy1, hF⟩ := zh_let hF
  exact zFr.tr g0 (hr24 _ _ _ _ _ _ hF) (fun _ h => h) (fun _ h => h)
theorem g_M_bestStep_24 {q : Nat}  {out : (Int32 × zI × zJ)} : ∀ (n : Nat) (x1 : Int32) (x2 : Int32) (w3 : Int64) (x5 : Int32) (μ : zI) (ν : zJ), f_M_bestStep_24 q  n x1 x2 w3 x5 μ ν = some out → zFr (fun r => (q ≤ r ∧ r < q + 12)) (fun r => (q ≤ r ∧ r < q + 12)) μ ν out.2.1 out.2.2 := by
  intro n
  induction n with
  | zero => intro x1 x2 w3 x5 μ ν hF; cases hF
  | succ n ih =>
    intro x1 x2 w3 x5 μ ν hF
    dsimp only [f_M_bestStep_24] at hF
    have g0 := zFr.rf (fun r => (q ≤ r ∧ r < q + 12)) (fun r => (q ≤ r ∧ r < q + 12)) μ ν
    rcases Decidable.em (64 < x5) with cy1 | cy1
    · replace hF := zh_t cy1 hF
      cases hF
      exact g0
    · replace hF := zh_f cy1 hF
      obtain ⟨ty2, hty2, hF⟩ := zh_bind hF
      have gty2 := zFr.tr g0 (fr_M_givenBy hty2) (fun r h => by first | exact h | exact h.elim | omega | (revert h; dsimp only; omega)) (fun r h => by first | exact h | exact h.elim | omega | (revert h; dsimp only; omega))
      obtain ⟨y3, hy3, hF⟩ := zh_let hF
      rcases Decidable.em (0 < (lg_cmp y3 w3)) with cy4 | cy4
      · replace hF := zh_t cy4 hF
        exact zFr.tr gty2 (g_M_bestStep_57 (fun a0 a1 a2 a3 a4 a5 => ih a0 a1 a2 a3 a4 a5) hF) (fun _ h => h) (fun _ h => h)
      · replace hF := zh_f cy4 hF
        exact zFr.tr gty2 (g_M_bestStep_57 (fun a0 a1 a2 a3 a4 a5 => ih a0 a1 a2 a3 a4 a5) hF) (fun _ h => h) (fun _ h => h)
theorem g_M_bestStep_0 {q : Nat}  {x1 : Int32} {μ : zI} {ν : zJ} {out : (Int32 × zI × zJ)} (hF : e_M_bestStep_0 q  x1 μ ν = some out) : zFr (fun r => (q ≤ r ∧ r < q + 12)) (fun r => (q ≤ r ∧ r < q + 12)) μ ν out.2.1 out.2.2 := by
  unfold e_M_bestStep_0 at hF
  have g0 := zFr.rf (fun r => (q ≤ r ∧ r < q + 12)) (fun r => (q ≤ r ∧ r < q + 12)) μ ν
  obtain ⟨μy1, hy1, hF⟩ := zh_let hF
  have gy1 := zFr.put g0 (r := q) (by first | omega | (dsimp only; omega)) hy1
  obtain ⟨ty2, hty2, hF⟩ := zh_bind hF
  have gty2 := zFr.tr gy1 (fr_M_canTry hty2) (fun r h => by first | exact h | exact h.elim | omega | (revert h; dsimp only; omega)) (fun r h => by first | exact h | exact h.elim | omega | (revert h; dsimp only; omega))
  rcases (Decidable.em (ty2.1 = 0)).symm with cy3 | cy3
  · replace hF := zh_f cy3 hF
    exact zFr.tr gty2 (g_M_bestStep_24  zFuel _ _ _ _ _ _ hF) (fun _ h => h) (fun _ h => h)
  · replace hF := zh_t cy3 hF
    cases hF
    exact gty2
theorem fr_M_bestStep {q : Nat} {x1 : Int32} {μ : zI} {ν : zJ} {out : (Int32 × zI × zJ)} (hE : E_M_bestStep q x1 μ ν = some out) : zFr (fun r => (q ≤ r ∧ r < q + 12)) (fun r => (q ≤ r ∧ r < q + 12)) μ ν out.2.1 out.2.2 := (g_M_bestStep_0 hE)
theorem g_M_bestGap_59 {q : Nat} {r25 : Int32 → Int32 → Int64 → Int32 → zI → zJ → Option (Int32 × zI × zJ)} {x1 : Int32} {x2 : Int32} {w3 : Int64} {x5 : Int32} {w6 : Int64} {μ : zI} {ν : zJ} {out : (Int32 × zI × zJ)} (hr25 : ∀ (x1 : Int32) (x2 : Int32) (w3 : Int64) (x5 : Int32) (μ : zI) (ν : zJ), r25 x1 x2 w3 x5 μ ν = some out → zFr (fun r => (q ≤ r ∧ r < q + 12)) (fun r => (q ≤ r ∧ r < q + 12)) μ ν out.2.1 out.2.2) (hF : e_M_bestGap_59 q r25 x1 x2 w3 x5 w6 μ ν = some out) : zFr (fun r => (q ≤ r ∧ r < q + 12)) (fun r => (q ≤ r ∧ r < q + 12)) μ ν out.2.1 out.2.2 := by
  unfold e_M_bestGap_59 at hF
  have g0 := zFr.rf (fun r => (q ≤ r ∧ r < q + 12)) (fun r => (q ≤ r ∧ r < q + 12)) μ ν
  exact zFr.tr g0 (hr25 _ _ _ _ _ _ hF) (fun _ h => h) (fun _ h => h)
theorem g_M_bestGap_25 {q : Nat}  {out : (Int32 × zI × zJ)} : ∀ (n : Nat) (x1 : Int32) (x2 : Int32) (w3 : Int64) (x5 : Int32) (μ : zI) (ν : zJ), f_M_bestGap_25 q  n x1 x2 w3 x5 μ ν = some out → zFr (fun r => (q ≤ r ∧ r < q + 12)) (fun r => (q ≤ r ∧ r < q + 12)) μ ν out.2.1 out.2.2 := by
  intro n
  induction n with
  | zero => intro x1 x2 w3 x5 μ ν hF; cases hF
  | succ n ih =>
    intro x1 x2 w3 x5 μ ν hF
    dsimp only [f_M_bestGap_25] at hF
    have g0 := zFr.rf (fun r => (q ≤ r ∧ r < q + 12)) (fun r => (q ≤ r ∧ r < q + 12)) μ ν
    rcases Decidable.em (200 < x5) with cy1 | cy1
    · replace hF := zh_t cy1 hF
      cases hF
      exact g0
    · replace hF := zh_f cy1 hF
      obtain ⟨ty2, hty2, hF⟩ := zh_bind hF
      have gty2 := zFr.tr g0 (fr_M_givenBy hty2) (fun r h => by first | exact h | exact h.elim | omega | (revert h; dsimp only; omega)) (fun r h => by first | exact h | exact h.elim | omega | (revert h; dsimp only; omega))
      obtain ⟨y3, hy3, hF⟩ := zh_let hF
      rcases Decidable.em (0 < (lg_cmp y3 w3)) with cy4 | cy4
      · replace hF := zh_t cy4 hF
        exact zFr.tr gty2 (g_M_bestGap_59 (fun a0 a1 a2 a3 a4 a5 => ih a0 a1 a2 a3 a4 a5) hF) (fun _ h => h) (fun _ h => h)
      · replace hF := zh_f cy4 hF
        exact zFr.tr gty2 (g_M_bestGap_59 (fun a0 a1 a2 a3 a4 a5 => ih a0 a1 a2 a3 a4 a5) hF) (fun _ h => h) (fun _ h => h)
theorem g_M_bestGap_0 {q : Nat}  {x1 : Int32} {μ : zI} {ν : zJ} {out : (Int32 × zI × zJ)} (hF : e_M_bestGap_0 q  x1 μ ν = some out) : zFr (fun r => (q ≤ r ∧ r < q + 12)) (fun r => (q ≤ r ∧ r < q + 12)) μ ν out.2.1 out.2.2 := by
  unfold e_M_bestGap_0 at hF
  have g0 := zFr.rf (fun r => (q ≤ r ∧ r < q + 12)) (fun r => (q ≤ r ∧ r < q + 12)) μ ν
  obtain ⟨μy1, hy1, hF⟩ := zh_let hF
  have gy1 := zFr.put g0 (r := q) (by first | omega | (dsimp only; omega)) hy1
  obtain ⟨ty2, hty2, hF⟩ := zh_bind hF
  have gty2 := zFr.tr gy1 (fr_M_canTry hty2) (fun r h => by first | exact h | exact h.elim | omega | (revert h; dsimp only; omega)) (fun r h => by first | exact h | exact h.elim | omega | (revert h; dsimp only; omega))
  rcases (Decidable.em (ty2.1 = 0)).symm with cy3 | cy3
  · replace hF := zh_f cy3 hF
    exact zFr.tr gty2 (g_M_bestGap_25  zFuel _ _ _ _ _ _ hF) (fun _ h => h) (fun _ h => h)
  · replace hF := zh_t cy3 hF
    cases hF
    exact gty2
theorem fr_M_bestGap {q : Nat} {x1 : Int32} {μ : zI} {ν : zJ} {out : (Int32 × zI × zJ)} (hE : E_M_bestGap q x1 μ ν = some out) : zFr (fun r => (q ≤ r ∧ r < q + 12)) (fun r => (q ≤ r ∧ r < q + 12)) μ ν out.2.1 out.2.2 := (g_M_bestGap_0 hE)
theorem g_M_bestWay_56 {q : Nat} {r24 : Int32 → Int32 → Int64 → Int32 → zI → zJ → Option (Int32 × zI × zJ)} {x1 : Int32} {x2 : Int32} {w3 : Int64} {x5 : Int32} {w6 : Int64} {μ : zI} {ν : zJ} {out : (Int32 × zI × zJ)} (hr24 : ∀ (x1 : Int32) (x2 : Int32) (w3 : Int64) (x5 : Int32) (μ : zI) (ν : zJ), r24 x1 x2 w3 x5 μ ν = some out → zFr (fun r => (q ≤ r ∧ r < q + 12)) (fun r => (q ≤ r ∧ r < q + 12)) μ ν out.2.1 out.2.2) (hF : e_M_bestWay_56 q r24 x1 x2 w3 x5 w6 μ ν = some out) : zFr (fun r => (q ≤ r ∧ r < q + 12)) (fun r => (q ≤ r ∧ r < q + 12)) μ ν out.2.1 out.2.2 := by
  unfold e_M_bestWay_56 at hF
  have g0 := zFr.rf (fun r => (q ≤ r ∧ r < q + 12)) (fun r => (q ≤ r ∧ r < q + 12)) μ ν
  exact zFr.tr g0 (hr24 _ _ _ _ _ _ hF) (fun _ h => h) (fun _ h => h)
theorem g_M_bestWay_24 {q : Nat}  {out : (Int32 × zI × zJ)} : ∀ (n : Nat) (x1 : Int32) (x2 : Int32) (w3 : Int64) (x5 : Int32) (μ : zI) (ν : zJ), f_M_bestWay_24 q  n x1 x2 w3 x5 μ ν = some out → zFr (fun r => (q ≤ r ∧ r < q + 12)) (fun r => (q ≤ r ∧ r < q + 12)) μ ν out.2.1 out.2.2 := by
  intro n
  induction n with
  | zero => intro x1 x2 w3 x5 μ ν hF; cases hF
  | succ n ih =>
    intro x1 x2 w3 x5 μ ν hF
    dsimp only [f_M_bestWay_24] at hF
    have g0 := zFr.rf (fun r => (q ≤ r ∧ r < q + 12)) (fun r => (q ≤ r ∧ r < q + 12)) μ ν
    rcases Decidable.em (2 < x5) with cy1 | cy1
    · replace hF := zh_t cy1 hF
      cases hF
      exact g0
    · replace hF := zh_f cy1 hF
      obtain ⟨ty2, hty2, hF⟩ := zh_bind hF
      have gty2 := zFr.tr g0 (fr_M_givenBy hty2) (fun r h => by first | exact h | exact h.elim | omega | (revert h; dsimp only; omega)) (fun r h => by first | exact h | exact h.elim | omega | (revert h; dsimp only; omega))
      obtain ⟨y3, hy3, hF⟩ := zh_let hF
      rcases Decidable.em (0 < (lg_cmp y3 w3)) with cy4 | cy4
      · replace hF := zh_t cy4 hF
        exact zFr.tr gty2 (g_M_bestWay_56 (fun a0 a1 a2 a3 a4 a5 => ih a0 a1 a2 a3 a4 a5) hF) (fun _ h => h) (fun _ h => h)
      · replace hF := zh_f cy4 hF
        exact zFr.tr gty2 (g_M_bestWay_56 (fun a0 a1 a2 a3 a4 a5 => ih a0 a1 a2 a3 a4 a5) hF) (fun _ h => h) (fun _ h => h)
theorem g_M_bestWay_0 {q : Nat}  {x1 : Int32} {μ : zI} {ν : zJ} {out : (Int32 × zI × zJ)} (hF : e_M_bestWay_0 q  x1 μ ν = some out) : zFr (fun r => (q ≤ r ∧ r < q + 12)) (fun r => (q ≤ r ∧ r < q + 12)) μ ν out.2.1 out.2.2 := by
  unfold e_M_bestWay_0 at hF
  have g0 := zFr.rf (fun r => (q ≤ r ∧ r < q + 12)) (fun r => (q ≤ r ∧ r < q + 12)) μ ν
  obtain ⟨μy1, hy1, hF⟩ := zh_let hF
  have gy1 := zFr.put g0 (r := q) (by first | omega | (dsimp only; omega)) hy1
  obtain ⟨ty2, hty2, hF⟩ := zh_bind hF
  have gty2 := zFr.tr gy1 (fr_M_canTry hty2) (fun r h => by first | exact h | exact h.elim | omega | (revert h; dsimp only; omega)) (fun r h => by first | exact h | exact h.elim | omega | (revert h; dsimp only; omega))
  rcases (Decidable.em (ty2.1 = 0)).symm with cy3 | cy3
  · replace hF := zh_f cy3 hF
    exact zFr.tr gty2 (g_M_bestWay_24  zFuel _ _ _ _ _ _ hF) (fun _ h => h) (fun _ h => h)
  · replace hF := zh_t cy3 hF
    cases hF
    exact gty2
theorem fr_M_bestWay {q : Nat} {x1 : Int32} {μ : zI} {ν : zJ} {out : (Int32 × zI × zJ)} (hE : E_M_bestWay q x1 μ ν = some out) : zFr (fun r => (q ≤ r ∧ r < q + 12)) (fun r => (q ≤ r ∧ r < q + 12)) μ ν out.2.1 out.2.2 := (g_M_bestWay_0 hE)
theorem g_M_ifNear_20 {q : Nat}  {x1 : Int32} {x2 : Int32} {μ : zI} {ν : zJ} {out : (Int32 × zI × zJ)} (hF : e_M_ifNear_20 q  x1 x2 μ ν = some out) : zFr (fun r => (q ≤ r ∧ r < q + 12)) (fun r => (q ≤ r ∧ r < q + 12)) μ ν out.2.1 out.2.2 := by
  unfold e_M_ifNear_20 at hF
  have g0 := zFr.rf (fun r => (q ≤ r ∧ r < q + 12)) (fun r => (q ≤ r ∧ r < q + 12)) μ ν
  cases hF
  exact g0
theorem g_M_ifNear_68 {q : Nat} {r31 : Int32 → Int32 → Int32 → Int32 → zI → zJ → Option (Int32 × zI × zJ)} {x1 : Int32} {x2 : Int32} {x3 : Int32} {x4 : Int32} {s0 : Int32} {s1 : Int32} {μ : zI} {ν : zJ} {out : (Int32 × zI × zJ)} (hr31 : ∀ (x1 : Int32) (x2 : Int32) (x3 : Int32) (x4 : Int32) (μ : zI) (ν : zJ), r31 x1 x2 x3 x4 μ ν = some out → zFr (fun r => (q ≤ r ∧ r < q + 12)) (fun r => (q ≤ r ∧ r < q + 12)) μ ν out.2.1 out.2.2) (hF : e_M_ifNear_68 q r31 x1 x2 x3 x4 s0 s1 μ ν = some out) : zFr (fun r => (q ≤ r ∧ r < q + 12)) (fun r => (q ≤ r ∧ r < q + 12)) μ ν out.2.1 out.2.2 := by
  unfold e_M_ifNear_68 at hF
  have g0 := zFr.rf (fun r => (q ≤ r ∧ r < q + 12)) (fun r => (q ≤ r ∧ r < q + 12)) μ ν
  obtain ⟨y1, hy1, hF⟩ := zh_let hF
  exact zFr.tr g0 (hr31 _ _ _ _ _ _ hF) (fun _ h => h) (fun _ h => h)
theorem g_M_ifNear_31 {q : Nat}  {out : (Int32 × zI × zJ)} : ∀ (n : Nat) (x1 : Int32) (x2 : Int32) (x3 : Int32) (x4 : Int32) (μ : zI) (ν : zJ), f_M_ifNear_31 q  n x1 x2 x3 x4 μ ν = some out → zFr (fun r => (q ≤ r ∧ r < q + 12)) (fun r => (q ≤ r ∧ r < q + 12)) μ ν out.2.1 out.2.2 := by
  intro n
  induction n with
  | zero => intro x1 x2 x3 x4 μ ν hF; cases hF
  | succ n ih =>
    intro x1 x2 x3 x4 μ ν hF
    dsimp only [f_M_ifNear_31] at hF
    have g0 := zFr.rf (fun r => (q ≤ r ∧ r < q + 12)) (fun r => (q ≤ r ∧ r < q + 12)) μ ν
    rcases Decidable.em (x1 ≤ x4) with cy1 | cy1
    · replace hF := zh_t cy1 hF
      obtain ⟨ty2, hty2, hF⟩ := zh_bind hF
      have gty2 := zFr.tr g0 (fr_M_comesBack hty2) (fun r h => by first | exact h | exact h.elim | omega | (revert h; dsimp only; omega)) (fun r h => by first | exact h | exact h.elim | omega | (revert h; dsimp only; omega))
      cases hF
      exact gty2
    · replace hF := zh_f cy1 hF
      obtain ⟨ty3, hty3, hF⟩ := zh_bind hF
      have gty3 := zFr.tr g0 (fr_M_ticksOnce hty3) (fun r h => by first | exact h | exact h.elim | omega | (revert h; dsimp only; omega)) (fun r h => by first | exact h | exact h.elim | omega | (revert h; dsimp only; omega))
      obtain ⟨ty4, hty4, hF⟩ := zh_bind hF
      have gty4 := zFr.tr gty3 (fr_M_bestNow hty4) (fun r h => by first | exact h | exact h.elim | omega | (revert h; dsimp only; omega)) (fun r h => by first | exact h | exact h.elim | omega | (revert h; dsimp only; omega))
      rcases Decidable.em ((lg_cmp (100 * (Int32.toInt64 (ty3.1 q 30))) ((Int32.toInt64 x2) * (Int32.toInt64 ty4.1))) < 0) with cy5 | cy5
      · replace hF := zh_t cy5 hF
        exact zFr.tr gty4 (g_M_ifNear_68 (fun a0 a1 a2 a3 a4 a5 => ih a0 a1 a2 a3 a4 a5) hF) (fun _ h => h) (fun _ h => h)
      · replace hF := zh_f cy5 hF
        exact zFr.tr gty4 (g_M_ifNear_68 (fun a0 a1 a2 a3 a4 a5 => ih a0 a1 a2 a3 a4 a5) hF) (fun _ h => h) (fun _ h => h)
theorem g_M_ifNear_0 {q : Nat}  {x1 : Int32} {x2 : Int32} {μ : zI} {ν : zJ} {out : (Int32 × zI × zJ)} (hF : e_M_ifNear_0 q  x1 x2 μ ν = some out) : zFr (fun r => (q ≤ r ∧ r < q + 12)) (fun r => (q ≤ r ∧ r < q + 12)) μ ν out.2.1 out.2.2 := by
  unfold e_M_ifNear_0 at hF
  have g0 := zFr.rf (fun r => (q ≤ r ∧ r < q + 12)) (fun r => (q ≤ r ∧ r < q + 12)) μ ν
  obtain ⟨μy1, hy1, hF⟩ := zh_let hF
  have gy1 := zFr.put g0 (r := q) (by first | omega | (dsimp only; omega)) hy1
  obtain ⟨ty2, hty2, hF⟩ := zh_bind hF
  have gty2 := zFr.tr gy1 (fr_M_canTry hty2) (fun r h => by first | exact h | exact h.elim | omega | (revert h; dsimp only; omega)) (fun r h => by first | exact h | exact h.elim | omega | (revert h; dsimp only; omega))
  rcases Decidable.em (ty2.1 = 0) with cy3 | cy3
  · replace hF := zh_t cy3 hF
    exact zFr.tr gty2 (g_M_ifNear_20  hF) (fun _ h => h) (fun _ h => h)
  · replace hF := zh_f cy3 hF
    obtain ⟨ty4, hty4, hF⟩ := zh_bind hF
    have gty4 := zFr.tr gty2 (fr_M_isPart hty4) (fun r h => by first | exact h | exact h.elim | omega | (revert h; dsimp only; omega)) (fun r h => by first | exact h | exact h.elim | omega | (revert h; dsimp only; omega))
    rcases (Decidable.em (ty4.1 = 0)).symm with cy5 | cy5
    · replace hF := zh_f cy5 hF
      obtain ⟨ty6, hty6, hF⟩ := zh_bind hF
      have gty6 := zFr.tr gty4 (fr_M_goesAside hty6) (fun r h => by first | exact h | exact h.elim | omega | (revert h; dsimp only; omega)) (fun r h => by first | exact h | exact h.elim | omega | (revert h; dsimp only; omega))
      exact zFr.tr gty6 (g_M_ifNear_31  zFuel _ _ _ _ _ _ hF) (fun _ h => h) (fun _ h => h)
    · replace hF := zh_t cy5 hF
      exact zFr.tr gty4 (g_M_ifNear_20  hF) (fun _ h => h) (fun _ h => h)
theorem fr_M_ifNear {q : Nat} {x1 : Int32} {x2 : Int32} {μ : zI} {ν : zJ} {out : (Int32 × zI × zJ)} (hE : E_M_ifNear q x1 x2 μ ν = some out) : zFr (fun r => (q ≤ r ∧ r < q + 12)) (fun r => (q ≤ r ∧ r < q + 12)) μ ν out.2.1 out.2.2 := (g_M_ifNear_0 hE)
theorem g_M_count_0 {q : Nat}  {x1 : Int32} {μ : zI} {ν : zJ} {out : (Int32 × zI × zJ)} (hF : e_M_count_0 q  x1 μ ν = some out) : zFr (fun r => (q ≤ r ∧ r < q + 12)) (fun _ => False) μ ν out.2.1 out.2.2 := by
  unfold e_M_count_0 at hF
  have g0 := zFr.rf (fun r => (q ≤ r ∧ r < q + 12)) (fun _ => False) μ ν
  obtain ⟨μy1, hy1, hF⟩ := zh_let hF
  have gy1 := zFr.put g0 (r := q) (by first | omega | (dsimp only; omega)) hy1
  by_cases cy2 : x1 = 0
  · replace hF := zh_t cy2 hF
    cases hF
    exact gy1
  · replace hF := zh_f cy2 hF
    by_cases cy3 : x1 = 1
    · replace hF := zh_t cy3 hF
      cases hF
      exact gy1
    · replace hF := zh_f cy3 hF
      by_cases cy4 : x1 = 2
      · replace hF := zh_t cy4 hF
        cases hF
        exact gy1
      · replace hF := zh_f cy4 hF
        by_cases cy5 : x1 = 3
        · replace hF := zh_t cy5 hF
          cases hF
          exact gy1
        · replace hF := zh_f cy5 hF
          cases hF
          exact gy1
theorem fr_M_count {q : Nat} {x1 : Int32} {μ : zI} {ν : zJ} {out : (Int32 × zI × zJ)} (hE : E_M_count q x1 μ ν = some out) : zFr (fun r => (q ≤ r ∧ r < q + 12)) (fun _ => False) μ ν out.2.1 out.2.2 := (g_M_count_0 hE)
