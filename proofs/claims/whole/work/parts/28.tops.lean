/-! tops; top. -/
/-- the last point of the level that goes on from e -/
def plE (pw : Nat → Int32) : Nat → Nat → Nat
  | 0, e => e
  | j + 1, e => if pw (e + 1) = pw e then plE pw j (e + 1) else e
def isT (pw : Nat → Int32) (x : Nat) : Bool := decide (dnC pw x < pw x) && !decide (pw x ≤ upC pw (plE pw (999 - x) x))
theorem plE_y {pw : Nat → Int32} {j e : Nat} (c : pw (e + 1) = pw e) : plE pw (j + 1) e = plE pw j (e + 1) := by rw [plE, if_pos c]
theorem plE_n {pw : Nat → Int32} {j e : Nat} (c : ¬ pw (e + 1) = pw e) : plE pw (j + 1) e = e := by rw [plE, if_neg c]
theorem plE_b (pw : Nat → Int32) : ∀ j e, e + j = 999 → e ≤ plE pw j e ∧ plE pw j e < 1000 ∧ pw (plE pw j e) = pw e := by
  intro j
  induction j with
  | zero => intro e h; exact ⟨Nat.le_refl _, by show e < 1000; omega, rfl⟩
  | succ j ih =>
    intro e h
    rw [plE]
    split
    · rename_i c
      have u := ih (e + 1) (by omega)
      exact ⟨by omega, u.2.1, by rw [u.2.2, c]⟩
    · exact ⟨Nat.le_refl _, by omega, rfl⟩
theorem plE_in (pw : Nat → Int32) : ∀ j e, e + j = 999 → ∀ y, e < y → y ≤ plE pw j e → pw y = pw (y - 1) := by
  intro j
  induction j with
  | zero => intro e h y h1 h2; rw [plE] at h2; omega
  | succ j ih =>
    intro e h y h1 h2
    rw [plE] at h2
    split at h2
    · rename_i c
      by_cases hy : y = e + 1
      · subst hy; exact c
      · exact ih (e + 1) (by omega) y (by omega) h2
    · omega
theorem isT_no {pw : Nat → Int32} {y : Nat} (h : pw y = pw (y - 1)) (hy : 0 < y) : isT pw y = false := by
  unfold isT dnC
  rw [if_pos hy, h, decide_eq_false (fun hh => Int32.lt_irrefl hh), Bool.false_and]
theorem RP.up {b q n : Nat} {μ κ : zI} {ν : zJ} (h : RP b q n μ κ) {x : Nat} (hx : x < 1000) : E_Panel_powerAt b (nI x + 1) μ ν = some (upC (fun k => pP (mLit q κ) (κ (q + 5)) n (nI k)) x, μ, ν) := by
  rw [nI_1, upC]
  by_cases c : x + 1 < 1000
  · rw [if_pos c]
    exact (h.pw (ν := ν) (τ := fun _ _ => 0) c).1
  · rw [if_neg c]
    have : x = 999 := by omega
    subst this
    exact C_powerAt_out (Or.inr (by decide))
theorem RP.dn {b q n : Nat} {μ κ : zI} {ν : zJ} (h : RP b q n μ κ) {x : Nat} (hx : x < 1000) : E_Panel_powerAt b (nI x - 1) μ ν = some (dnC (fun k => pP (mLit q κ) (κ (q + 5)) n (nI k)) x, μ, ν) := by
  rw [dnC]
  by_cases c : 0 < x
  · rw [if_pos c, nI_m1 c]
    exact (h.pw (ν := ν) (τ := fun _ _ => 0) (show x - 1 < 1000 by omega)).1
  · rw [if_neg c]
    have : x = 0 := by omega
    subst this
    exact C_powerAt_out (Or.inl (by decide))
theorem C_topEnd_f {b q n : Nat} {μ κ : zI} {ν : zJ} {w v : Int32} (h : RP b q n μ κ) : ∀ (j e f : Nat), e + j = 999 → j < f → pP (mLit q κ) (κ (q + 5)) n (nI e) = v → f_Panel_topEnd_26 b f w v (nI e) (nI (e + 1)) μ ν = some (if v ≤ upC (fun k => pP (mLit q κ) (κ (q + 5)) n (nI k)) (plE (fun k => pP (mLit q κ) (κ (q + 5)) n (nI k)) j e) then -1 else nI (plE (fun k => pP (mLit q κ) (κ (q + 5)) n (nI k)) j e), μ, ν) := by
  have fin : ∀ (e : Nat) (y : Int32), e < 1000 → e_Panel_topEnd_53 b w v (nI e) y μ ν = some (if v ≤ upC (fun k => pP (mLit q κ) (κ (q + 5)) n (nI k)) e then -1 else nI e, μ, ν) := by
    intro e y he
    rw [e_Panel_topEnd_53, ob_eq (h.up he)]
    by_cases c : v ≤ upC (fun k => pP (mLit q κ) (κ (q + 5)) n (nI k)) e
    · rw [if_pos c, if_pos c, e_Panel_topEnd_69]
    · rw [if_neg c, if_neg c, e_Panel_topEnd_69]
  intro j
  induction j with
  | zero =>
    intro e f he hf hv
    have : e = 999 := by omega
    subst this
    cases f with
    | zero => omega
    | succ f => rw [f_Panel_topEnd_26, if_pos (show (1000 : Int32) ≤ nI (999 + 1) by decide), fin 999 _ (by omega), plE]
  | succ j ih =>
    intro e f he hf hv
    cases f with
    | zero => omega
    | succ f =>
      rw [f_Panel_topEnd_26, if_neg (lge (c := 1000) (k := e + 1) 1000 rfl (by omega) (by decide)), ob_eq (h.pw (ν := ν) (τ := fun _ _ => 0) (show e + 1 < 1000 by omega)).1]
      by_cases c : pP (mLit q κ) (κ (q + 5)) n (nI (e + 1)) = v
      · rw [if_pos c, plE_y (pw := fun k => pP (mLit q κ) (κ (q + 5)) n (nI k)) (c.trans hv.symm), nI_1]
        exact ih (e + 1) f (by omega) (by omega) c
      · rw [if_neg c, plE_n (pw := fun k => pP (mLit q κ) (κ (q + 5)) n (nI k)) (fun d => c (d.trans hv))]
        exact fin e _ (by omega)
theorem RP.topEnd {b q n : Nat} {μ κ : zI} {ν : zJ} (h : RP b q n μ κ) {x : Nat} (hx : x < 1000) : E_Panel_topEnd b (nI x) μ ν = some (if isT (fun k => pP (mLit q κ) (κ (q + 5)) n (nI k)) x = true then nI (plE (fun k => pP (mLit q κ) (κ (q + 5)) n (nI k)) (999 - x) x) else -1, μ, ν) := by
  have hF := zFuel_1001
  rw [E_Panel_topEnd, e_Panel_topEnd_0, ob_eq (h.pw (ν := ν) (τ := fun _ _ => 0) hx).1, zlet_eq, ob_eq (h.dn hx)]
  unfold isT
  by_cases c : dnC (fun k => pP (mLit q κ) (κ (q + 5)) n (nI k)) x < pP (mLit q κ) (κ (q + 5)) n (nI x)
  · rw [if_pos c, zlet_eq, nI_1, C_topEnd_f h (999 - x) x zFuel (by omega) (by omega) rfl, decide_eq_true c, Bool.true_and]
    by_cases d : pP (mLit q κ) (κ (q + 5)) n (nI x) ≤ upC (fun k => pP (mLit q κ) (κ (q + 5)) n (nI k)) (plE (fun k => pP (mLit q κ) (κ (q + 5)) n (nI k)) (999 - x) x)
    · rw [if_pos d, decide_eq_true d]; rfl
    · rw [if_neg d, decide_eq_false d]; rfl
  · rw [if_neg c, decide_eq_false c, Bool.false_and]; rfl
