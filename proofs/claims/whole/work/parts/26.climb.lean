/-! steeperWay; climbed. -/
def upC (pw : Nat → Int32) (x : Nat) : Int32 := if x + 1 < 1000 then pw (x + 1) else 0
def dnC (pw : Nat → Int32) (x : Nat) : Int32 := if 0 < x then pw (x - 1) else 0
/-- where more power is: 1, -1, 0 -/
def wyI (pw : Nat → Int32) (x : Nat) : Int32 := if pw x < upC pw x then (if upC pw x ≤ dnC pw x then -1 else 1) else if pw x < dnC pw x then (if upC pw x ≤ dnC pw x then -1 else 1) else 0
theorem nI_m1 {x : Nat} (h : 0 < x) : nI x - 1 = nI (x - 1) := by
  obtain ⟨k, rfl⟩ : ∃ k, x = k + 1 := ⟨x - 1, by omega⟩
  exact nI_pred k
theorem RP.way {b q n : Nat} {μ κ : zI} {ν : zJ} (h : RP b q n μ κ) {x : Nat} (hx : x < 1000) : E_Panel_steeperWay b (nI x) μ ν = some (wyI (fun k => pP (mLit q κ) (κ (q + 5)) n (nI k)) x, μ, ν) := by
  have eu : E_Panel_powerAt b (nI x + 1) μ ν = some (upC (fun k => pP (mLit q κ) (κ (q + 5)) n (nI k)) x, μ, ν) := by
    rw [nI_1, upC]
    by_cases c : x + 1 < 1000
    · rw [if_pos c]
      exact (h.pw (ν := ν) (τ := fun _ _ => 0) c).1
    · rw [if_neg c]
      have : x = 999 := by omega
      subst this
      exact C_powerAt_out (Or.inr (by decide))
  have ed : E_Panel_powerAt b (nI x - 1) μ ν = some (dnC (fun k => pP (mLit q κ) (κ (q + 5)) n (nI k)) x, μ, ν) := by
    rw [dnC]
    by_cases c : 0 < x
    · rw [if_pos c, nI_m1 c]
      exact (h.pw (ν := ν) (τ := fun _ _ => 0) (show x - 1 < 1000 by omega)).1
    · rw [if_neg c]
      have : x = 0 := by omega
      subst this
      exact C_powerAt_out (Or.inl (by decide))
  rw [E_Panel_steeperWay, e_Panel_steeperWay_0, (h.pw (ν := ν) (τ := fun _ _ => 0) hx).1]
  simp only [Option.bind_some, zlet]
  rw [eu]
  simp only [Option.bind_some]
  rw [ed]
  simp only [Option.bind_some, e_Panel_steeperWay_36, e_Panel_steeperWay_47, wyI]
  split
  · split <;> rfl
  · split
    · split <;> rfl
    · rfl
/-- k steps of the climb -/
def clI (pw : Nat → Int32) : Nat → Nat → Nat
  | 0, x => x
  | k + 1, x => if wyI pw x = 0 then x else if wyI pw x = 1 then clI pw k (x + 1) else clI pw k (x - 1)
theorem wyI_3 (pw : Nat → Int32) (x : Nat) : wyI pw x = 0 ∨ (wyI pw x = 1 ∧ dnC pw x < upC pw x ∧ (pw x < upC pw x ∨ pw x < dnC pw x)) ∨ (wyI pw x = -1 ∧ upC pw x ≤ dnC pw x ∧ (pw x < upC pw x ∨ pw x < dnC pw x)) := by
  unfold wyI
  by_cases a : pw x < upC pw x
  · rw [if_pos a]
    by_cases c : upC pw x ≤ dnC pw x
    · rw [if_pos c]; exact Or.inr (Or.inr ⟨rfl, c, Or.inl a⟩)
    · rw [if_neg c]; exact Or.inr (Or.inl ⟨rfl, Int32.not_le.mp c, Or.inl a⟩)
  · rw [if_neg a]
    by_cases b : pw x < dnC pw x
    · rw [if_pos b]
      by_cases c : upC pw x ≤ dnC pw x
      · rw [if_pos c]; exact Or.inr (Or.inr ⟨rfl, c, Or.inr b⟩)
      · rw [if_neg c]; exact Or.inr (Or.inl ⟨rfl, Int32.not_le.mp c, Or.inr b⟩)
    · rw [if_neg b]; exact Or.inl rfl
/-- one step leads to more -/
theorem wyI_up {pw : Nat → Int32} (h0 : ∀ k, k < 1000 → 0 ≤ (pw k).toInt) {x : Nat} (hx : x < 1000) (h : wyI pw x = 1) : x + 1 < 1000 ∧ (pw x).toInt < (pw (x + 1)).toInt := by
  have z := h0 x hx
  rcases wyI_3 pw x with c | ⟨-, c, d⟩ | ⟨c, -⟩
  · rw [h] at c; exact absurd c (by decide)
  · have c' := ilt.mp c
    have e : (pw x).toInt < (upC pw x).toInt := by
      rcases d with d | d
      · exact ilt.mp d
      · have := ilt.mp d; omega
    by_cases hx1 : x + 1 < 1000
    · rw [upC, if_pos hx1] at e
      exact ⟨hx1, e⟩
    · rw [upC, if_neg hx1, show (0 : Int32).toInt = 0 from rfl] at e
      omega
  · rw [h] at c; exact absurd c (by decide)
theorem wyI_dn {pw : Nat → Int32} (h0 : ∀ k, k < 1000 → 0 ≤ (pw k).toInt) {x : Nat} (hx : x < 1000) (h : wyI pw x = -1) : 0 < x ∧ (pw x).toInt < (pw (x - 1)).toInt := by
  have z := h0 x hx
  rcases wyI_3 pw x with c | ⟨c, -⟩ | ⟨-, c, d⟩
  · rw [h] at c; exact absurd c (by decide)
  · rw [h] at c; exact absurd c (by decide)
  · have c' := ile.mp c
    have e : (pw x).toInt < (dnC pw x).toInt := by
      rcases d with d | d
      · have := ilt.mp d; omega
      · exact ilt.mp d
    by_cases hx1 : 0 < x
    · rw [dnC, if_pos hx1] at e
      exact ⟨hx1, e⟩
    · rw [dnC, if_neg hx1, show (0 : Int32).toInt = 0 from rfl] at e
      omega
theorem wyI_cases (pw : Nat → Int32) (x : Nat) : wyI pw x = 0 ∨ wyI pw x = 1 ∨ wyI pw x = -1 := by
  rcases wyI_3 pw x with c | ⟨c, -⟩ | ⟨c, -⟩
  · exact Or.inl c
  · exact Or.inr (Or.inl c)
  · exact Or.inr (Or.inr c)
theorem clI_up {pw : Nat → Int32} (h0 : ∀ k, k < 1000 → 0 ≤ (pw k).toInt) : ∀ k x, x < 1000 → 1000 ≤ x + k → (0 < x → (pw (x - 1)).toInt < (pw x).toInt) → wyI pw (clI pw k x) = 0 := by
  intro k
  induction k with
  | zero => intro x hx hk _; omega
  | succ k ih =>
    intro x hx hk hp
    rw [clI]
    rcases wyI_cases pw x with c | c | c
    · rw [if_pos c]; exact c
    · rw [if_neg (by rw [c]; decide), if_pos c]
      have u := wyI_up h0 hx c
      exact ih (x + 1) u.1 (by omega) (fun _ => u.2)
    · have u := wyI_dn h0 hx c
      have := hp u.1
      omega
theorem clI_dn {pw : Nat → Int32} (h0 : ∀ k, k < 1000 → 0 ≤ (pw k).toInt) : ∀ k x, x < k → x + 1 < 1000 → (pw (x + 1)).toInt < (pw x).toInt → wyI pw (clI pw k x) = 0 := by
  intro k
  induction k with
  | zero => intro x hx _ _; omega
  | succ k ih =>
    intro x hk hx hp
    rw [clI]
    rcases wyI_cases pw x with c | c | c
    · rw [if_pos c]; exact c
    · have u := wyI_up h0 (show x < 1000 by omega) c
      omega
    · rw [if_neg (by rw [c]; decide), if_neg (by rw [c]; decide)]
      have u := wyI_dn h0 (show x < 1000 by omega) c
      refine ih (x - 1) (by omega) (by omega) ?_
      rw [show x - 1 + 1 = x by omega]
      exact u.2
theorem clI_end {pw : Nat → Int32} (h0 : ∀ k, k < 1000 → 0 ≤ (pw k).toInt) {x : Nat} (hx : x < 1000) : wyI pw (clI pw 1000 x) = 0 := by
  rw [show (1000 : Nat) = 999 + 1 from rfl, clI]
  rcases wyI_cases pw x with c | c | c
  · rw [if_pos c]; exact c
  · rw [if_neg (by rw [c]; decide), if_pos c]
    have u := wyI_up h0 hx c
    exact clI_up h0 999 (x + 1) u.1 (by omega) (fun _ => u.2)
  · rw [if_neg (by rw [c]; decide), if_neg (by rw [c]; decide)]
    have u := wyI_dn h0 hx c
    refine clI_dn h0 999 (x - 1) (by omega) (by omega) ?_
    rw [show x - 1 + 1 = x by omega]
    exact u.2
theorem RP.p0 {b q n : Nat} {μ κ : zI} (h : RP b q n μ κ) : ∀ k, k < 1000 → 0 ≤ ((fun k => pP (mLit q κ) (κ (q + 5)) n (nI k)) k).toInt := fun k hk => (pP_b h.ok (x := nI k) (by rw [nIt (by omega)]; omega) (by rw [nIt (by omega)]; omega)).2.1
theorem C_climb_f {q n : Nat} {μ κ : zI} {ν : zJ} {w : Int32} (h : RP 4 q n μ κ) : ∀ (j i x f : Nat), i + j = 1000 → j < f → x < 1000 → f_S_climbed_13 f w (nI x) (nI i) μ ν = some (nI (clI (fun k => pP (mLit q κ) (κ (q + 5)) n (nI k)) j x), μ, ν) := by
  intro j
  induction j with
  | zero =>
    intro i x f hi hf hx
    have : i = 1000 := by omega
    subst this
    cases f with
    | zero => omega
    | succ f => rw [f_S_climbed_13, if_pos (show (1000 : Int32) ≤ nI 1000 by decide), e_S_climbed_52, clI]
  | succ j ih =>
    intro i x f hi hf hx
    cases f with
    | zero => omega
    | succ f =>
      rw [f_S_climbed_13, if_neg (lge (c := 1000) (k := i) 1000 rfl (by omega) (by decide)), h.way hx]
      simp only [Option.bind_some, zlet]
      rw [clI]
      rcases wyI_cases (fun k => pP (mLit q κ) (κ (q + 5)) n (nI k)) x with c | c | c
      · rw [if_pos c, if_pos c, e_S_climbed_52]
      · have u := wyI_up h.p0 hx c
        rw [c, if_neg (show ¬ (1 : Int32) = 0 by decide), if_neg (show ¬ (1 : Int32) = 0 by decide), if_pos rfl, nI_1, nI_1]
        exact ih (i + 1) (x + 1) f (by omega) (by omega) u.1
      · have u := wyI_dn h.p0 hx c
        have e : nI x + (-1) = nI (x - 1) := sb_m1 u.1
        rw [c, if_neg (show ¬ (-1 : Int32) = 0 by decide), if_neg (show ¬ (-1 : Int32) = 0 by decide), if_neg (show ¬ (-1 : Int32) = 1 by decide), e, nI_1]
        exact ih (i + 1) (x - 1) f (by omega) (by omega) (by omega)
