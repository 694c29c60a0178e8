/-! bestShare; climbed. -/
theorem T_most18 {μ : zI} {ν : zJ} : E_Told_mostOf 18 μ ν = some (99, μ, ν) := rfl
theorem T_least18 {μ : zI} {ν : zJ} : E_Told_leastOf 18 μ ν = some (1, μ, ν) := rfl
theorem S_has {n : Nat} {μ : zI} {ν : zJ} (hn : μ (4 + 3) 0 = nI n) (h6 : n ≤ 6) : E_S_hasModules μ ν = some (if n = 0 then 0 else 1, μ, ν) := by
  rw [E_S_hasModules, e_S_hasModules_0, hn]
  by_cases c : n = 0
  · subst c
    rw [if_pos rfl]
    rfl
  · rw [if_neg c, if_neg (nI_nle (by omega) (by omega))]
    rfl
/-- the best share of the first k, and its power -/
def bsS (q n : Nat) (κ : zI) : Nat → Int32 × Int32
  | 0 => (-1, -1)
  | k + 1 => if (bsS q n κ k).2 < pP (mLit q κ) (κ (q + 5)) n (nI (ptS q n κ (nI (k + 1)))) then (nI (k + 1), pP (mLit q κ) (κ (q + 5)) n (nI (ptS q n κ (nI (k + 1))))) else bsS q n κ k
theorem C_share_f {q n : Nat} {μ κ : zI} {ν : zJ} (h : RP 4 q n μ κ) : ∀ (j k f : Nat), k + j = 99 → j < f → f_S_bestShare_20 f (bsS q n κ k).1 (bsS q n κ k).2 (nI (k + 1)) μ ν = some ((bsS q n κ 99).1, μ, ν) := by
  intro j
  induction j with
  | zero =>
    intro k f hk hf
    have : k = 99 := by omega
    subst this
    cases f with
    | zero => omega
    | succ f =>
      rw [f_S_bestShare_20, T_most18]
      simp only [Option.bind_some]
      rw [if_pos (show (99 : Int32) < nI (99 + 1) by decide)]
  | succ j ih =>
    intro k f hk hf
    cases f with
    | zero => omega
    | succ f =>
      have hx : (nI (k + 1)).toInt = ((k + 1 : Nat) : Int) := nIt (by omega)
      obtain ⟨s1, s2, -⟩ := h.share (ν := ν) (τ := fun _ _ => 0) (x := nI (k + 1)) (by rw [hx]; omega) (by rw [hx]; omega)
      rw [f_S_bestShare_20, T_most18]
      simp only [Option.bind_some]
      rw [if_neg (show ¬ (99 : Int32) < nI (k + 1) by rw [ilt, hx, show (99 : Int32).toInt = 99 from rfl]; omega), s2]
      simp only [Option.bind_some]
      rw [(h.pw (ν := ν) (τ := fun _ _ => 0) s1).1]
      simp only [Option.bind_some, zlet]
      have := ih (k + 1) f (by omega) (by omega)
      rw [bsS] at this
      by_cases c : (bsS q n κ k).2 < pP (mLit q κ) (κ (q + 5)) n (nI (ptS q n κ (nI (k + 1))))
      · rw [if_neg (Int32.not_le.mpr c), e_S_bestShare_63, nI_1]
        rw [if_pos c] at this
        exact this
      · rw [if_pos (Int32.not_lt.mp c), e_S_bestShare_63, nI_1]
        rw [if_neg c] at this
        exact this
theorem M_share_f {q n : Nat} {μ κ : zI} {τ : zJ} (h : RP 4 q n μ κ) : ∀ (j k f : Nat), k + j = 99 → j < f → f_M_bestShare_21 q f (bsS q n κ k).1 (bsS q n κ k).2 (nI (k + 1)) κ τ = some ((bsS q n κ 99).1, κ, τ) := by
  intro j
  induction j with
  | zero =>
    intro k f hk hf
    have : k = 99 := by omega
    subst this
    cases f with
    | zero => omega
    | succ f => rw [f_M_bestShare_21, if_pos (show (99 : Int32) < nI (99 + 1) by decide)]
  | succ j ih =>
    intro k f hk hf
    cases f with
    | zero => omega
    | succ f =>
      have hx : (nI (k + 1)).toInt = ((k + 1 : Nat) : Int) := nIt (by omega)
      obtain ⟨s1, -, s2⟩ := h.share (ν := fun _ _ => 0) (τ := τ) (x := nI (k + 1)) (by rw [hx]; omega) (by rw [hx]; omega)
      rw [f_M_bestShare_21, if_neg (show ¬ (99 : Int32) < nI (k + 1) by rw [ilt, hx, show (99 : Int32).toInt = 99 from rfl]; omega), s2]
      simp only [Option.bind_some]
      rw [(h.pw (ν := fun _ _ => 0) (τ := τ) s1).2]
      simp only [Option.bind_some, zlet]
      have := ih (k + 1) f (by omega) (by omega)
      rw [bsS] at this
      by_cases c : (bsS q n κ k).2 < pP (mLit q κ) (κ (q + 5)) n (nI (ptS q n κ (nI (k + 1))))
      · rw [if_pos c, e_M_bestShare_52, nI_1]
        rw [if_pos c] at this
        exact this
      · rw [if_neg c, e_M_bestShare_52, nI_1]
        rw [if_neg c] at this
        exact this
theorem sim_bestShare {q n : Nat} {μ κ : zI} {ν τ : zJ} (h : RP 4 q n μ κ) : ∃ r κ', E_S_bestShare μ ν = some (r, μ, ν) ∧ E_M_bestShare q κ τ = some (r, κ', τ) ∧ mQ q κ κ' ∧ mKn q n κ' := by
  have h0 : RP 4 q n μ (zu κ q 0 0) := h.th
  have h6 := h.1
  rw [E_S_bestShare, e_S_bestShare_0, E_M_bestShare, e_M_bestShare_0, S_has h.2.1 h6]
  simp only [zlet, Option.bind_some]
  rw [h0.2.2.1]
  by_cases c : n = 0
  · subst c
    rw [if_pos rfl, if_pos rfl, if_pos (show nI 0 = 0 from rfl)]
    exact ⟨_, _, rfl, rfl, mQ.th, h0.2.2.2.2.2.2.2.2⟩
  · rw [if_neg (show ¬ (if n = 0 then (0 : Int32) else 1) = 0 by rw [if_neg c]; decide), if_neg (nI_ne0 (by omega) (by omega)), T_least18]
    simp only [Option.bind_some]
    have e1 := C_share_f (ν := ν) h0 99 0 zFuel (by omega) (by unfold zFuel; omega)
    have e2 := M_share_f (τ := τ) h0 99 0 zFuel (by omega) (by unfold zFuel; omega)
    exact ⟨_, _, e1, e2, mQ.th, h0.2.2.2.2.2.2.2.2⟩
