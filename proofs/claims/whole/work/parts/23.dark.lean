/-! shadeOf, darkest, bestShare. -/
theorem RP.cong {q n : Nat} {μ μ' κ : zI} (h : RP 4 q n μ κ) (hf : ∀ r, r < 19 → μ' r = μ r) : RP 4 q n μ' κ := by
  obtain ⟨h1, h2, h3, h4, h5, h6, h7, h8, h9⟩ := h
  refine ⟨h1, by rw [hf _ (by omega)]; exact h2, h3, fun i hi => ?_, h5, fun x hx => by rw [hf _ (by omega)]; exact h6 x hx, by rw [hf _ (by omega)]; exact h7, by rw [hf _ (by omega)]; exact h8, h9⟩
  rw [hf _ (by omega), hf _ (by omega), hf _ (by omega), hf _ (by omega)]
  exact h4 i hi
theorem nI_n1 {n : Nat} (h : n ≤ 6) : (nI n - 1).toInt = (n : Int) - 1 := by
  rw [isb (by rw [nIt (by omega), show (1 : Int32).toInt = 1 from rfl]; omega) (by rw [nIt (by omega), show (1 : Int32).toInt = 1 from rfl]; omega), nIt (by omega)]
  rfl
theorem S_mod_in {n i : Nat} {μ : zI} {ν : zJ} (hn : μ (4 + 3) 0 = nI n) (h6 : n ≤ 6) (hi : i < n) : E_S_isModule (nI i) μ ν = some (1, μ, ν) := by
  have h1 := nI_n1 h6
  rw [E_S_isModule, e_S_isModule_0, hn, S_in (nI_pos (by omega)) (by rw [ilt, h1, nIt (by omega)]; omega)]
  simp only [Option.bind_some]
  rw [if_pos (show zb 1 = true from rfl)]
theorem S_mod_out {n : Nat} {x : Int32} {μ : zI} {ν : zJ} (hn : μ (4 + 3) 0 = nI n) (h6 : n ≤ 6) (hx : x < 0 ∨ nI n ≤ x) : E_S_isModule x μ ν = some (0, μ, ν) := by
  have h1 := nI_n1 h6
  rw [E_S_isModule, e_S_isModule_0, hn, S_out]
  · simp only [Option.bind_some]
    rw [if_pos (show zb 0 = true from rfl)]
  · rcases hx with hx | hx
    · exact Or.inl hx
    · right
      have := ile.mp hx
      rw [nIt (by omega)] at this
      rw [ilt, h1]
      omega
theorem M_mod_in {q n i : Nat} {κ : zI} {τ : zJ} (hn : κ q 9 = nI n) (h6 : n ≤ 6) (hi : i < n) : E_M_isModule q (nI i) κ τ = some (1, κ, τ) := by
  rw [E_M_isModule, e_M_isModule_0, if_neg (nI_pos (by omega)), hn, if_neg (nI_ge hi (by omega)), e_M_isModule_17, if_pos (show zb 1 = true from rfl)]
theorem M_mod_out {q n : Nat} {x : Int32} {κ : zI} {τ : zJ} (hn : κ q 9 = nI n) (hx : x < 0 ∨ nI n ≤ x) : E_M_isModule q x κ τ = some (0, κ, τ) := by
  rw [E_M_isModule, e_M_isModule_0, e_M_isModule_16, e_M_isModule_17, if_pos (show zb 0 = true from rfl), hn]
  by_cases c : x < 0
  · rw [if_pos c]
  · rw [if_neg c, if_pos (hx.resolve_left c)]
theorem md_or (x : Int32) {n : Nat} (h : n ≤ 6) : (x < 0 ∨ nI n ≤ x) ∨ ∃ i, i < n ∧ x = nI i := by
  rcases pk_ix x (n := n) (by omega) with h | h | h
  · exact Or.inl (Or.inl h)
  · exact Or.inl (Or.inr h)
  · exact Or.inr h
/-- what a module's shade costs -/
def shd (q n : Nat) (κ : zI) (i : Nat) : Int32 := (pB (litV (mLit q κ) (κ (q + 4)) i 100) (κ (q + 5)) n 1000).1 - (pB (mLit q κ) (κ (q + 5)) n 1000).1
theorem shd_q {q n : Nat} {κ κ' : zI} (h : mQ q κ κ') : shd q n κ' = shd q n κ := by
  funext i
  rw [shd, shd, h.lit, h.1 (q + 4) (by omega) (by omega), h.1 (q + 5) (by omega) (by omega)]
theorem C_shade {q n i : Nat} {μ κ : zI} {ν : zJ} (h : RP 4 q n μ κ) (hi : i < n) : ∃ t : Int32 × zI × zJ, E_S_bestIfLight (nI i) 100 μ ν = some t ∧ t.1 - t.2.1 (4 + 3) 2 = shd q n κ i ∧ (∀ r, r < 19 → t.2.1 r = μ r) ∧ t.2.2 = ν := by
  obtain ⟨μ', e⟩ := C_bestIf (ν := ν) (v := 100) h hi (by decide) (by decide)
  have f := fr_S_bestIfLight e
  have f1 : ∀ r, r < 19 → μ' r = μ r := fun r hr => f.1 r (by dsimp only; omega)
  refine ⟨_, e, ?_, f1, rfl⟩
  show _ - μ' (4 + 3) 2 = _
  rw [f1 (4 + 3) (by omega), h.2.2.2.2.2.2.1, shd]
theorem sim_shadeOf {q n : Nat} {μ κ : zI} {ν τ : zJ} (h : RP 4 q n μ κ) (x : Int32) : ∃ r μ' κ', E_S_shadeOf x μ ν = some (r, μ', ν) ∧ E_M_shadeOf q x κ τ = some (r, κ', τ) ∧ mQ q κ κ' ∧ mKn q n κ' := by
  have h0 : RP 4 q n μ (zu κ q 0 0) := h.th
  rw [E_S_shadeOf, e_S_shadeOf_0, E_M_shadeOf, e_M_shadeOf_0]
  simp only [zlet]
  rcases md_or x h.1 with c | ⟨i, hi, rfl⟩
  · rw [S_mod_out h.2.1 h.1 c, M_mod_out h0.2.2.1 c]
    simp only [Option.bind_some, t00, if_true, e_S_shadeOf_30, e_M_shadeOf_29]
    exact ⟨_, _, _, rfl, rfl, mQ.th, h0.2.2.2.2.2.2.2.2⟩
  · rw [S_mod_in h.2.1 h.1 hi, M_mod_in h0.2.2.1 h.1 hi]
    simp only [Option.bind_some, n10, if_false]
    obtain ⟨t, e1, e2, e3, e4⟩ := C_shade (ν := ν) h0 hi
    obtain ⟨κ1, g1, g2, g3⟩ := M_bestBy_eq (τ := τ) (v := 100) h0 hi (by decide) (by decide)
    have h1 : RP 4 q n μ κ1 := h0.q g2 g3
    obtain ⟨κ2, k1, k2, k3, k4, k5⟩ := M_bestNow_eq (τ := τ) h1.2.2.1 h1.ok h1.2.2.2.2.2.2.2.2
    rw [e1, g1]
    simp only [Option.bind_some]
    rw [k1]
    simp only [Option.bind_some, e_S_shadeOf_30, e_M_shadeOf_29]
    rw [e2, e4]
    refine ⟨_, _, κ2, rfl, ?_, (mQ.th.tr g2).tr (mQ.of k2), fun _ => ?_⟩
    · rw [shd, g2.lit, g2.1 (q + 5) (by omega) (by omega)]
    · rw [k2.lit, k2.1 (q + 5) (by omega)]
      exact ⟨k3, k4⟩
/-- the darkest of the first k, and its shade -/
def dkS (q n : Nat) (κ : zI) : Nat → Int32 × Int32
  | 0 => (-2, -1)
  | i + 1 => if (dkS q n κ i).2 < shd q n κ i then (nI i, shd q n κ i) else dkS q n κ i
theorem C_dark_f {q n : Nat} {μ κ : zI} {ν : zJ} (h : RP 4 q n μ κ) : ∀ (j i f : Nat) (μ1 : zI), i + j = n → j < f → (∀ r, r < 19 → μ1 r = μ r) → ∃ μ2, f_S_darkest_7 f (dkS q n κ i).1 (dkS q n κ i).2 (nI i) μ1 ν = some ((dkS q n κ n).1, μ2, ν) := by
  have h6 := h.1
  intro j
  induction j with
  | zero =>
    intro i f μ1 hi hf h1
    have : i = n := by omega
    subst this
    cases f with
    | zero => omega
    | succ f =>
      rw [f_S_darkest_7, h1 (4 + 3) (by omega), h.2.1, if_pos (nI_le (Nat.le_refl _) (by omega))]
      exact ⟨μ1, rfl⟩
  | succ j ih =>
    intro i f μ1 hi hf h1
    cases f with
    | zero => omega
    | succ f =>
      obtain ⟨t, e1, e2, e3, e4⟩ := C_shade (ν := ν) (h.cong h1) (show i < n by omega)
      rw [f_S_darkest_7, h1 (4 + 3) (by omega), h.2.1, if_neg (nI_ge (show i < n by omega) (by omega)), e1]
      simp only [Option.bind_some, zlet]
      rw [e2, e4]
      have h2 : ∀ r, r < 19 → t.2.1 r = μ r := fun r hr => (e3 r hr).trans (h1 r hr)
      by_cases c : (dkS q n κ i).2 < shd q n κ i
      · rw [if_neg (Int32.not_le.mpr c), e_S_darkest_52, nI_1]
        have := ih (i + 1) f t.2.1 (by omega) (by omega) h2
        rw [dkS, if_pos c] at this
        exact this
      · rw [if_pos (Int32.not_lt.mp c), e_S_darkest_52, nI_1]
        have := ih (i + 1) f t.2.1 (by omega) (by omega) h2
        rw [dkS, if_neg c] at this
        exact this
theorem M_dark_f {q n : Nat} {μ κ : zI} {τ : zJ} (h : RP 4 q n μ κ) : ∀ (j i f : Nat) (κ1 : zI), i + j = n → j < f → mQ q κ κ1 → mKn q n κ1 → ∃ κ2, f_M_darkest_12 q f (dkS q n κ i).1 (dkS q n κ i).2 (nI i) κ1 τ = some ((dkS q n κ n).1, κ2, τ) ∧ mQ q κ κ2 ∧ mKn q n κ2 := by
  have h6 := h.1
  intro j
  induction j with
  | zero =>
    intro i f κ1 hi hf h1 h2
    have : i = n := by omega
    subst this
    cases f with
    | zero => omega
    | succ f =>
      rw [f_M_darkest_12, (h.q h1 h2).2.2.1, if_pos (nI_le (Nat.le_refl _) (by omega))]
      exact ⟨κ1, rfl, h1, h2⟩
  | succ j ih =>
    intro i f κ1 hi hf h1 h2
    cases f with
    | zero => omega
    | succ f =>
      have h3 := h.q h1 h2
      obtain ⟨κ2, g1, g2, g3⟩ := M_bestBy_eq (τ := τ) (v := 100) h3 (show i < n by omega) (by decide) (by decide)
      have h4 : RP 4 q n μ κ2 := h3.q g2 g3
      obtain ⟨κ3, k1, k2, k3, k4, k5⟩ := M_bestNow_eq (τ := τ) h4.2.2.1 h4.ok h4.2.2.2.2.2.2.2.2
      have hq3 : mQ q κ κ3 := (h1.tr g2).tr (mQ.of k2)
      have hk3 : mKn q n κ3 := fun _ => by
        rw [k2.lit, k2.1 (q + 5) (by omega)]
        exact ⟨k3, k4⟩
      rw [f_M_darkest_12, h3.2.2.1, if_neg (nI_ge (show i < n by omega) (by omega)), g1]
      simp only [Option.bind_some]
      rw [k1]
      simp only [Option.bind_some, zlet]
      have hs : (pB (litV (mLit q κ1) (κ1 (q + 4)) i 100) (κ1 (q + 5)) n 1000).1 - (pB (mLit q κ2) (κ2 (q + 5)) n 1000).1 = shd q n κ i := by
        rw [g2.lit, g2.1 (q + 5) (by omega) (by omega), ← shd_q h1, shd]
      rw [hs]
      by_cases c : (dkS q n κ i).2 < shd q n κ i
      · rw [if_pos c, e_M_darkest_48, nI_1]
        have := ih (i + 1) f κ3 (by omega) (by omega) hq3 hk3
        rw [dkS, if_pos c] at this
        exact this
      · rw [if_neg c, e_M_darkest_48, nI_1]
        have := ih (i + 1) f κ3 (by omega) (by omega) hq3 hk3
        rw [dkS, if_neg c] at this
        exact this
theorem sim_darkest {q n : Nat} {μ κ : zI} {ν τ : zJ} (h : RP 4 q n μ κ) : ∃ r μ' κ', E_S_darkest μ ν = some (r, μ', ν) ∧ E_M_darkest q κ τ = some (r, κ', τ) ∧ mQ q κ κ' ∧ mKn q n κ' := by
  have h6 := h.1
  obtain ⟨μ', e1⟩ := C_dark_f (ν := ν) h n 0 zFuel μ (by omega) (by unfold zFuel; omega) (fun _ _ => rfl)
  obtain ⟨κ', g1, g2, g3⟩ := M_dark_f (τ := τ) h n 0 zFuel (zu κ q 0 0) (by omega) (by unfold zFuel; omega) mQ.th h.th.2.2.2.2.2.2.2.2
  refine ⟨(dkS q n κ n).1, μ', κ', ?_, ?_, g2, g3⟩
  · rw [E_S_darkest, e_S_darkest_0]
    exact e1
  · rw [E_M_darkest, e_M_darkest_0]
    exact g1
/-! ## the point of a share -/
theorem gL_congr {lit lit' : Nat → Int32} : ∀ k, (∀ i, i < k → lit i = lit' i) → gL lit k = gL lit' k := by
  intro k
  induction k with
  | zero => intro _; rfl
  | succ k ih => intro h; rw [gL, gL, ih (fun i hi => h i (by omega)), h k (by omega)]
theorem M_shared_f {q n : Nat} {κ : zI} {τ : zJ} {x : Int32} (hn : κ q 9 = nI n) (h6 : n ≤ 6) : ∀ (j i f : Nat), i + j = n → j < f → f_M_shared_4 q f x (gL (mLit q κ) i) (nI i) κ τ = some (x * gL (mLit q κ) n / 100, κ, τ) := by
  intro j
  induction j with
  | zero =>
    intro i f hi hf
    have : i = n := by omega
    subst this
    cases f with
    | zero => omega
    | succ f => rw [f_M_shared_4, hn, if_pos (nI_le (Nat.le_refl _) (by omega))]
  | succ j ih =>
    intro i f hi hf
    cases f with
    | zero => omega
    | succ f =>
      rw [f_M_shared_4, hn, if_neg (nI_ge (show i < n by omega) (by omega)), M_litOf_eq (show i < 6 by omega)]
      simp only [Option.bind_some]
      have := ih (i + 1) f (by omega) (by omega)
      rw [gL, zMax] at this
      by_cases c : gL (mLit q κ) i < mLit q κ i
      · rw [if_neg (Int32.not_le.mpr c), M_litOf_eq (show i < 6 by omega)]
        simp only [Option.bind_some, e_M_shared_30]
        rw [if_pos c] at this
        rw [nI_1]
        exact this
      · rw [if_pos (Int32.not_lt.mp c), e_M_shared_30, nI_1]
        rw [if_neg c] at this
        exact this
/-- the point of a share -/
def ptS (q n : Nat) (κ : zI) (x : Int32) : Nat := (x.toInt * (gL (mLit q κ) n).toInt / 100).toNat
/-- the same point on both sides, and it is one -/
theorem RP.share {b q n : Nat} {μ κ : zI} {ν τ : zJ} (h : RP b q n μ κ) {x : Int32} (h0 : 0 ≤ x.toInt) (h9 : x.toInt ≤ 99) : ptS q n κ x < 1000 ∧ E_Panel_pointOfShare b x μ ν = some (nI (ptS q n κ x), μ, ν) ∧ E_M_shared q x κ τ = some (nI (ptS q n κ x), κ, τ) := by
  have h6 := h.1
  have e : gL (μ (b + 7)) n = gL (mLit q κ) n := gL_congr n (fun i hi => (h.eqs i hi).1)
  have g := gL_b n n (lit := mLit q κ) (fun i hi => ⟨(h.ok.2 i hi).1, (h.ok.2 i hi).2.1⟩) (Nat.le_refl _)
  have b1 : 0 ≤ x.toInt * (gL (mLit q κ) n).toInt := Int.mul_nonneg h0 g.1
  have b2 : x.toInt * (gL (mLit q κ) n).toInt ≤ 99 * 999 := Int.mul_le_mul h9 g.2.1 g.1 (by omega)
  have e1 : (x * gL (mLit q κ) n).toInt = x.toInt * (gL (mLit q κ) n).toInt := imu (by omega) (by omega)
  have e2 : (x * gL (mLit q κ) n / 100).toInt = x.toInt * (gL (mLit q κ) n).toInt / 100 := by
    rw [idv (by rw [e1]; exact b1) (by decide), e1]
    rfl
  have hp : ptS q n κ x = (x.toInt * (gL (mLit q κ) n).toInt / 100).toNat := rfl
  have e3 : x * gL (mLit q κ) n / 100 = nI (ptS q n κ x) := by
    rw [ieq, e2, hp, nIt (by omega)]
    omega
  refine ⟨by rw [hp]; omega, ?_, ?_⟩
  · rw [E_Panel_pointOfShare, e_Panel_pointOfShare_0, C_gL_eq h.2.1 h6]
    simp only [Option.bind_some]
    rw [e, e3]
  · rw [← e3, E_M_shared, e_M_shared_0]
    exact M_shared_f h.2.2.1 h6 n 0 zFuel (by omega) (by unfold zFuel; omega)
