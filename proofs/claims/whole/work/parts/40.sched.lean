/-! What comes: the schedule side by side. -/
/-- the panels but for the powers -/
def RL (b q n : Nat) (μ κ : zI) : Prop := n ≤ 6 ∧ μ (b + 3) 0 = nI n ∧ κ q 9 = nI n ∧
  (∀ i, i < n → μ (b + 4) i = κ (q + 4) i ∧ μ (b + 5) i = κ (q + 5) i ∧ μ (b + 6) i = κ (q + 7) (19 + i) ∧ μ (b + 7) i = mLit q κ i) ∧
  (∀ i, i < n → 1 ≤ (κ (q + 4) i).toInt ∧ (κ (q + 4) i).toInt ≤ 999 ∧ 1 ≤ (κ (q + 5) i).toInt ∧ (κ (q + 5) i).toInt ≤ 999 ∧ 0 ≤ (κ (q + 7) (19 + i)).toInt ∧ (κ (q + 7) (19 + i)).toInt ≤ 100)
theorem RP.rl {b q n : Nat} {μ κ : zI} (h : RP b q n μ κ) : RL b q n μ κ := ⟨h.1, h.2.1, h.2.2.1, h.2.2.2.1, h.2.2.2.2.1⟩
theorem RL.ok {b q n : Nat} {μ κ : zI} (h : RL b q n μ κ) : pOK (mLit q κ) (κ (q + 5)) n := by
  obtain ⟨h1, -, -, -, h5⟩ := h
  refine ⟨h1, fun i hi => ?_⟩
  obtain ⟨a1, a2, a3, a4, a5, a6⟩ := h5 i hi
  have := lit_b a1 a2 a5 a6
  have e : mLit q κ i = κ (q + 4) i * κ (q + 7) (19 + i) / 100 := by rw [mLit, if_pos (by omega)]
  rw [e]
  exact ⟨this.2.1, by omega, a3, a4⟩
theorem RL.reck {b q n : Nat} {μ κ : zI} {ν : zJ} (h : RL b q n μ κ) (hk : mKn q n κ) : ∃ μ2, E_Panel_reckon b μ ν = some (μ2, ν) ∧ RP b q n μ2 κ ∧ (∀ r, r ≠ b + 3 → r ≠ b + 8 → μ2 r = μ r) := by
  have hok := h.ok
  obtain ⟨h1, h2, h3, h4, h5⟩ := h
  have hq : ∀ j, j < n → μ (b + 7) j = mLit q κ j ∧ μ (b + 5) j = κ (q + 5) j := fun j hj => ⟨(h4 j hj).2.2.2, (h4 j hj).2.1⟩
  obtain ⟨μ2, e, f1, f2, f3, f4, f5⟩ := C_reckon_eq (b := b) (n := n) (μ := μ) (ν := ν) h2 (pOK_congr hq hok)
  refine ⟨μ2, e, ⟨h1, f2.trans h2, h3, fun i hi => ?_, h5, fun x hx => ?_, ?_, ?_, hk⟩, f1⟩
  · rw [f1 (b + 4) (by omega) (by omega), f1 (b + 5) (by omega) (by omega), f1 (b + 6) (by omega) (by omega), f1 (b + 7) (by omega) (by omega)]
    exact h4 i hi
  · rw [f3 x hx, if_pos hx, pP_congr hq]
  · rw [f4, pB_congr hq]
  · rw [f5, pB_congr hq]
theorem RL.light {b q n i : Nat} {μ κ : zI} {v : Int32} (h : RL b q n μ κ) (hi : i < n) (hv0 : 0 ≤ v.toInt) (hv1 : v.toInt ≤ 100) : RL b q n (zu (zu μ (b + 6) i v) (b + 7) i (μ (b + 4) i * v / 100)) (zu (zu κ (q + 7) (19 + i) v) (q + 7) 145 0) := by
  obtain ⟨h1, h2, h3, h4, h5⟩ := h
  have c4 : ∀ j, zu (zu κ (q + 7) (19 + i) v) (q + 7) 145 0 (q + 4) j = κ (q + 4) j := fun j => by simp (disch := omega) only [zgr]
  have c5 : ∀ j, zu (zu κ (q + 7) (19 + i) v) (q + 7) 145 0 (q + 5) j = κ (q + 5) j := fun j => by simp (disch := omega) only [zgr]
  have c7 : ∀ j, j < n → zu (zu κ (q + 7) (19 + i) v) (q + 7) 145 0 (q + 7) (19 + j) = if j = i then v else κ (q + 7) (19 + j) := fun j hj => by
    rw [zgk (by omega)]
    by_cases e : j = i
    · rw [if_pos e, e, zgh]
    · rw [if_neg e, zgk (by omega)]
  have cl : ∀ j, j < n → mLit q (zu (zu κ (q + 7) (19 + i) v) (q + 7) 145 0) j = if j = i then κ (q + 4) i * v / 100 else mLit q κ j := fun j hj => by
    rw [mLit, if_pos (by omega), c4, c7 j hj]
    by_cases e : j = i
    · rw [if_pos e, if_pos e, e]
    · rw [if_neg e, if_neg e, mLit, if_pos (by omega)]
  refine ⟨h1, ?_, ?_, fun j hj => ?_, fun j hj => ?_⟩
  · simp (disch := omega) only [zgr]; exact h2
  · simp (disch := omega) only [zgr]; exact h3
  · obtain ⟨a1, a2, a3, a4⟩ := h4 j hj
    rw [c4, c5, c7 j hj, cl j hj]
    refine ⟨?_, ?_, ?_, ?_⟩
    · simp (disch := omega) only [zgr]; exact a1
    · simp (disch := omega) only [zgr]; exact a2
    · rw [zgr (by omega)]
      by_cases e : j = i
      · rw [if_pos e, e, zgh]
      · rw [if_neg e, zgk e]; exact a3
    · by_cases e : j = i
      · rw [if_pos e, e, zgh, (h4 i hi).1]
      · rw [if_neg e, zgk e, zgr (by omega)]; exact a4
  · obtain ⟨a1, a2, a3, a4, a5, a6⟩ := h5 j hj
    rw [c4, c5, c7 j hj]
    refine ⟨a1, a2, a3, a4, ?_⟩
    by_cases e : j = i
    · rw [if_pos e]; exact ⟨hv0, hv1⟩
    · rw [if_neg e]; exact ⟨a5, a6⟩
theorem RL.fr {b q n : Nat} {μ μ' κ κ' : zI} (h : RL b q n μ κ) (h1 : ∀ r, b + 3 ≤ r → r ≤ b + 7 → μ' r = μ r) (h9 : κ' q 9 = κ q 9) (e4 : κ' (q + 4) = κ (q + 4)) (e5 : κ' (q + 5) = κ (q + 5)) (h7 : ∀ i, i < 6 → κ' (q + 7) (19 + i) = κ (q + 7) (19 + i)) : RL b q n μ' κ' := by
  obtain ⟨g1, g2, g3, g4, g5⟩ := h
  have el : mLit q κ' = mLit q κ := by
    funext i
    unfold mLit
    by_cases hi : i < 6
    · rw [if_pos hi, if_pos hi, e4, h7 i hi]
    · rw [if_neg hi, if_neg hi]
  refine ⟨g1, by rw [h1 (b + 3) (by omega) (by omega)]; exact g2, h9.trans g3, fun i hi => ?_, fun i hi => ?_⟩
  · rw [h1 (b + 4) (by omega) (by omega), h1 (b + 5) (by omega) (by omega), h1 (b + 6) (by omega) (by omega), h1 (b + 7) (by omega) (by omega), e4, e5, h7 i (by omega), el]; exact g4 i hi
  · rw [e4, e5, h7 i (by omega)]; exact g5 i hi
/-- one that comes is as it may be -/
def okE (n : Nat) (k m v : Int32) : Prop := (k = 0 ∧ (∃ j, j < n ∧ m = nI j) ∧ 0 ≤ v.toInt ∧ v.toInt ≤ 100) ∨ k = 1 ∨ (k = 2 ∧ 45000 ≤ v.toInt ∧ v.toInt ≤ 55000)
/-- what comes, the same; c rows of which x are past -/
def RS (b q n c x : Nat) (μ κ : zI) : Prop := c ≤ 24 ∧ x ≤ c ∧ μ (b + 9) 0 = nI c ∧ μ (b + 9) 1 = nI x ∧ κ (q + 7) 46 = nI (c - x) ∧ (∀ i w, i < c - x → w < 4 → μ (b + 10) (4 * (x + i) + w) = κ (q + 7) (47 + (4 * i + w))) ∧ (∀ i, i < c - x → okE n (κ (q + 7) (47 + (4 * i + 1))) (κ (q + 7) (47 + (4 * i + 2))) (κ (q + 7) (47 + (4 * i + 3)))) ∧ (∀ i j, i < j → j < c - x → (κ (q + 7) (47 + (4 * i + 0))).toInt ≤ (κ (q + 7) (47 + (4 * j + 0))).toInt)
theorem RS.get {b q n c x : Nat} {μ κ : zI} {ν : zJ} (h : RS b q n c x μ κ) {i w : Nat} (hi : i < c - x) (hw : w < 4) : E_Schedule_get b (nI i) (nI w) μ ν = some (κ (q + 7) (47 + (4 * i + w)), μ, ν) := by
  obtain ⟨h1, h2, h3, h4, h5, h6, -⟩ := h
  have e : (nI x + nI i) * 4 + nI w = nI (4 * (x + i) + w) := by
    rw [nI_add, show (4 : Int32) = nI 4 from rfl, pk_mul, nI_add, Nat.mul_comm]
  rw [E_Schedule_get, e_Schedule_get_0, if_neg (nI_pos (by omega)), E_Schedule_left, e_Schedule_left_0, Option.bind_some, h3, h4, pk_sub h2, if_neg (nI_ge hi (by omega)), if_neg (nI_pos (by omega)), if_neg (lge (c := 4) (k := w) 4 rfl hw (by decide)), e_Schedule_get_26, if_neg one_ne_0]
  simp only [h4, e, zin_nI (show 4 * (x + i) + w < 96 by omega) (show 96 < 2 ^ 31 by decide), if_true, nI_clamp (show 4 * (x + i) + w < 2 ^ 31 by omega), h6 i w hi hw, e_Schedule_get_51]
theorem RS.left {b q n c x : Nat} {μ κ : zI} {ν : zJ} (h : RS b q n c x μ κ) : E_Schedule_left b μ ν = some (nI (c - x), μ, ν) := by
  rw [E_Schedule_left, e_Schedule_left_0, h.2.2.1, h.2.2.2.1, pk_sub h.2.1]
theorem M_rem_f {q L : Nat} {x1 : Int32} {τ : zJ} (hL : L ≤ 23) : ∀ (j k f : Nat) (κ : zI), k + j = 4 * L → j < f → κ (q + 7) 46 = nI L → ∃ κ', f_M_removes_15 q f x1 (nI k) κ τ = some (κ', τ) ∧ (∀ r, r ≠ q + 7 → κ' r = κ r) ∧ (∀ m, m < 47 + k ∨ 47 + 4 * L ≤ m → κ' (q + 7) m = κ (q + 7) m) ∧ ∀ m, k ≤ m → m < 4 * L → κ' (q + 7) (47 + m) = κ (q + 7) (47 + (m + 4)) := by
  intro j
  induction j with
  | zero =>
    intro k f κ hk hf h46
    obtain ⟨f, rfl⟩ : ∃ i, f = i + 1 := ⟨f - 1, by omega⟩
    refine ⟨κ, ?_, fun _ _ => rfl, fun _ _ => rfl, fun m h1 h2 => by omega⟩
    rw [f_M_removes_15, h46, show (4 : Int32) = nI 4 from rfl, pk_mul, if_pos (nI_le (by omega) (by omega))]
  | succ j ih =>
    intro k f κ hk hf h46
    obtain ⟨f, rfl⟩ : ∃ i, f = i + 1 := ⟨f - 1, by omega⟩
    have e1 : (47 : Int32) + nI k = nI (47 + k) := by rw [show (47 : Int32) = nI 47 from rfl, nI_add]
    have e2 : nI (47 + k) + 4 = nI (47 + (k + 4)) := by rw [show (4 : Int32) = nI 4 from rfl, nI_add]; rfl
    obtain ⟨κ', a1, a2, a3, a4⟩ := ih (k + 1) f (zu κ (q + 7) (47 + k) (κ (q + 7) (47 + (k + 4)))) (by omega) (by omega) (by rw [zgk (by omega)]; exact h46)
    refine ⟨κ', ?_, fun r hr => (a2 r hr).trans (zgr hr), fun m hm => (a3 m (by omega)).trans (zgk (by omega)), fun m h1 h2 => ?_⟩
    · rw [f_M_removes_15, h46, show (4 : Int32) * nI L = nI (4 * L) from pk_mul 4 L, if_neg (nI_ge (by omega) (by omega)), e1, e2, if_pos (zin_nI (by omega) (by decide)), if_pos (zin_nI (by omega) (by decide)), zlet_eq, nI_clamp (by omega), nI_clamp (by omega), nI_1]
      exact a1
    · by_cases e : m = k
      · subst e
        rw [a3 (47 + m) (by omega), zgh]
      · rw [a4 m (by omega) h2, zgk (by omega)]
theorem M_rem {q L i : Nat} {κ : zI} {τ : zJ} (hL : L ≤ 23) (hi : i ≤ L) (h46 : κ (q + 7) 46 = nI (L + 1)) : ∃ κ', E_M_removes q (nI i) κ τ = some (κ', τ) ∧ (∀ r, r ≠ q + 7 → κ' r = κ r) ∧ κ' (q + 7) 46 = nI L ∧ (∀ m, m < 46 ∨ 47 + 4 * L ≤ m → κ' (q + 7) m = κ (q + 7) m) ∧ (∀ m, m < 4 * i → κ' (q + 7) (47 + m) = κ (q + 7) (47 + m)) ∧ ∀ m, 4 * i ≤ m → m < 4 * L → κ' (q + 7) (47 + m) = κ (q + 7) (47 + (m + 4)) := by
  obtain ⟨κ', a1, a2, a3, a4⟩ := M_rem_f (q := q) (L := L) (x1 := nI i) (τ := τ) hL (4 * L - 4 * i) (4 * i) zFuel (zu κ (q + 7) 46 (nI L)) (by omega) (by unfold zFuel; omega) zgh
  refine ⟨κ', ?_, fun r hr => (a2 r hr).trans (zgr hr), (a3 46 (by omega)).trans zgh, fun m hm => (a3 m (by omega)).trans (zgk (by omega)), fun m hm => (a3 _ (by omega)).trans (zgk (by omega)), fun m h1 h2 => (a4 m h1 h2).trans (zgk (by omega))⟩
  rw [E_M_removes, e_M_removes_0, zlet_eq, zlet_eq, h46, nI_pred, show (4 : Int32) * nI i = nI (4 * i) from pk_mul 4 i]
  exact a1
