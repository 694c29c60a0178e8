/-! The best of the panel; the class's powers. -/
theorem pB_b {lit vo : Nat → Int32} {n : Nat} (h : pOK lit vo n) : ∀ k, k ≤ 1000 → 0 ≤ (pB lit vo n k).1.toInt ∧ (pB lit vo n k).1.toInt ≤ 598801 ∧ (∃ x, x < 1000 ∧ (pB lit vo n k).2 = nI x ∧ (0 < (pB lit vo n k).1.toInt → x < k ∧ pP lit vo n (nI x) = (pB lit vo n k).1) ∧ ((pB lit vo n k).1.toInt = 0 → x = 0)) ∧ ∀ j, j < k → (pP lit vo n (nI j)).toInt ≤ (pB lit vo n k).1.toInt := by
  intro k
  induction k with
  | zero =>
    intro _
    refine ⟨by show 0 ≤ (0 : Int32).toInt; decide, by show (0 : Int32).toInt ≤ 598801; decide, ⟨0, by omega, rfl, fun q => ?_, fun _ => rfl⟩, fun j hj => by omega⟩
    exact absurd q (by show ¬ 0 < (0 : Int32).toInt; decide)
  | succ k ih =>
    intro hk
    obtain ⟨a, b, ⟨x, x1, x2, x3, x4⟩, d⟩ := ih (by omega)
    have e := pP_b h (x := nI k) (by rw [nIt (by omega)]; omega) (by rw [nIt (by omega)]; omega)
    rw [pB]
    by_cases c : (pB lit vo n k).1 < pP lit vo n (nI k)
    · rw [if_pos c]
      have c' := ilt.mp c
      refine ⟨e.2.1, e.2.2, ⟨k, by omega, rfl, fun _ => ⟨by omega, rfl⟩, fun q => ?_⟩, fun j hj => ?_⟩
      · dsimp only at q
        omega
      · by_cases hjk : j = k
        · subst hjk; exact Int.le_refl _
        · have := d j (by omega)
          dsimp only
          omega
    · rw [if_neg c]
      refine ⟨a, b, ⟨x, x1, x2, fun q => ⟨by have := (x3 q).1; omega, (x3 q).2⟩, x4⟩, fun j hj => ?_⟩
      by_cases hjk : j = k
      · subst hjk
        have c' : ¬ (pB lit vo n j).1.toInt < (pP lit vo n (nI j)).toInt := fun q => c (ilt.mpr q)
        omega
      · exact d j (by omega)
theorem pP_0 {lit vo : Nat → Int32} {n : Nat} {x : Int32} (h : ∀ i, i < n → ¬ x < lit i) : pP lit vo n x = 0 := by
  rw [pP, pV_0 n h, Int32.mul_zero]
  rfl
theorem pB_stay {lit vo : Nat → Int32} {n k : Nat} (h : pOK lit vo n) : ∀ m, k + m ≤ 1000 → (∀ j, k ≤ j → j < k + m → pP lit vo n (nI j) = 0) → pB lit vo n (k + m) = pB lit vo n k := by
  intro m
  induction m with
  | zero => intro _ _; rfl
  | succ m ih =>
    intro hm hz
    have h1 := ih (by omega) (fun j a b => hz j a (by omega))
    have h2 := (pB_b h (k + m) (by omega)).1
    rw [show k + (m + 1) = (k + m) + 1 from rfl, pB, hz (k + m) (by omega) (by omega), if_neg, h1]
    rw [ilt, show (0 : Int32).toInt = 0 from rfl]
    omega
/-- reckon() behind the first k points -/
def cRk (b n : Nat) (μ μ1 : zI) (k : Nat) : Prop := (∀ r, r ≠ b + 3 → r ≠ b + 8 → μ1 r = μ r) ∧ μ1 (b + 3) 0 = μ (b + 3) 0 ∧ (∀ j, j < 1000 → μ1 (b + 8) j = if j < k then pP (μ (b + 7)) (μ (b + 5)) n (nI j) else 0) ∧ μ1 (b + 3) 2 = (pB (μ (b + 7)) (μ (b + 5)) n k).1 ∧ μ1 (b + 3) 1 = (pB (μ (b + 7)) (μ (b + 5)) n k).2
theorem C_reckon_f {b n : Nat} {μ : zI} {ν : zJ} (hn : μ (b + 3) 0 = nI n) (hok : pOK (μ (b + 7)) (μ (b + 5)) n) : ∀ (j k f : Nat) (μ1 : zI), k + j = 1000 → j < f → cRk b n μ μ1 k → ∃ μ2, f_Panel_reckon_25 b f (gL (μ (b + 7)) n) (nI k) μ1 ν = some (μ2, ν) ∧ cRk b n μ μ2 1000 := by
  have hg := gL_b n n (lit := μ (b + 7)) (fun i hi => ⟨(hok.2 i hi).1, (hok.2 i hi).2.1⟩) (Nat.le_refl _)
  intro j
  induction j with
  | zero =>
    intro k f μ1 hk hf hc
    have : k = 1000 := by omega
    subst this
    cases f with
    | zero => omega
    | succ f =>
      rw [f_Panel_reckon_25, if_pos (show (1000 : Int32) ≤ nI 1000 by decide), e_Panel_reckon_87]
      exact ⟨μ1, rfl, hc⟩
  | succ j ih =>
    intro k f μ1 hk hf hc
    obtain ⟨h1, h2, h3, h4, h5⟩ := hc
    cases f with
    | zero => omega
    | succ f =>
      rw [f_Panel_reckon_25, if_neg (lge (c := 1000) (k := k) 1000 rfl (by omega) (by decide))]
      by_cases c : gL (μ (b + 7)) n ≤ nI k
      · rw [if_pos c, e_Panel_reckon_87]
        have hz : ∀ i, k ≤ i → i < 1000 → pP (μ (b + 7)) (μ (b + 5)) n (nI i) = 0 := by
          intro i a1 a2
          refine pP_0 (fun t ht => ?_)
          have e1 := hg.2.2 t ht
          have e2 := ile.mp c
          rw [nIt (by omega)] at e2
          rw [ilt, nIt (by omega)]
          omega
        have hb : pB (μ (b + 7)) (μ (b + 5)) n 1000 = pB (μ (b + 7)) (μ (b + 5)) n k := by
          have := pB_stay hok (k := k) (1000 - k) (by omega) (fun i a1 a2 => hz i a1 (by omega))
          rwa [show k + (1000 - k) = 1000 by omega] at this
        refine ⟨μ1, rfl, h1, h2, fun i hi => ?_, by rw [hb]; exact h4, by rw [hb]; exact h5⟩
        rw [h3 i hi, if_pos hi]
        by_cases hik : i < k
        · rw [if_pos hik]
        · rw [if_neg hik, hz i (by omega) hi]
      · have hx : 0 ≤ (nI k).toInt := by rw [nIt (by omega)]; omega
        have e7 : μ1 (b + 7) = μ (b + 7) := h1 _ (by omega) (by omega)
        have e5 : μ1 (b + 5) = μ (b + 5) := h1 _ (by omega) (by omega)
        have hz : zin (nI k) 1000 = true := zin_nI (by omega) (by decide)
        rw [if_neg c, C_voltsAt_eq (n := n) (by rw [h2]; exact hn) hx (by rw [e7, e5]; exact hok), Option.bind_some, e7, e5, if_pos hz]
        simp only [zlet]
        rw [if_pos hz, nI_clamp (by omega)]
        have r1 : zu μ1 (b + 8) k (nI k * pV (μ (b + 7)) (μ (b + 5)) (nI k) n / 10) (b + 8) k = pP (μ (b + 7)) (μ (b + 5)) n (nI k) := by rw [zu_eq, if_pos ⟨rfl, rfl⟩, pP]
        have r2 : ∀ i, zu μ1 (b + 8) k (nI k * pV (μ (b + 7)) (μ (b + 5)) (nI k) n / 10) (b + 3) i = μ1 (b + 3) i := fun i => by rw [zu_eq, if_neg (by omega)]
        have r3 : ∀ i, i < 1000 → zu μ1 (b + 8) k (nI k * pV (μ (b + 7)) (μ (b + 5)) (nI k) n / 10) (b + 8) i = if i < k + 1 then pP (μ (b + 7)) (μ (b + 5)) n (nI i) else 0 := by
          intro i hi
          by_cases hik : i = k
          · subst hik
            rw [if_pos (by omega)]
            exact r1
          · rw [zu_eq, if_neg (fun e => hik e.2), h3 i hi]
            by_cases hl : i < k
            · rw [if_pos hl, if_pos (by omega)]
            · rw [if_neg hl, if_neg (by omega)]
        have r4 : ∀ r, r ≠ b + 3 → r ≠ b + 8 → zu μ1 (b + 8) k (nI k * pV (μ (b + 7)) (μ (b + 5)) (nI k) n / 10) r = μ r := fun r a1 a2 => by rw [zu_off _ _ _ _ a2]; exact h1 r a1 a2
        rw [r1, r2, h4]
        generalize zu μ1 (b + 8) k (nI k * pV (μ (b + 7)) (μ (b + 5)) (nI k) n / 10) = μ3 at r1 r2 r3 r4 ⊢
        by_cases d : (pB (μ (b + 7)) (μ (b + 5)) n k).1 < pP (μ (b + 7)) (μ (b + 5)) n (nI k)
        · rw [if_neg (Int32.not_le.mpr d), if_pos hz, e_Panel_reckon_81, nI_1]
          refine ih (k + 1) f _ (by omega) (by omega) ⟨fun r a1 a2 => ?_, ?_, fun i hi => ?_, ?_, ?_⟩
          · rw [zu_off _ _ _ _ a1, zu_off _ _ _ _ a1]; exact r4 r a1 a2
          · rw [zu_eq, if_neg (by omega), zu_eq, if_neg (by omega), r2]; exact h2
          · rw [zu_eq, if_neg (by omega), zu_eq, if_neg (by omega)]; exact r3 i hi
          · rw [zu_eq, if_neg (by omega), zu_eq, if_pos ⟨rfl, rfl⟩, pB, if_pos d]
          · rw [zu_eq, if_pos ⟨rfl, rfl⟩, pB, if_pos d]
        · rw [if_pos (Int32.not_lt.mp d), e_Panel_reckon_81, nI_1]
          refine ih (k + 1) f _ (by omega) (by omega) ⟨r4, ?_, r3, ?_, ?_⟩
          · rw [r2]; exact h2
          · rw [r2, pB, if_neg d]; exact h4
          · rw [r2, pB, if_neg d]; exact h5
theorem C_reckon_eq {b n : Nat} {μ : zI} {ν : zJ} (hn : μ (b + 3) 0 = nI n) (hok : pOK (μ (b + 7)) (μ (b + 5)) n) : ∃ μ2, E_Panel_reckon b μ ν = some (μ2, ν) ∧ cRk b n μ μ2 1000 := by
  rw [E_Panel_reckon, e_Panel_reckon_0, C_gL_eq hn hok.1, Option.bind_some]
  simp only [zlet]
  refine C_reckon_f hn hok 1000 0 zFuel _ (by omega) (by unfold zFuel; omega) ⟨fun r a1 a2 => ?_, ?_, fun i hi => ?_, ?_, ?_⟩
  · rw [zr_eq, if_neg a2, zu_off _ _ _ _ a1, zu_off _ _ _ _ a1]
  · rw [zr_eq, if_neg (by omega), zu_eq, if_neg (by omega), zu_eq, if_neg (by omega)]
  · rw [zr_eq, if_pos rfl, if_pos hi, if_neg (by omega)]
  · rw [zr_eq, if_neg (by omega), zu_eq, if_pos ⟨rfl, rfl⟩, pB]
  · rw [zr_eq, if_neg (by omega), zu_eq, if_neg (by omega), zu_eq, if_pos ⟨rfl, rfl⟩, pB]
theorem C_powerAt_eq {b : Nat} {μ : zI} {ν : zJ} {x : Nat} (hx : x < 1000) : E_Panel_powerAt b (nI x) μ ν = some (μ (b + 8) x, μ, ν) := by
  rw [E_Panel_powerAt, e_Panel_powerAt_0]
  rw [if_neg (nI_pos (by omega)), if_neg (lge (c := 1000) (k := x) 1000 rfl hx (by decide)), if_pos (zin_nI hx (by decide)), nI_clamp (by omega), e_Panel_powerAt_21]
theorem C_powerAt_out {b : Nat} {μ : zI} {ν : zJ} {x : Int32} (hx : x < 0 ∨ (1000 : Int32) ≤ x) : E_Panel_powerAt b x μ ν = some (0, μ, ν) := by
  rw [E_Panel_powerAt, e_Panel_powerAt_0]
  by_cases c : x < 0
  · rw [if_pos c, e_Panel_powerAt_20, e_Panel_powerAt_21]
  · rw [if_neg c, if_pos (hx.resolve_left c), e_Panel_powerAt_20, e_Panel_powerAt_21]
