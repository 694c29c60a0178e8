/-! What a shade costs: the best by another light. -/
theorem C_copy {μ : zI} {ν : zJ} : ∃ μ', E_Panel_copyFrom 19 4 μ ν = some (μ', ν) ∧ (∀ r, r < 22 ∨ 28 ≤ r → μ' r = μ r) ∧ μ' (19 + 3) 0 = μ (4 + 3) 0 ∧ μ' (19 + 3) 1 = μ (4 + 3) 1 ∧ μ' (19 + 3) 2 = μ (4 + 3) 2 ∧ (∀ i, i < 6 → μ' (19 + 4) i = μ (4 + 4) i ∧ μ' (19 + 5) i = μ (4 + 5) i ∧ μ' (19 + 6) i = μ (4 + 6) i ∧ μ' (19 + 7) i = μ (4 + 7) i) ∧ ∀ x, x < 1000 → μ' (19 + 8) x = μ (4 + 8) x := by
  have h6 : zcp 0 6 6 = true := by decide
  have hk : zcp 0 1000 1000 = true := by decide
  rw [E_Panel_copyFrom, e_Panel_copyFrom_0]
  simp only [zlet, h6, hk, if_true]
  refine ⟨_, rfl, fun r hr => ?_, ?_, ?_, ?_, fun i hi => ⟨?_, ?_, ?_, ?_⟩, fun x hx => ?_⟩
  · have a3 : ¬ r = 19 + 3 := by omega
    have a4 : ¬ r = 19 + 4 := by omega
    have a5 : ¬ r = 19 + 5 := by omega
    have a6 : ¬ r = 19 + 6 := by omega
    have a7 : ¬ r = 19 + 7 := by omega
    have a8 : ¬ r = 19 + 8 := by omega
    rw [zr_eq, if_neg a8, zr_eq, if_neg a7, zr_eq, if_neg a6, zr_eq, if_neg a5, zr_eq, if_neg a4, zu_off _ _ _ _ a3, zu_off _ _ _ _ a3, zu_off _ _ _ _ a3]
  · simp [zr_eq, zu_eq]
  · simp [zr_eq, zu_eq]
  · simp [zr_eq, zu_eq]
  · simp [zr_eq, zu_eq, va_cpy, hi]
  · simp [zr_eq, zu_eq, va_cpy, hi]
  · simp [zr_eq, zu_eq, va_cpy, hi]
  · simp [zr_eq, zu_eq, va_cpy, hi]
  · simp [zr_eq, zu_eq, va_cpy, hx]
theorem C_has {b n i : Nat} {μ : zI} {ν : zJ} (hn : μ (b + 3) 0 = nI n) (h6 : n ≤ 6) (hi : i < n) : E_Panel_has b (nI i) μ ν = some (1, μ, ν) := by
  rw [E_Panel_has, e_Panel_has_0, if_neg (nI_pos (by omega)), hn, if_neg (nI_ge hi (by omega)), if_neg (lge (c := 6) (k := i) 6 rfl (by omega) (by decide)), e_Panel_has_23, if_pos (show zb 1 = true from rfl)]
theorem C_setLight {b n i : Nat} {μ : zI} {ν : zJ} {v : Int32} (hn : μ (b + 3) 0 = nI n) (h6 : n ≤ 6) (hi : i < n) : E_Panel_setLight b (nI i) v μ ν = some (zu (zu μ (b + 6) i v) (b + 7) i (μ (b + 4) i * v / 100), ν) := by
  have hz : zin (nI i) 6 = true := zin_nI (by omega) (by decide)
  rw [E_Panel_setLight, e_Panel_setLight_0, C_has hn h6 hi]
  simp only [Option.bind_some, n10, if_false, hz, if_true, zlet, e_Panel_setLight_32]
  rw [nI_clamp (by omega), zu_eq μ, if_neg (show ¬ (b + 4 = b + 6 ∧ i = i) by omega)]
/-- the lits, were one module's light v -/
def litV (lit am : Nat → Int32) (i : Nat) (v : Int32) : Nat → Int32 := fun j => if j = i then am i * v / 100 else lit j
theorem C_bestIf {q n i : Nat} {μ κ : zI} {ν : zJ} {v : Int32} (h : RP 4 q n μ κ) (hi : i < n) (hv0 : 0 ≤ v.toInt) (hv1 : v.toInt ≤ 100) : ∃ μ', E_S_bestIfLight (nI i) v μ ν = some ((pB (litV (mLit q κ) (κ (q + 4)) i v) (κ (q + 5)) n 1000).1, μ', ν) := by
  obtain ⟨h1, h2, h3, h4, h5, -⟩ := id h
  obtain ⟨μ1, e1, f1, f2, -, -, f5, -⟩ := C_copy (μ := μ) (ν := ν)
  have hn1 : μ1 (19 + 3) 0 = nI n := f2.trans h2
  have hq : ∀ j, j < n → zu (zu μ1 (19 + 6) i v) (19 + 7) i (μ1 (19 + 4) i * v / 100) (19 + 7) j = litV (mLit q κ) (κ (q + 4)) i v j ∧ zu (zu μ1 (19 + 6) i v) (19 + 7) i (μ1 (19 + 4) i * v / 100) (19 + 5) j = κ (q + 5) j := by
    intro j hj
    obtain ⟨a1, a2, a3, a4⟩ := f5 j (by omega)
    obtain ⟨b1, b2, b3, b4⟩ := h4 j hj
    obtain ⟨c1, -, -, -⟩ := f5 i (by omega)
    obtain ⟨d1, -, -, -⟩ := h4 i hi
    refine ⟨?_, ?_⟩
    · by_cases hji : j = i
      · subst hji
        rw [zu_eq, if_pos ⟨rfl, rfl⟩, litV, if_pos rfl, a1, b1]
      · rw [zu_eq, if_neg (fun e => hji e.2), zu_eq, if_neg (by omega), litV, if_neg hji, a4, b4]
    · rw [zu_eq, if_neg (by omega), zu_eq, if_neg (by omega), a2, b2]
  have hok : pOK (litV (mLit q κ) (κ (q + 4)) i v) (κ (q + 5)) n := by
    have o := h.ok
    refine ⟨h1, fun j hj => ?_⟩
    obtain ⟨o1, o2, o3, o4⟩ := o.2 j hj
    by_cases hji : j = i
    · subst hji
      obtain ⟨a1, a2, a3, a4, a5, a6⟩ := h5 j hj
      have t := lit_b a1 a2 hv0 hv1
      rw [litV, if_pos rfl]
      exact ⟨t.2.1, by omega, o3, o4⟩
    · rw [litV, if_neg hji]
      exact ⟨o1, o2, o3, o4⟩
  obtain ⟨μ3, e3, g3⟩ := C_reckon_eq (b := 19) (n := n) (μ := zu (zu μ1 (19 + 6) i v) (19 + 7) i (μ1 (19 + 4) i * v / 100)) (ν := ν) (by rw [zu_eq, if_neg (by omega), zu_eq, if_neg (by omega)]; exact hn1) (pOK_congr hq hok)
  refine ⟨μ3, ?_⟩
  rw [E_S_bestIfLight, e_S_bestIfLight_0, e1]
  simp only [Option.bind_some]
  rw [C_setLight hn1 h1 hi]
  simp only [Option.bind_some]
  rw [e3]
  simp only [Option.bind_some]
  rw [g3.2.2.2.1, pB_congr hq]
/-- lights(m, v) of the reference -/
theorem M_lights_eq {q i : Nat} {κ : zI} {τ : zJ} {v : Int32} (hi : i < 6) : E_M_lights q (nI i) v κ τ = some (zu (zu κ (q + 7) (19 + i) v) (q + 7) 145 0, τ) := by
  rw [E_M_lights, e_M_lights_0, lit19, if_pos (zin_nI (show 19 + i < 146 by omega) (by decide)), nI_clamp (by omega)]
  rfl
theorem M_bestBy_eq {q n i : Nat} {μ κ : zI} {τ : zJ} {v : Int32} {b : Nat} (h : RP b q n μ κ) (hi : i < n) (hv0 : 0 ≤ v.toInt) (hv1 : v.toInt ≤ 100) : ∃ κ', E_M_bestBy q (nI i) v κ τ = some ((pB (litV (mLit q κ) (κ (q + 4)) i v) (κ (q + 5)) n 1000).1, κ', τ) ∧ mQ q κ κ' ∧ mKn q n κ' := by
  obtain ⟨h1, h2, h3, h4, h5, -⟩ := id h
  have hlit : ∀ j, j < n → mLit q (zu (zu κ (q + 7) (19 + i) v) (q + 7) 145 0) j = litV (mLit q κ) (κ (q + 4)) i v j ∧ zu (zu κ (q + 7) (19 + i) v) (q + 7) 145 0 (q + 5) j = κ (q + 5) j := by
    intro j hj
    refine ⟨?_, by rw [zu_eq, if_neg (by omega), zu_eq, if_neg (by omega)]⟩
    have e4 : zu (zu κ (q + 7) (19 + i) v) (q + 7) 145 0 (q + 4) j = κ (q + 4) j := by rw [zu_eq, if_neg (by omega), zu_eq, if_neg (by omega)]
    by_cases hji : j = i
    · subst hji
      rw [mLit, if_pos (by omega), e4, zu_eq, if_neg (by omega), zu_eq, if_pos ⟨rfl, rfl⟩, litV, if_pos rfl]
    · rw [mLit, if_pos (by omega), e4, zu_eq, if_neg (by omega), zu_eq, if_neg (by omega), litV, if_neg hji, mLit, if_pos (by omega)]
  have hok : pOK (litV (mLit q κ) (κ (q + 4)) i v) (κ (q + 5)) n := by
    have o := h.ok
    refine ⟨h1, fun j hj => ?_⟩
    obtain ⟨o1, o2, o3, o4⟩ := o.2 j hj
    by_cases hji : j = i
    · subst hji
      obtain ⟨a1, a2, a3, a4, a5, a6⟩ := h5 j hj
      have t := lit_b a1 a2 hv0 hv1
      rw [litV, if_pos rfl]
      exact ⟨t.2.1, by omega, o3, o4⟩
    · rw [litV, if_neg hji]
      exact ⟨o1, o2, o3, o4⟩
  obtain ⟨κ2, g1, g2, g3, g4, g5⟩ := M_bestNow_eq (τ := τ) (q := q) (n := n) (κ := zu (zu κ (q + 7) (19 + i) v) (q + 7) 145 0) (by rw [zu_eq, if_neg (by omega), zu_eq, if_neg (by omega)]; exact h3) (pOK_congr hlit hok) (fun e => by rw [zu_eq, if_pos ⟨rfl, rfl⟩] at e; exact absurd e (by decide))
  rw [pB_congr hlit] at g1
  refine ⟨zu (zu κ2 (q + 7) (19 + i) (κ (q + 7) (19 + i))) (q + 7) 145 0, ?_, ?_, fun e => ?_⟩
  · rw [E_M_bestBy, e_M_bestBy_0, lit19, if_pos (zin_nI (show 19 + i < 146 by omega) (by decide)), nI_clamp (by omega)]
    simp only [zlet]
    rw [M_lights_eq (show i < 6 by omega)]
    simp only [Option.bind_some]
    rw [g1]
    simp only [Option.bind_some]
    rw [M_lights_eq (show i < 6 by omega)]
    simp only [Option.bind_some]
  · refine ⟨fun r a c => ?_, fun k a c d => ?_, fun k a c d => ?_⟩
    · rw [zu_off _ _ _ _ c, zu_off _ _ _ _ c, g2.1 r c, zu_off _ _ _ _ c, zu_off _ _ _ _ c]
    · have e7 : q ≠ q + 7 := by omega
      rw [zu_off _ _ _ _ e7, zu_off _ _ _ _ e7, g2.1 q e7, zu_off _ _ _ _ e7, zu_off _ _ _ _ e7]
    · rw [zu_eq, if_neg (by omega)]
      by_cases hk : k = 19 + i
      · subst hk
        rw [zu_eq, if_pos ⟨rfl, rfl⟩]
      · rw [zu_eq, if_neg (by omega), g2.2 k a c d, zu_eq, if_neg (by omega), zu_eq, if_neg (by omega)]
  · rw [zu_eq, if_pos ⟨rfl, rfl⟩] at e
    exact absurd e (by decide)
