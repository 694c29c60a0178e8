/-! The lines of a text. -/
theorem pc_x13 {q n m : Nat} {B : Nat → Bool} {μ κ : zI} (h : LN q n m B μ κ) : PK μ := h.2.2.1.pk
theorem kd_0 (c : Int32) : ¬ kd c = 0 := by
  rcases kd_c c with ⟨k, -⟩ | ⟨k, -⟩ | ⟨k, -⟩ | ⟨k, -⟩ | ⟨k, -⟩ <;> rw [k] <;> decide
/-- the end of the text, both -/
theorem end_iff {q L s : Nat} {t : Nat → Int32} {μ κ : zI} (h : T0 q L t s μ κ) : (s < L → ¬ μ 3 4 = 0 ∧ ¬ κ q 17 = 3) ∧ (¬ s < L → μ 3 4 = 0 ∧ κ q 17 = 3) := by
  obtain ⟨c0, -, -, -, -, -, ⟨f0, f2, f3, f4, f5⟩, f8⟩ := h
  refine ⟨fun hs => ?_, fun hs => ?_⟩
  · have e : tkK t L s = kd (t s) := by rw [tkK, if_pos hs]
    rw [c0.2.2.2.1, e]
    rw [e] at f0 f2 f3 f4 f5
    refine ⟨kd_0 _, ?_⟩
    rcases kd_c (t s) with ⟨k, -⟩ | ⟨k, -⟩ | ⟨k, -⟩ | ⟨k, -⟩ | ⟨k, -⟩
    · exact absurd k (f8 hs)
    · rw [(f2 k).2]
      split <;> decide
    · rw [(f3 k).1]; decide
    · rw [f4 k]; decide
    · rw [f5 k]; decide
  · have e : tkK t L s = 0 := by rw [tkK, if_neg hs]
    exact ⟨by rw [c0.2.2.2.1, e], f0 e⟩
theorem lines_T {q L : Nat} {t : Nat → Int32} {ν τ : zJ} {x1 : Int32} : ∀ (d s i f g n m : Nat) (B : Nat → Bool) (μ κ : zI), d + s = L → i ≤ s → d + 1 < f → d + 1 < g → T0 q L t s μ κ → TC L t μ → TM q L t κ → LN q n m B μ κ → κ q 13 = nI i → ∃ j x4 μ' κ', f_Reader_readInto_38 f (nI L) (nI i) (nI i) μ ν = e_Reader_readInto_72 (nI L) (nI j) x4 μ' ν ∧ f_M_readText_28 q g x1 κ τ = some (κ', τ) ∧ j ≤ L ∧ κ' q 13 = nI j ∧ xC μ μ' ∧ xM q κ κ' ∧ ((∃ n' m' B', LN q n' m' B' μ' κ' ∧ μ' 3 0 = 0 ∧ μ' 3 1 = -1 ∧ κ' q 19 = 0) ∨ (K0 q L t μ' κ' ∧ PK μ')) := by
  intro d
  induction d using Nat.strongRecOn with
  | _ d ih =>
    intro s i f g n m B μ κ hd hi hf hg hT hC hM hL h13
    obtain ⟨f, rfl⟩ : ∃ i, f = i + 1 + 1 := ⟨f - 2, by omega⟩
    obtain ⟨g, rfl⟩ : ∃ i, g = i + 1 + 1 := ⟨g - 2, by omega⟩
    have L9 := hC.1
    have ni : ¬ nI L < nI i := nI_nlt (by omega) (by omega)
    by_cases sl : s < L
    · obtain ⟨z4, z17⟩ := (end_iff hT).1 sl
      obtain ⟨μ1, κ1, a1, a2, a3, a4, a5, a6⟩ := line_T (ν := ν) (τ := τ) hT hC hM hL
      have k13 : κ1 q 13 = nI (i + 1) := by rw [a5, h13, nI_1]
      have sC : f_Reader_readInto_38 (f + 1 + 1) (nI L) (nI i) (nI i) μ ν = f_Reader_readInto_38 (f + 1) (nI L) (nI (i + 1)) (nI (i + 1)) μ1 ν := by
        rw [f_Reader_readInto_38, if_neg ni, if_neg z4, if_pos hT.2.1, ob_eq a1, nI_1]
      have sM : f_M_readText_28 q (g + 1 + 1) x1 κ τ = f_M_readText_28 q (g + 1) x1 κ1 τ := by
        rw [f_M_readText_28, if_pos hT.2.2.2.1, if_neg z17, ob_eq a2]
      rw [sC, sM]
      rcases a6 with ⟨s', n', m', B', b1, b2, b3, b4⟩ | ⟨b1, b2⟩
      · obtain ⟨j, x4, μ', κ', c1, c2, c3, c4, c5, c6, c7⟩ := ih (L - s') (by omega) s' (i + 1) (f + 1) (g + 1) n' m' B' μ1 κ1 (by have := b3.1.1; omega) (by omega) (by have := b3.1.1; omega) (by have := b3.1.1; omega) b3 (hC.x a3) (hM.x a4) b4 k13
        exact ⟨j, x4, μ', κ', c1, c2, c3, c4, a3.tr c5, a4.tr c6, c7⟩
      · refine ⟨i + 1, nI (i + 1), μ1, κ1, ?_, ?_, by omega, k13, a3, a4, Or.inr ⟨b1, b2⟩⟩
        · rw [f_Reader_readInto_38, if_neg (show ¬ μ1 3 0 = 0 by rw [b1.2.2.1]; exact b1.2.1), ite_self, ite_self]
        · rw [f_M_readText_28, if_neg b1.2.1, e_M_readText_50]
    · obtain ⟨z4, z17⟩ := (end_iff hT).2 sl
      refine ⟨i, nI i, μ, κ, ?_, ?_, by omega, h13, ⟨fun _ _ _ => rfl, fun _ _ => rfl, fun _ _ => rfl⟩, ⟨fun _ _ _ => rfl, fun _ _ _ _ _ _ _ => rfl, fun _ _ => ⟨rfl, rfl⟩⟩, Or.inl ⟨n, m, B, hL, hT.2.1, hT.2.2.1, hT.2.2.2.1⟩⟩
      · rw [f_Reader_readInto_38, if_neg ni, if_pos z4]
      · rw [f_M_readText_28, if_pos hT.2.2.2.1, if_pos z17, e_M_readText_50]
