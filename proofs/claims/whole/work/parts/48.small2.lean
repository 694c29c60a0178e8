/-! settle, now, sum, count, fault, comes, cancel. -/
def tl (k : Nat) : Int32 := ((zTabs.getD 1 ("", "", [])).2.2).getD k 0
def tm (k : Nat) : Int32 := ((zTabs.getD 2 ("", "", [])).2.2).getD k 0
theorem tl_t : ∀ k, k < 19 → (tl k).toInt = tLO.getD k 0 := by decide
theorem tm_t : ∀ k, k < 19 → (tm k).toInt = tHI.getD k 0 := by decide
theorem M_least {κ : zI} {τ : zJ} : ∀ k, k < 19 → E_M_leastOf (nI k) κ τ = some (tl k, κ, τ)
  | 0, _ => rfl
  | 1, _ => rfl
  | 2, _ => rfl
  | 3, _ => rfl
  | 4, _ => rfl
  | 5, _ => rfl
  | 6, _ => rfl
  | 7, _ => rfl
  | 8, _ => rfl
  | 9, _ => rfl
  | 10, _ => rfl
  | 11, _ => rfl
  | 12, _ => rfl
  | 13, _ => rfl
  | 14, _ => rfl
  | 15, _ => rfl
  | 16, _ => rfl
  | 17, _ => rfl
  | 18, _ => rfl
  | k + 19, h => by omega
theorem M_most {κ : zI} {τ : zJ} : ∀ k, k < 19 → k ≠ 3 → E_M_mostOf (nI k) κ τ = some (tm k, κ, τ)
  | 0, _, _ => rfl
  | 1, _, _ => rfl
  | 2, _, _ => rfl
  | 3, _, h => absurd rfl h
  | 4, _, _ => rfl
  | 5, _, _ => rfl
  | 6, _, _ => rfl
  | 7, _, _ => rfl
  | 8, _, _ => rfl
  | 9, _, _ => rfl
  | 10, _, _ => rfl
  | 11, _, _ => rfl
  | 12, _, _ => rfl
  | 13, _, _ => rfl
  | 14, _, _ => rfl
  | 15, _, _ => rfl
  | 16, _, _ => rfl
  | 17, _, _ => rfl
  | 18, _, _ => rfl
  | k + 19, h, _ => by omega
theorem C_mayBe {k : Nat} {v : Int32} {μ : zI} {ν : zJ} (h : k < 19) : E_Told_mayBe (nI k) v μ ν = some (if v < tl k then 0 else if tm k < v then 0 else 1, μ, ν) := by
  rw [E_Told_mayBe, e_Told_mayBe_0, if_neg (nI_pos (by omega)), if_neg (lge (c := 19) (k := k) 19 rfl h (by decide)), if_pos (zin_nI h (by decide)), if_pos (zin_nI h (by decide)), nI_clamp (by omega), e_Told_mayBe_32, e_Told_mayBe_33, e_Told_mayBe_33, if_pos (show zb 0 = true from rfl), if_pos (show zb 1 = true from rfl)]
  show (if v < tl k then some (0, μ, ν) else if tm k < v then some (0, μ, ν) else some (1, μ, ν)) = _
  by_cases c : v < tl k
  · rw [if_pos c, if_pos c]
  · rw [if_neg c, if_neg c]
    by_cases d : tm k < v
    · rw [if_pos d, if_pos d]
    · rw [if_neg d, if_neg d]
theorem sim_settle {q : Nat} (w v : Int32) : Sim q (E_S_settle w v) (E_M_settle q w v) := by
  intro n c x μ ν κ τ h
  obtain ⟨κ0, hκ0⟩ : ∃ κ0, κ0 = zu κ q 0 0 := ⟨_, rfl⟩
  have h0 : RR q n c x μ ν κ0 τ := hκ0 ▸ h.th
  have bad : E_S_settle w v μ ν = some (-1, μ, ν) → E_M_settle q w v κ τ = some (-1, κ0, τ) → ∃ (r : Int32) (n' c' x' : Nat) (μ' : zI) (ν' : zJ) (κ' : zI) (τ' : zJ), E_S_settle w v μ ν = some (r, μ', ν') ∧ E_M_settle q w v κ τ = some (r, κ', τ') ∧ RR q n' c' x' μ' ν' κ' τ' := fun e1 e2 => ⟨-1, n, c, x, μ, ν, κ0, τ, e1, e2, h0⟩
  have not1 : (w < 4 ∨ 18 < w) → ¬ w = 1 → E_S_settle w v μ ν = some (-1, μ, ν) := fun o n1 => by
    rw [E_S_settle, e_S_settle_0, if_neg n1, ob_eq (S_out o), if_pos rfl, e_S_settle_20, if_pos rfl, e_S_settle_33]
  rcases rg_or w 18 (by decide) with o | ⟨k, hk, e⟩
  · have n1 : ¬ w = 1 := fun e => by
      rw [e] at o
      exact absurd o (by decide)
    refine bad (not1 ?_ n1) ?_
    · rcases o with o | o
      · exact Or.inl (Int32.lt_trans o (by decide))
      · exact Or.inr o
    · rw [E_M_settle, e_M_settle_0, zlet_eq, if_neg n1, ← hκ0, e_M_settle_37]
      rcases o with o | o
      · rw [if_pos (Int32.lt_trans o (show (0 : Int32) < 4 by decide))]
      · rw [if_pos (show (18 : Int32) < w from o), ite_self]
  · subst e
    by_cases k4 : k < 4 ∧ k ≠ 1
    · have n1 : ¬ nI k = 1 := fun e => k4.2 ((nI_eq (b := 1) (by omega) (by decide)).mp e)
      have lt4 : nI k < 4 := nI_lt (b := 4) k4.1 (by decide)
      refine bad (not1 (Or.inl lt4) n1) ?_
      rw [E_M_settle, e_M_settle_0, zlet_eq, if_neg n1, ← hκ0, if_pos lt4, e_M_settle_37]
    · have sC : E_S_settle (nI k) v μ ν = e_S_settle_20 (nI k) v 1 μ ν := by
        rw [E_S_settle, e_S_settle_0, e_S_settle_15]
        by_cases k1 : k = 1
        · rw [if_pos (by rw [k1]; rfl)]
        · rw [if_neg (show ¬ nI k = 1 from fun e => k1 ((nI_eq (b := 1) (by omega) (by decide)).mp e)), ob_eq (S_in (show ¬ nI k < 4 from nI_nlt (b := 4) (by omega) (by omega)) (show ¬ (18 : Int32) < nI k from nI_nlt (a := 18) (by omega) (by omega))), if_neg one_ne_0, e_S_settle_15]
      have sM : E_M_settle q (nI k) v κ τ = e_M_settle_21 q (nI k) v κ0 τ := by
        rw [E_M_settle, e_M_settle_0, zlet_eq, ← hκ0]
        by_cases k1 : k = 1
        · rw [if_pos (by rw [k1]; rfl)]
        · rw [if_neg (show ¬ nI k = 1 from fun e => k1 ((nI_eq (b := 1) (by omega) (by decide)).mp e)), if_neg (show ¬ nI k < 4 from nI_nlt (b := 4) (by omega) (by omega)), if_neg (show ¬ (18 : Int32) < nI k from nI_nlt (a := 18) (by omega) (by omega))]
      have sC2 : e_S_settle_20 (nI k) v 1 μ ν = if v < tl k then some (-1, μ, ν) else if tm k < v then some (-1, μ, ν) else some (μ (4 + 2) k, zu μ (4 + 2) k v, ν) := by
        rw [e_S_settle_20, if_neg one_ne_0, ob_eq (C_mayBe (by omega))]
        by_cases c : v < tl k
        · rw [if_pos c, if_pos c, if_pos rfl, e_S_settle_33]
        · rw [if_neg c, if_neg c]
          by_cases d : tm k < v
          · rw [if_pos d, if_pos d, if_pos rfl, e_S_settle_33]
          · rw [if_neg d, if_neg d, if_neg one_ne_0, ob_eq (Tg (by omega)), zlet_eq]
            have ep : E_Told_put 4 (nI k) v μ ν = some (zu μ (4 + 2) k v, ν) := by
              rw [E_Told_put, e_Told_put_0, if_neg (nI_pos (by omega)), if_neg (lge (c := 19) (k := k) 19 rfl (by omega) (by decide)), if_pos (zin_nI (by omega) (by decide)), nI_clamp (by omega), zlet_eq, e_Told_put_17]
            rw [ob_eq ep]
      have sM2 : e_M_settle_21 q (nI k) v κ0 τ = if v < tl k then some (-1, κ0, τ) else if tm k < v then some (-1, κ0, τ) else some (κ0 (q + 7) k, zu κ0 (q + 7) k v, τ) := by
        rw [e_M_settle_21, ob_eq (M_least k (by omega))]
        by_cases c : v < tl k
        · rw [if_pos c, if_pos c, e_M_settle_37]
        · rw [if_neg c, if_neg c, ob_eq (M_most k (by omega) (by omega))]
          by_cases d : tm k < v
          · rw [if_pos d, if_neg (Int32.not_le.mpr d), e_M_settle_37]
          · rw [if_neg d, if_pos (Int32.not_lt.mp d), if_pos (zin_nI (by omega) (by decide)), nI_clamp (by omega), zlet_eq, if_pos (zin_nI (by omega) (by decide)), zlet_eq]
      by_cases cc : v < tl k
      · rw [if_pos cc] at sC2 sM2
        exact bad (sC.trans sC2) (sM.trans sM2)
      · rw [if_neg cc] at sC2 sM2
        by_cases d : tm k < v
        · rw [if_pos d] at sC2 sM2
          exact bad (sC.trans sC2) (sM.trans sM2)
        · rw [if_neg d] at sC2 sM2
          obtain ⟨hP, hT, hF, hB, hI, hS, ht, htk, ht0, hz⟩ := h0.1
          refine ⟨κ0 (q + 7) k, n, c, x, zu μ (4 + 2) k v, ν, zu κ0 (q + 7) k v, τ, ?_, sM.trans sM2, h0.st ⟨hP.fr (fun r _ _ => zgr (by omega)) (by rw [zgr (by omega)]) (zgr (by omega)) (zgr (by omega)) (fun i _ => zgk (by omega)) (fun j _ => zgk (by omega)), fun j hj => ?_, hF.fr (zgr (by omega)) (fun j _ => zgk (by omega)), hB.fr (zgr (by omega)) (fun j _ => zgk (by omega)), hI.fr (fun j _ => by rw [zgr (by omega)]) (fun j _ _ => zgk (by omega)), hS.fr (zgr (by omega)) (zgr (by omega)) (fun j _ _ => zgk (by omega)), by rw [zgr (by omega), zgk (by omega)]; exact ht, fun j hj => by rw [zgk (by omega), zgk (by omega)]; exact htk j hj, by rw [zgk (by omega)]; exact ht0, by rw [zgr (by omega)]; exact hz⟩ (fun r _ => zgr (by omega)) (fun r _ h7 => zgr h7) (fun j _ => by rw [zgr (by omega)]) (zgk (by omega))⟩
          · rw [sC, sC2, (hT k (by omega)).1]
          · by_cases e : j = k
            · subst e
              have c' := ile.mp (Int32.not_lt.mp cc)
              have d' := ile.mp (Int32.not_lt.mp d)
              rw [tl_t j hj] at c'
              rw [tm_t j hj] at d'
              rw [zgh, zgh]
              exact ⟨rfl, c', d'⟩
            · rw [zgk e, zgk e]
              exact hT j hj
theorem sim_now {q : Nat} (w : Int32) : Sim q (E_S_now w) (E_M_now q w) := by
  intro n c x μ ν κ τ h
  rcases rg_or w 17 (by decide) with o | ⟨k, hk, e⟩
  · refine ⟨-10, n, c, x, μ, ν, zu κ q 0 0, τ, ?_, ?_, h.th⟩
    · have ne : ∀ v : Int32, ¬ (v < 0 ∨ nI 17 < v) → ¬ w = v := fun v hv e => hv (e ▸ o)
      have out : w < 0 ∨ 7 < w := o.imp id (fun h => Int32.lt_trans (show (7 : Int32) < nI 17 by decide) h)
      rw [E_S_now, e_S_now_0, ob_eq (S_out out), if_pos rfl, E_S_behindNow, e_S_behindNow_0, if_neg (ne 8 (by decide)), if_neg (ne 9 (by decide)), if_neg (ne 10 (by decide)), if_neg (ne 11 (by decide)), if_neg (ne 12 (by decide)), if_neg (ne 13 (by decide)), if_neg (ne 14 (by decide)), if_neg (ne 15 (by decide)), if_neg (ne 16 (by decide)), if_neg (ne 17 (by decide))]
      rfl
    · rw [E_M_now, e_M_now_0, zlet_eq, e_M_now_27, e_M_now_29]
      rcases o with o | o
      · rw [if_pos o]
      · rw [if_pos (show (17 : Int32) < w from o), ite_self]
  · subst e
    refine ⟨κ (q + 7) (25 + k), n, c, x, μ, ν, zu κ q 0 0, τ, ?_, ?_, h.th⟩
    · obtain ⟨-, -, ⟨⟨⟨y, hy, y1, y2⟩, g2, g3, g4⟩, f2, f3, f4, -⟩, hB, hI, -, ht, -⟩ := h.1
      have hk' : k = 0 ∨ k = 1 ∨ k = 2 ∨ k = 3 ∨ k = 4 ∨ k = 5 ∨ k = 6 ∨ k = 7 ∨ k = 8 ∨ k = 9 ∨ k = 10 ∨ k = 11 ∨ k = 12 ∨ k = 13 ∨ k = 14 ∨ k = 15 ∨ k = 16 ∨ k = 17 := by omega
      rcases hk' with rfl | rfl | rfl | rfl | rfl | rfl | rfl | rfl | rfl | rfl | rfl | rfl | rfl | rfl | rfl | rfl | rfl | rfl
      · show some (μ 4 0, μ, ν) = some (κ (q + 7) 25, μ, ν)
        rw [ht]
      · show some (μ (4 + 11) 0, μ, ν) = some (κ (q + 7) 26, μ, ν)
        rw [y1, y2]
      · show some (μ (4 + 11) 1, μ, ν) = some (κ (q + 7) 27, μ, ν)
        rw [g2.1]
      · show some (μ (4 + 11) 2, μ, ν) = some (κ (q + 7) 28, μ, ν)
        rw [g3.1]
      · show some (μ (4 + 11) 3, μ, ν) = some (κ (q + 7) 29, μ, ν)
        rw [g4]
      · show some (μ (4 + 11) 4, μ, ν) = some (κ (q + 7) 30, μ, ν)
        rw [f2.1]
      · show Option.bind (Option.bind (E_S_flag (μ (4 + 11) 7) μ ν) fun ty9 => some (ty9.1, ty9.2.1, ty9.2.2)) (fun ty4 => some (ty4.1, ty4.2.1, ty4.2.2)) = some (κ (q + 7) 31, μ, ν)
        rw [S_flag, f4.1, fI_01 f4.2]
        rfl
      · show some (μ (4 + 11) 5, μ, ν) = some (κ (q + 7) 32, μ, ν)
        rw [f3]
      · show some (μ (4 + 12) 0, μ, ν) = some (κ (q + 7) 33, μ, ν)
        rw [hB.1]
      · show some (μ (4 + 12) 1, μ, ν) = some (κ (q + 7) 34, μ, ν)
        rw [hB.2.1]
      · show some (μ (4 + 12) 2, μ, ν) = some (κ (q + 7) 35, μ, ν)
        rw [hB.2.2.1]
      · show Option.bind (Option.bind (E_S_flag (μ (4 + 13) 0) μ ν) fun ty11 => some (ty11.1, ty11.2.1, ty11.2.2)) (fun ty4 => some (ty4.1, ty4.2.1, ty4.2.2)) = some (κ (q + 7) 36, μ, ν)
        rw [S_flag, hI.1.1, fI_01 hI.1.2]
        rfl
      · show some (μ (4 + 13) 1, μ, ν) = some (κ (q + 7) 37, μ, ν)
        rw [hI.2.1]
      · show some (μ (4 + 13) 2, μ, ν) = some (κ (q + 7) 38, μ, ν)
        rw [hI.2.2.1]
      · show some (μ (4 + 13) 3, μ, ν) = some (κ (q + 7) 39, μ, ν)
        rw [hI.2.2.2.1]
      · show some (μ (4 + 13) 4, μ, ν) = some (κ (q + 7) 40, μ, ν)
        rw [hI.2.2.2.2.1]
      · show some (μ (4 + 13) 5, μ, ν) = some (κ (q + 7) 41, μ, ν)
        rw [hI.2.2.2.2.2.1]
      · show some (μ (4 + 13) 6, μ, ν) = some (κ (q + 7) 42, μ, ν)
        rw [hI.2.2.2.2.2.2.1]
    · rw [E_M_now, e_M_now_0, zlet_eq, if_neg (nI_pos (by omega)), if_neg (show ¬ (17 : Int32) < nI k from nI_nlt (a := 17) (by omega) (by omega)), show (25 : Int32) + nI k = nI (25 + k) from nI_add 25 k, if_pos (zin_nI (by omega) (by decide)), nI_clamp (by omega), e_M_now_29, zgr (by omega)]
theorem sim_sum {q : Nat} (w : Int32) : SimL q (E_S_sum w) (E_M_sum q w) := by
  intro n c x μ ν κ τ h
  rcases rg_or w 10 (by decide) with o | ⟨k, hk, e⟩
  · refine ⟨-1, n, c, x, μ, ν, zu κ q 0 0, τ, ?_, ?_, h.th⟩
    · have e1 : E_Station_isSum 4 w μ ν = some (0, μ, ν) := by
        rw [E_Station_isSum, e_Station_isSum_0, e_Station_isSum_14, e_Station_isSum_15, if_pos (show zb 0 = true from rfl)]
        rcases o with o | o
        · rw [if_pos o]
        · have o' := ilt.mp o
          rw [show (nI 10).toInt = 10 from rfl] at o'
          rw [if_pos (show (11 : Int32) ≤ w from ile.mpr (by rw [show (11 : Int32).toInt = 11 from rfl]; omega)), ite_self]
      rw [E_S_sum, e_S_sum_0, ob_eq e1, if_pos rfl, e_S_sum_25]
    · rw [E_M_sum, e_M_sum_0, zlet_eq, e_M_sum_24, e_M_sum_27]
      rcases o with o | o
      · rw [if_pos o]
      · rw [if_pos (show (10 : Int32) < w from o), ite_self]
  · subst e
    refine ⟨τ (q + 9) k, n, c, x, μ, ν, zu κ q 0 0, τ, ?_, ?_, h.th⟩
    · have e1 : E_Station_isSum 4 (nI k) μ ν = some (1, μ, ν) := by
        rw [E_Station_isSum, e_Station_isSum_0, if_neg (nI_pos (by omega)), if_neg (lge (c := 11) (k := k) 11 rfl (by omega) (by decide)), e_Station_isSum_15, if_pos (show zb 1 = true from rfl)]
      rw [E_S_sum, e_S_sum_0, ob_eq e1, if_neg one_ne_0, E_Station_sumOf, e_Station_sumOf_0, ob_eq e1, if_neg one_ne_0, if_pos (zin_nI (by omega) (by decide)), nI_clamp (by omega), e_Station_sumOf_18, Option.bind_some, e_S_sum_25]
      show some (ν (4 + 14) k, μ, ν) = _
      rw [h.2.2.1.1 k (by omega)]
    · rw [E_M_sum, e_M_sum_0, zlet_eq, if_neg (nI_pos (by omega)), if_neg (show ¬ (10 : Int32) < nI k from nI_nlt (a := 10) (by omega) (by omega)), if_pos (zin_nI (by omega) (by decide)), nI_clamp (by omega), e_M_sum_27]
theorem sim_count {q : Nat} (w : Int32) : Sim q (E_S_count w) (E_M_count q w) := by
  intro n c x μ ν κ τ h
  have k7 : ∀ k, zu κ q 0 0 (q + 7) k = κ (q + 7) k := fun k => by rw [zgr (by omega)]
  have kq : ∀ k, k ≠ 0 → zu κ q 0 0 q k = κ q k := fun k a => zgk a
  obtain ⟨s, -, s1, s2, -⟩ := h.2.2.2.2.2.1
  obtain ⟨m, t, -, -, m1, -, m2, -⟩ := h.2.1
  have el : E_Schedule_left 4 μ ν = some (nI (c - x), μ, ν) := h.1.2.2.2.2.2.1.left
  have e46 : κ (q + 7) 46 = nI (c - x) := h.1.2.2.2.2.2.1.2.2.2.2.1
  have eM : E_M_count q w κ τ = some (if w = 0 then nI n else if w = 1 then nI (c - x) else if w = 2 then nI m else if w = 3 then nI s else -1, zu κ q 0 0, τ) := by
    rw [E_M_count, e_M_count_0, zlet_eq, kq 9 (by decide), kq 28 (by decide), kq 2 (by decide), k7, h.1.1.2.2.1, e46, m2, s2]
    repeat' split
    all_goals rfl
  have eC : E_S_count w μ ν = some (if w = 0 then nI n else if w = 1 then nI (c - x) else if w = 2 then nI m else if w = 3 then nI s else -1, μ, ν) := by
    rw [E_S_count, e_S_count_0, ob_eq el, h.1.1.2.1, m1, s1]
    repeat' split
    all_goals rfl
  exact ⟨_, n, c, x, μ, ν, _, τ, eC, eM, h.th⟩
theorem sim_fault {q : Nat} (w : Int32) : Sim q (E_S_fault w) (E_M_fault q w) := by
  intro n c x μ ν κ τ h
  have kq : ∀ k, k ≠ 0 → zu κ q 0 0 q k = κ q k := fun k a => zgk a
  obtain ⟨f1, f2⟩ := h.2.2.2.2.2.2
  have eM : E_M_fault q w κ τ = some (if w = 0 then κ q 21 else if w = 1 then κ q 22 else -1, zu κ q 0 0, τ) := by
    rw [E_M_fault, e_M_fault_0, zlet_eq, kq 21 (by decide), kq 22 (by decide)]
    repeat' split
    all_goals rfl
  have eC : E_S_fault w μ ν = some (if w = 0 then κ q 21 else if w = 1 then κ q 22 else -1, μ, ν) := by
    rw [E_S_fault, e_S_fault_0, f1, f2]
    repeat' split
    all_goals rfl
  exact ⟨_, n, c, x, μ, ν, _, τ, eC, eM, h.th⟩
theorem sim_comes {q : Nat} (k w : Int32) : Sim q (E_S_comes k w) (E_M_comes q k w) := by
  intro n c x μ ν κ τ h
  have k7 : ∀ k, zu κ q 0 0 (q + 7) k = κ (q + 7) k := fun k => by rw [zgr (by omega)]
  have hS : RS 4 q n c x μ κ := h.1.2.2.2.2.2.1
  have c24 := hS.1
  by_cases c0 : k < 0
  · exact ⟨-1, n, c, x, μ, ν, zu κ q 0 0, τ, by rw [E_S_comes, e_S_comes_0, if_pos c0, e_S_comes_13], by rw [E_M_comes, e_M_comes_0, zlet_eq, if_pos c0, e_M_comes_18], h.th⟩
  · obtain ⟨i, hi, e⟩ := nI_of c0
    subst e
    rcases rg_or w 3 (by decide) with o | ⟨j, hj, e⟩
    · refine ⟨-1, n, c, x, μ, ν, zu κ q 0 0, τ, by rw [E_S_comes, e_S_comes_0, if_neg c0, ob_eq (S_out (show w < 0 ∨ 3 < w from o)), if_pos rfl, e_S_comes_13], ?_, h.th⟩
      rw [E_M_comes, e_M_comes_0, zlet_eq, if_neg c0, e_M_comes_18]
      rcases o with o | o
      · rw [if_pos o]
      · rw [if_neg (Int32.not_le.mpr (show (3 : Int32) < w from o)), ite_self]
    · subst e
      have hin : E_S_isWithin (nI j) 0 3 μ ν = some (1, μ, ν) := S_in (nI_pos (by omega)) (show ¬ (3 : Int32) < nI j from nI_nlt (a := 3) (by omega) (by omega))
      have sC : E_S_comes (nI i) (nI j) μ ν = if nI (c - x) ≤ nI i then some (-2, μ, ν) else Option.bind (E_Schedule_get 4 (nI i) (nI j) μ ν) fun ty6 => e_S_comes_46 (nI i) (nI j) ty6.1 ty6.2.1 ty6.2.2 := by
        rw [E_S_comes, e_S_comes_0, if_neg c0, ob_eq hin, if_neg one_ne_0, ob_eq hS.left, e_S_comes_46]
      have sM : E_M_comes q (nI i) (nI j) κ τ = if nI (c - x) ≤ nI i then some (-2, zu κ q 0 0, τ) else (if zin ((47 + (4 * nI i)) + nI j) 146 = true then some (zu κ q 0 0 (q + 7) (Int32.toNatClampNeg ((47 + (4 * nI i)) + nI j)), zu κ q 0 0, τ) else none) := by
        rw [E_M_comes, e_M_comes_0, zlet_eq, if_neg c0, if_neg (nI_pos (by omega)), if_pos (show nI j ≤ 3 from nI_le (b := 3) (by omega) (by decide)), k7, hS.2.2.2.2.1, e_M_comes_49, e_M_comes_49]
      by_cases d : c - x ≤ i
      · rw [if_pos (nI_le d hi)] at sC sM
        exact ⟨-2, n, c, x, μ, ν, _, τ, sC, sM, h.th⟩
      · rw [if_neg (nI_ge (by omega) (by omega))] at sC sM
        rw [ob_eq (hS.get (by omega) (by omega)), e_S_comes_46] at sC
        rw [show (47 : Int32) + 4 * nI i + nI j = nI (47 + (4 * i + j)) by rw [show (4 : Int32) * nI i = nI (4 * i) from pk_mul 4 i, show (47 : Int32) + nI (4 * i) = nI (47 + 4 * i) from nI_add 47 (4 * i), nI_add, Nat.add_assoc], if_pos (zin_nI (by omega) (by decide)), nI_clamp (by omega), k7] at sM
        exact ⟨_, n, c, x, μ, ν, _, τ, sC, sM, h.th⟩
