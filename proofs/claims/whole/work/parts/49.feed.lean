/-! cancel, feed. -/
theorem zcp_nI {a b N : Nat} (h : a + b ≤ N) (hN : N < 2 ^ 31) : zcp (nI a) (nI b) N = true := by
  unfold zcp
  rw [nI_clamp (by omega), nI_clamp (by omega)]
  simp only [nI_pos' (show a < 2 ^ 31 by omega), nI_pos' (show b < 2 ^ 31 by omega), h, decide_true, Bool.and_self]
theorem sim_cancel {q : Nat} (k : Int32) : Sim q (E_S_cancel k) (E_M_cancel q k) := by
  intro n c x μ ν κ τ h
  obtain ⟨κ0, hκ0⟩ : ∃ κ0, κ0 = zu κ q 0 0 := ⟨_, rfl⟩
  have h0 : RR q n c x μ ν κ0 τ := hκ0 ▸ h.th
  obtain ⟨hP, hT, hF, hB, hI, hS, ht, htk, ht0, hz⟩ := h0.1
  by_cases c0 : 0 ≤ k
  · obtain ⟨i, hi, e⟩ := nI_of (Int32.not_lt.mpr c0)
    subst e
    by_cases d : i < c - x
    · obtain ⟨s1, s2, s3, s4, s5, s6, s7, s8⟩ := id hS
      obtain ⟨κ', r1, r2, r3, r4, r5, r6⟩ := M_rem (q := q) (L := c - x - 1) (i := i) (κ := κ0) (τ := τ) (by omega) (by omega) (by rw [s5, show c - x - 1 + 1 = c - x by omega])
      obtain ⟨A, hA⟩ : ∃ A, A = zu (zr μ (4 + 10) (va_cpy (μ (4 + 10)) (μ (4 + 10)) (4 * (x + i + 1)) (4 * (x + i)) (4 * (c - (x + i + 1))))) (4 + 9) 0 (nI (c - 1)) := ⟨_, rfl⟩
      have ar : ∀ r, r ≠ 4 + 9 → r ≠ 4 + 10 → A r = μ r := fun r a b => by rw [hA, zgr a, zr_eq, if_neg b]
      have a90 : A (4 + 9) 0 = nI (c - 1) := by rw [hA, zgh]
      have a91 : A (4 + 9) 1 = nI x := by rw [hA, zgk (by decide), zr_eq, if_neg (by decide)]; exact s4
      have a10 : A (4 + 10) = va_cpy (μ (4 + 10)) (μ (4 + 10)) (4 * (x + i + 1)) (4 * (x + i)) (4 * (c - (x + i + 1))) := by rw [hA, zgr (by decide), zr_eq, if_pos rfl]
      have row : ∀ i' w, i' < c - 1 - x → w < 4 → A (4 + 10) (4 * (x + i') + w) = if i' < i then μ (4 + 10) (4 * (x + i') + w) else μ (4 + 10) (4 * (x + (i' + 1)) + w) := by
        intro i' w hi' hw
        rw [a10]
        unfold va_cpy
        by_cases e : i' < i
        · rw [if_pos e, if_neg (by omega)]
        · rw [if_neg e, if_pos (by omega)]
          congr 1
          omega
      have e46 : κ0 (q + 7) 46 = nI (c - x) := s5
      have eC : E_S_cancel (nI i) μ ν = some (nI (c - x - 1), A, ν) := by
        have e1 : nI x + nI i + 1 = nI (x + i + 1) := by rw [nI_add, nI_1]
        have e2 : nI (x + i + 1) * 4 = nI (4 * (x + i + 1)) := by rw [Nat.mul_comm]; exact pk_mul _ 4
        have e3 : (nI c - nI (x + i + 1)) * 4 = nI (4 * (c - (x + i + 1))) := by rw [pk_sub (by omega), Nat.mul_comm]; exact pk_mul _ 4
        have e4 : (nI (x + i + 1) - 1) * 4 = nI (4 * (x + i)) := by rw [nI_pred, Nat.mul_comm]; exact pk_mul _ 4
        have z1 : zcp (nI (4 * (x + i + 1))) (nI (4 * (c - (x + i + 1)))) 96 = true := zcp_nI (by omega) (by decide)
        have z2 : zcp (nI (4 * (x + i))) (nI (4 * (c - (x + i + 1)))) 96 = true := zcp_nI (by omega) (by decide)
        have ed : E_Schedule_drop 4 (nI i) μ ν = some (A, ν) := by
          rw [E_Schedule_drop, e_Schedule_drop_0, if_neg (nI_pos hi), ob_eq hS.left, if_pos (nI_lt d (by omega)), zlet_eq]
          simp only [s3, s4, e1, e2, e3, e4, z1, z2, if_true]
          rw [zlet_eq, zlet_eq, nI_clamp (by omega), nI_clamp (by omega), nI_clamp (by omega), zr_eq, if_neg (by decide), s3, show nI c - 1 = nI (c - 1) from nI_m1 (by omega), hA]
        rw [E_S_cancel, e_S_cancel_0, if_pos c0, ob_eq hS.left, if_pos (nI_lt d (by omega)), ob_eq ed, E_Schedule_left, e_Schedule_left_0]
        dsimp only
        rw [a90, a91, pk_sub (by omega), Option.bind_some, show c - 1 - x = c - x - 1 by omega]
      have eM : E_M_cancel q (nI i) κ τ = some (nI (c - x - 1), κ', τ) := by
        rw [E_M_cancel, e_M_cancel_0, zlet_eq, ← hκ0, if_pos c0, e46, if_pos (nI_lt d (by omega)), ob_eq r1]
        dsimp only
        rw [r3]
      have k7 : ∀ k, k < 46 ∨ 143 ≤ k → κ' (q + 7) k = κ0 (q + 7) k := fun k hk => r4 k (by omega)
      have kr : ∀ i' w, i' < c - 1 - x → w < 4 → κ' (q + 7) (47 + (4 * i' + w)) = if i' < i then κ0 (q + 7) (47 + (4 * i' + w)) else κ0 (q + 7) (47 + (4 * (i' + 1) + w)) := by
        intro i' w hi' hw
        by_cases e : i' < i
        · rw [if_pos e, r5 _ (by omega)]
        · rw [if_neg e, r6 _ (by omega) (by omega), show 4 * (i' + 1) + w = 4 * i' + w + 4 by omega]
      have S' : RS 4 q n (c - 1) x A κ' := by
        refine ⟨by omega, by omega, a90, a91, by rw [r3, show c - 1 - x = c - x - 1 by omega], fun i' w hi' hw => ?_, fun i' hi' => ?_, fun i' j hij hj => ?_⟩
        · rw [row i' w hi' hw, kr i' w hi' hw]
          by_cases e : i' < i
          · rw [if_pos e, if_pos e]; exact s6 i' w (by omega) hw
          · rw [if_neg e, if_neg e]; exact s6 (i' + 1) w (by omega) hw
        · rw [kr i' 1 hi' (by decide), kr i' 2 hi' (by decide), kr i' 3 hi' (by decide)]
          by_cases e : i' < i
          · rw [if_pos e, if_pos e, if_pos e]; exact s7 i' (by omega)
          · rw [if_neg e, if_neg e, if_neg e]; exact s7 (i' + 1) (by omega)
        · rw [kr i' 0 (by omega) (by decide), kr j 0 hj (by decide)]
          by_cases e : i' < i
          · rw [if_pos e]
            by_cases e2 : j < i
            · rw [if_pos e2]; exact s8 i' j hij (by omega)
            · rw [if_neg e2]; exact s8 i' (j + 1) (by omega) (by omega)
          · rw [if_neg e, if_neg (by omega)]; exact s8 (i' + 1) (j + 1) (by omega) (by omega)
      refine ⟨nI (c - x - 1), n, c - 1, x, A, ν, κ', τ, eC, eM, h0.st ⟨hP.fr (fun r _ _ => ar r (by omega) (by omega)) (by rw [r2 q (by omega)]) (r2 _ (by omega)) (r2 _ (by omega)) (fun i _ => k7 _ (by omega)) (fun k _ => k7 k (by omega)), hT.fr (ar _ (by omega) (by omega)) (fun k _ => k7 k (by omega)), hF.fr (ar _ (by omega) (by omega)) (fun k _ => k7 k (by omega)), hB.fr (ar _ (by omega) (by omega)) (fun k _ => k7 k (by omega)), hI.fr (fun k _ => by rw [ar _ (by omega) (by omega)]) (fun k _ _ => k7 k (by omega)), S', by rw [ar 4 (by omega) (by omega), k7 25 (by omega)]; exact ht, fun j hj => ?_, by rw [k7 25 (by omega)]; exact ht0, by rw [ar _ (by omega) (by omega)]; exact hz⟩ (fun r _ => ar r (by omega) (by omega)) (fun r _ h7 => r2 r h7) (fun k _ => by rw [r2 q (by omega)]) (k7 25 (by omega))⟩
      rw [k7 25 (by omega), kr j 0 hj (by decide)]
      by_cases e : j < i
      · rw [if_pos e]; exact htk j (by omega)
      · rw [if_neg e]; exact htk (j + 1) (by omega)
    · refine ⟨-2, n, c, x, μ, ν, κ0, τ, ?_, ?_, h0⟩
      · rw [E_S_cancel, e_S_cancel_0, if_pos c0, ob_eq hS.left, if_neg (nI_nlt (by omega) hi)]
      · rw [E_M_cancel, e_M_cancel_0, zlet_eq, ← hκ0, if_pos c0, hS.2.2.2.2.1, if_neg (nI_nlt (by omega) hi)]
  · exact ⟨-1, n, c, x, μ, ν, κ0, τ, by rw [E_S_cancel, e_S_cancel_0, if_neg c0], by rw [E_M_cancel, e_M_cancel_0, zlet_eq, if_neg c0, hκ0], h0⟩
/-! ## feed -/
def bySel (x1 x2 x3 x4 x5 : Int32) (k : Nat) : Int32 := if k < 4 then x1 else if k < 8 then x2 else if k < 12 then x3 else if k < 16 then x4 else x5
def byM (v : Int32) (j : Nat) : Int32 := (v >>> (nI (24 - 8 * j) &&& 31)) &&& 255
def byC (v : Int32) (t : Int32) : Int32 := vp_nar .byte ((Int32.toInt8 ((v.toUInt32 >>> (t.toUInt32 &&& Int32.toUInt32 31)).toInt32)).toInt32)
theorem by_and (a b : Int32) (h : ∀ i, i < 8 → a.toBitVec.getLsbD i = b.toBitVec.getLsbD i) : a &&& 255 = b &&& 255 := by
  apply Int32.toBitVec_inj.mp
  rw [Int32.toBitVec_and, Int32.toBitVec_and]
  apply BitVec.eq_of_getLsbD_eq
  intro i hi
  rw [BitVec.getLsbD_and, BitVec.getLsbD_and]
  by_cases c : i < 8
  · rw [h i c]
  · have z : (255 : Int32).toBitVec.getLsbD i = false := by
      have hi' : i = 8 ∨ i = 9 ∨ i = 10 ∨ i = 11 ∨ i = 12 ∨ i = 13 ∨ i = 14 ∨ i = 15 ∨ i = 16 ∨ i = 17 ∨ i = 18 ∨ i = 19 ∨ i = 20 ∨ i = 21 ∨ i = 22 ∨ i = 23 ∨ i = 24 ∨ i = 25 ∨ i = 26 ∨ i = 27 ∨ i = 28 ∨ i = 29 ∨ i = 30 ∨ i = 31 := by omega
      rcases hi' with rfl | rfl | rfl | rfl | rfl | rfl | rfl | rfl | rfl | rfl | rfl | rfl | rfl | rfl | rfl | rfl | rfl | rfl | rfl | rfl | rfl | rfl | rfl | rfl <;> rfl
    rw [z, Bool.and_false, Bool.and_false]
theorem by_low (x : Int32) : x.toInt8.toInt32 &&& 255 = x &&& 255 := by
  apply by_and
  intro i hi
  show ((x.toBitVec.signExtend 8).signExtend 32).getLsbD i = x.toBitVec.getLsbD i
  rw [BitVec.getLsbD_signExtend, BitVec.getLsbD_signExtend]
  simp [show i < 32 by omega, hi]
theorem by_eq (v : Int32) : byC v 24 &&& 255 = byM v 0 ∧ byC v 16 &&& 255 = byM v 1 ∧ byC v 8 &&& 255 = byM v 2 ∧ byC v 0 &&& 255 = byM v 3 := by
  have main : ∀ (s : Nat) (t w : Int32), s ≤ 24 → (v.toUInt32 >>> (t.toUInt32 &&& Int32.toUInt32 31)).toInt32.toBitVec = v.toBitVec >>> s → (v >>> w).toBitVec = v.toBitVec.sshiftRight s → byC v t &&& 255 = v >>> w &&& 255 := by
    intro s t w hs e1 e2
    rw [byC, pk_vb, by_low]
    apply by_and
    intro i hi
    rw [e1, e2, BitVec.getLsbD_ushiftRight, BitVec.getLsbD_sshiftRight, if_pos (show s + i < 32 by omega)]
    simp [show ¬ 32 ≤ i by omega]
  exact ⟨main 24 24 _ (by omega) rfl rfl, main 16 16 _ (by omega) rfl rfl, main 8 8 _ (by omega) rfl rfl, main 0 0 _ (by omega) rfl rfl⟩
theorem byM_b (v : Int32) (j : Nat) : 0 ≤ (byM v j).toInt ∧ (byM v j).toInt ≤ 255 := by
  unfold byM
  generalize v >>> (nI (24 - 8 * j) &&& 31) = y
  have e : (y &&& 255).toBitVec.toNat ≤ 255 := by
    rw [Int32.toBitVec_and, BitVec.toNat_and]
    exact Nat.and_le_right
  have e2 : (y &&& 255).toInt = ((y &&& 255).toBitVec.toNat : Int) := BitVec.toInt_eq_toNat_of_lt (by omega)
  rw [e2]
  omega
theorem C_addNum {μ : zI} {ν : zJ} {v : Int32} {s : Nat} (hs : μ 1 1 = nI s) (h : s + 4 ≤ 900) : ∃ μ', E_Tape_addNumber v μ ν = some (μ', ν) ∧ (∀ r, r ≠ 1 → r ≠ 2 → μ' r = μ r) ∧ (∀ k, k ≠ 1 → μ' 1 k = μ 1 k) ∧ μ' 1 1 = nI (s + 4) ∧ (∀ i, i < s ∨ s + 4 ≤ i → μ' 2 i = μ 2 i) ∧ ∀ j, j < 4 → μ' 2 (s + j) &&& 255 = byM v j := by
  have step : ∀ (f : Nat) (t : Int32) (μ : zI) (m : Nat), ¬ t < 0 → μ 1 1 = nI m → m < 900 → f_Tape_addNumber_3 (f + 1) v t μ ν = f_Tape_addNumber_3 f v (t + (-8)) (zu (zu μ 2 m (byC v t)) 1 1 (nI (m + 1))) ν := by
    intro f t μ m ht hm m9
    rw [f_Tape_addNumber_3, if_neg ht, hm, if_neg (lge (c := 900) (k := m) 900 rfl m9 (by decide)), if_pos (zin_nI m9 (by decide)), zlet_eq, zlet_eq, nI_clamp (by omega), e_Tape_addNumber_40, zgr (by decide), hm, nI_1]
    rfl
  obtain ⟨b0, b1, b2, b3⟩ := by_eq v
  have key : E_Tape_addNumber v μ ν = some (zu (zu (zu (zu (zu (zu (zu (zu μ 2 s (byC v 24)) 1 1 (nI (s + 1))) 2 (s + 1) (byC v 16)) 1 1 (nI (s + 2))) 2 (s + 2) (byC v 8)) 1 1 (nI (s + 3))) 2 (s + 3) (byC v 0)) 1 1 (nI (s + 4)), ν) := by
    rw [E_Tape_addNumber, e_Tape_addNumber_0, show zFuel = 99995 + 1 + 1 + 1 + 1 + 1 from rfl]
    rw [step _ 24 _ s (by decide) hs (by omega), show (24 : Int32) + (-8) = 16 by decide, step _ 16 _ (s + 1) (by decide) zgh (by omega), show (16 : Int32) + (-8) = 8 by decide, step _ 8 _ (s + 2) (by decide) zgh (by omega), show (8 : Int32) + (-8) = 0 by decide, step _ 0 _ (s + 3) (by decide) zgh (by omega), show (0 : Int32) + (-8) = -8 by decide, f_Tape_addNumber_3, if_pos (by decide)]
  refine ⟨_, key, fun r h1 h2 => ?_, fun k hk => ?_, zgh, fun i hi => ?_, fun j hj => ?_⟩
  · simp (disch := omega) only [zgr]
  · simp (disch := omega) only [zgr, zgk]
  · simp (disch := omega) only [zgr, zgk]
  · have hj' : j = 0 ∨ j = 1 ∨ j = 2 ∨ j = 3 := by omega
    rcases hj' with rfl | rfl | rfl | rfl
    · simp (disch := omega) only [zgr, zgk, zgh, Nat.add_zero]; exact b0
    · simp (disch := omega) only [zgr, zgk, zgh]; exact b1
    · simp (disch := omega) only [zgr, zgk, zgh]; exact b2
    · simp (disch := omega) only [zgr, zgk, zgh]; exact b3
theorem M_feed_f {q s : Nat} {x1 x2 x3 x4 x5 : Int32} {τ : zJ} (h9 : s + 20 ≤ 900) : ∀ (j k f : Nat) (κ : zI), k + j = 20 → j < f → κ q 2 = nI s → ∃ κ', f_M_feed_20 q f x1 x2 x3 x4 x5 (nI k) κ τ = some (nI (s + 20), κ', τ) ∧ (∀ r, r ≠ q → r ≠ q + 1 → κ' r = κ r) ∧ (∀ m, m ≠ 2 → κ' q m = κ q m) ∧ κ' q 2 = nI (s + 20) ∧ (∀ i, i < s + k ∨ s + 20 ≤ i → κ' (q + 1) i = κ (q + 1) i) ∧ ∀ i, k ≤ i → i < 20 → κ' (q + 1) (s + i) = byM (bySel x1 x2 x3 x4 x5 i) (i % 4) := by
  intro j
  induction j with
  | zero =>
    intro k f κ hk hf h2
    obtain ⟨f, rfl⟩ : ∃ i, f = i + 1 := ⟨f - 1, by omega⟩
    have k20 : k = 20 := by omega
    subst k20
    refine ⟨zu κ q 2 (nI (s + 20)), ?_, fun r h1 _ => zgr h1, fun m hm => zgk hm, zgh, fun i _ => by rw [zgr (by omega)], fun i h1 h2 => by omega⟩
    rw [f_M_feed_20, if_pos (show (20 : Int32) ≤ nI 20 by decide), zlet_eq, zgh, h2, show nI s + 20 = nI (s + 20) from nI_add s 20]
  | succ j ih =>
    intro k f κ hk hf h2
    obtain ⟨f, rfl⟩ : ∃ i, f = i + 1 := ⟨f - 1, by omega⟩
    obtain ⟨κ', a1, a2, a3, a4, a5, a6⟩ := ih (k + 1) f (zu κ (q + 1) (s + k) (byM (bySel x1 x2 x3 x4 x5 k) (k % 4))) (by omega) (by omega) (by rw [zgr (by omega)]; exact h2)
    have sh : (24 : Int32) - 8 * (nI k - nI k / 4 * 4) = nI (24 - 8 * (k % 4)) := by
      have r4 : nI k - nI k / 4 * 4 = nI (k % 4) := pk_rem (d := 4) (by omega) (by decide) (by decide)
      have m4 : k % 4 < 4 := Nat.mod_lt _ (by decide)
      rw [r4, show (8 : Int32) * nI (k % 4) = nI (8 * (k % 4)) from pk_mul 8 _, show (24 : Int32) - nI (8 * (k % 4)) = nI (24 - 8 * (k % 4)) from pk_sub (a := 24) (by omega)]
    have e73 : ∀ v, e_M_feed_73 q (f_M_feed_20 q f) x1 x2 x3 x4 x5 (nI k) v κ τ = f_M_feed_20 q f x1 x2 x3 x4 x5 (nI (k + 1)) (zu κ (q + 1) (s + k) (byM v (k % 4))) τ := fun v => by
      rw [e_M_feed_73, h2, nI_add, if_pos (zin_nI (by omega) (by decide)), zlet_eq, nI_clamp (by omega), sh, nI_1]
      rfl
    refine ⟨κ', ?_, fun r h1 h3 => (a2 r h1 h3).trans (zgr h3), fun m hm => (a3 m hm).trans (by rw [zgr (by omega)]), a4, fun i hi => (a5 i (by omega)).trans (zgk (by omega)), fun i h1 h3 => ?_⟩
    · rw [← a1, f_M_feed_20, if_neg (lge (c := 20) (k := k) 20 rfl (by omega) (by decide)), e73, e73, e73, e73, e73, bySel]
      by_cases c4 : k < 4
      · rw [if_neg (lge (c := 4) (k := k) 4 rfl c4 (by decide)), if_pos c4]
      · rw [if_pos (show (4 : Int32) ≤ nI k from nI_le (a := 4) (by omega) (by omega)), if_neg c4]
        by_cases c8 : k < 8
        · rw [if_neg (lge (c := 8) (k := k) 8 rfl c8 (by decide)), if_pos c8]
        · rw [if_pos (show (8 : Int32) ≤ nI k from nI_le (a := 8) (by omega) (by omega)), if_neg c8]
          by_cases c12 : k < 12
          · rw [if_neg (lge (c := 12) (k := k) 12 rfl c12 (by decide)), if_pos c12]
          · rw [if_pos (show (12 : Int32) ≤ nI k from nI_le (a := 12) (by omega) (by omega)), if_neg c12]
            by_cases c16 : k < 16
            · rw [if_neg (lge (c := 16) (k := k) 16 rfl c16 (by decide)), if_pos c16]
            · rw [if_pos (show (16 : Int32) ≤ nI k from nI_le (a := 16) (by omega) (by omega)), if_neg c16]
    · by_cases e : i = k
      · subst e
        rw [a5 _ (by omega), zgh]
      · exact a6 i (by omega) h3
theorem RR.tp {q n c x : Nat} {μ μ' κ κ' : zI} {ν τ : zJ} (h : RR q n c x μ ν κ τ) (hm : ∀ r, r ≠ 1 → r ≠ 2 → μ' r = μ r) (hq : ∀ r, r ≠ q → r ≠ q + 1 → κ' r = κ r) (hk : ∀ k, k ≠ 2 → κ' q k = κ q k) (h1 : RTp q μ' κ') : RR q n c x μ' ν κ' τ := by
  obtain ⟨g1, g2, g3, g4, g5, -, g7⟩ := h
  have e7 : κ' (q + 7) = κ (q + 7) := hq _ (by omega) (by omega)
  refine ⟨g1.fr (g1.1.fr (fun r _ _ => hm r (by omega) (by omega)) (hk 9 (by decide)) (hq _ (by omega) (by omega)) (hq _ (by omega) (by omega)) (fun i _ => by rw [e7]) (fun k _ => by rw [e7])) (fun r hr => hm r (by omega) (by omega)) (fun k _ => by rw [e7]), ?_, ?_, ?_, ?_, h1, ?_⟩
  · unfold RLg
    rw [hm 34 (by omega) (by omega), hm 35 (by omega) (by omega), hk 28 (by decide), hq (q + 11) (by omega) (by omega)]
    exact g2
  · unfold RU
    rw [e7]
    exact g3
  · rw [hk 29 (by decide)]; exact g4
  · rw [e7]; exact g5
  · unfold RRd
    rw [hm 3 (by omega) (by omega), hk 21 (by decide), hk 22 (by decide)]
    exact g7
theorem sim_feed {q : Nat} (x1 x2 x3 x4 x5 : Int32) : Sim q (E_S_feed x1 x2 x3 x4 x5) (E_M_feed q x1 x2 x3 x4 x5) := by
  intro n c x μ ν κ τ h
  obtain ⟨κ0, hκ0⟩ : ∃ κ0, κ0 = zu κ q 0 0 := ⟨_, rfl⟩
  have h0 : RR q n c x μ ν κ0 τ := hκ0 ▸ h.th
  obtain ⟨s, s9, t1, t2, t3⟩ := h0.2.2.2.2.2.1
  by_cases c0 : s ≤ 880
  · have eroom : E_Tape_hasRoomFor 20 μ ν = some (1, μ, ν) := by
      rw [E_Tape_hasRoomFor, e_Tape_hasRoomFor_0, t1, show nI s + 20 = nI (s + 20) from nI_add s 20, if_neg (show ¬ (900 : Int32) < nI (s + 20) from nI_nlt (a := 900) (by omega) (by decide)), e_Tape_hasRoomFor_17, if_pos (show zb 1 = true from rfl)]
    obtain ⟨μ1, a1, a2, a3, a4, a5, a6⟩ := C_addNum (ν := ν) (v := x1) t1 (by omega)
    obtain ⟨μ2, b1, b2, b3, b4, b5, b6⟩ := C_addNum (ν := ν) (v := x2) a4 (by omega)
    obtain ⟨μ3, c1, c2, c3, c4, c5, c6⟩ := C_addNum (ν := ν) (v := x3) b4 (by omega)
    obtain ⟨μ4, d1, d2, d3, d4, d5, d6⟩ := C_addNum (ν := ν) (v := x4) c4 (by omega)
    obtain ⟨μ5, e1, e2, e3, e4, e5, e6⟩ := C_addNum (ν := ν) (v := x5) d4 (by omega)
    obtain ⟨κ', f1, f2, f3, f4, f5, f6⟩ := M_feed_f (q := q) (s := s) (x1 := x1) (x2 := x2) (x3 := x3) (x4 := x4) (x5 := x5) (τ := τ) (by omega) 20 0 zFuel κ0 (by omega) (by unfold zFuel; omega) t2
    refine ⟨nI (s + 20), n, c, x, μ5, ν, κ', τ, ?_, ?_, h0.tp (fun r h1 h2 => ?_) f2 f3 ⟨s + 20, by omega, e4, f4, fun i hi => ?_⟩⟩
    · rw [E_S_feed, e_S_feed_0, ob_eq eroom, if_neg one_ne_0, ob_eq a1, ob_eq b1, ob_eq c1, ob_eq d1, ob_eq e1]
      dsimp only
      rw [e4]
    · rw [E_M_feed, e_M_feed_0, zlet_eq, ← hκ0, t2, if_pos (show nI s ≤ 880 from nI_le (b := 880) c0 (by decide))]
      exact f1
    · rw [e2 r h1 h2, d2 r h1 h2, c2 r h1 h2, b2 r h1 h2, a2 r h1 h2]
    · by_cases i0 : i < s
      · rw [e5 i (by omega), d5 i (by omega), c5 i (by omega), b5 i (by omega), a5 i (by omega), f5 i (by omega)]
        exact t3 i i0
      · obtain ⟨j, rfl⟩ : ∃ j, i = s + j := ⟨i - s, by omega⟩
        rw [f6 j (by omega) (by omega)]
        refine ⟨?_, byM_b _ _⟩
        by_cases j4 : j < 4
        · rw [e5 _ (by omega), d5 _ (by omega), c5 _ (by omega), b5 _ (by omega), a6 j j4, bySel, if_pos j4, Nat.mod_eq_of_lt j4]
        · by_cases j8 : j < 8
          · rw [e5 _ (by omega), d5 _ (by omega), c5 _ (by omega), show s + j = s + 4 + (j - 4) by omega, b6 (j - 4) (by omega), bySel, if_neg j4, if_pos j8, show j % 4 = j - 4 by omega]
          · by_cases j12 : j < 12
            · rw [e5 _ (by omega), d5 _ (by omega), show s + j = s + 4 + 4 + (j - 8) by omega, c6 (j - 8) (by omega), bySel, if_neg j4, if_neg j8, if_pos j12, show j % 4 = j - 8 by omega]
            · by_cases j16 : j < 16
              · rw [e5 _ (by omega), show s + j = s + 4 + 4 + 4 + (j - 12) by omega, d6 (j - 12) (by omega), bySel, if_neg j4, if_neg j8, if_neg j12, if_pos j16, show j % 4 = j - 12 by omega]
              · rw [show s + j = s + 4 + 4 + 4 + 4 + (j - 16) by omega, e6 (j - 16) (by omega), bySel, if_neg j4, if_neg j8, if_neg j12, if_neg j16, show j % 4 = j - 16 by omega]
  · refine ⟨-1, n, c, x, μ, ν, κ0, τ, ?_, ?_, h0⟩
    · have eroom : E_Tape_hasRoomFor 20 μ ν = some (0, μ, ν) := by
        rw [E_Tape_hasRoomFor, e_Tape_hasRoomFor_0, t1, show nI s + 20 = nI (s + 20) from nI_add s 20, if_pos (show (900 : Int32) < nI (s + 20) from nI_lt (a := 900) (by omega) (by omega)), e_Tape_hasRoomFor_17, if_pos (show zb 0 = true from rfl)]
      rw [E_S_feed, e_S_feed_0, ob_eq eroom, if_pos rfl]
    · rw [E_M_feed, e_M_feed_0, zlet_eq, ← hκ0, t2, if_neg (show ¬ nI s ≤ 880 from nI_ge (a := 880) (by omega) (by omega))]
