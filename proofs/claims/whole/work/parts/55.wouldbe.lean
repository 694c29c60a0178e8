/-! leastPush, seenBy, blind; the best step, gap, way; ifNear. -/
theorem T_least9 {μ : zI} {ν : zJ} : E_Told_leastOf 9 μ ν = some (0, μ, ν) := rfl
theorem T_most9 {μ : zI} {ν : zJ} : E_Told_mostOf 9 μ ν = some (1000, μ, ν) := rfl
theorem T_least14 {μ : zI} {ν : zJ} : E_Told_leastOf 14 μ ν = some (10, μ, ν) := rfl
theorem T_most14 {μ : zI} {ν : zJ} : E_Told_mostOf 14 μ ν = some (200, μ, ν) := rfl
theorem T_least17 {μ : zI} {ν : zJ} : E_Told_leastOf 17 μ ν = some (0, μ, ν) := rfl
theorem T_most17 {μ : zI} {ν : zJ} : E_Told_mostOf 17 μ ν = some (2, μ, ν) := rfl
theorem some_or (v : Int32) : (v < 1 ∨ 200 < v) ∨ ∃ N, 1 ≤ N ∧ N ≤ 200 ∧ v = nI N ∧ ¬ v < 1 ∧ ¬ 200 < v := by
  by_cases c1 : v < 1
  · exact Or.inl (Or.inl c1)
  · by_cases c2 : 200 < v
    · exact Or.inl (Or.inr c2)
    · obtain ⟨N, hN, eN⟩ := nI_of2 (M := 200) (n := 200) rfl (x := v) (fun g => c1 (Int32.lt_trans g (by decide))) (Int32.not_lt.mp c2)
      have N1 : 1 ≤ N := by
        have := ile.mp (Int32.not_lt.mp c1)
        rw [eN, nIt (by omega), show (1 : Int32).toInt = 1 from rfl] at this
        omega
      exact Or.inr ⟨N, N1, hN, eN, c1, c2⟩
theorem push_f {q n c x N : Nat} {μ κ : zI} {ν τ : zJ} (h : RR q n c x μ ν κ τ) (hN : N ≤ 200) : ∀ (j k f g : Nat), k + j = 1001 → j < f → j < g → ∃ r, f_S_leastPush_19 f (nI N) (nI k) μ ν = some (r, μ, ν) ∧ f_M_leastPush_16 q g (nI N) (nI k) κ τ = some (r, κ, τ) := by
  have hI := h.1.2.2.2.2.1
  intro j
  induction j with
  | zero =>
    intro k f g hk hf hg
    obtain ⟨f, rfl⟩ : ∃ i, f = i + 1 := ⟨f - 1, by omega⟩
    obtain ⟨g, rfl⟩ : ∃ i, g = i + 1 := ⟨g - 1, by omega⟩
    have lt : (1000 : Int32) < nI k := nI_lt (a := 1000) (by omega) (by omega)
    exact ⟨-2, by rw [f_S_leastPush_19, ob_eq T_most9, if_pos lt], by rw [f_M_leastPush_16, if_pos lt]⟩
  | succ j ih =>
    intro k f g hk hf hg
    obtain ⟨f, rfl⟩ : ∃ i, f = i + 1 := ⟨f - 1, by omega⟩
    obtain ⟨g, rfl⟩ : ∃ i, g = i + 1 := ⟨g - 1, by omega⟩
    have nlt : ¬ (1000 : Int32) < nI k := nI_nlt (a := 1000) (by omega) (by omega)
    have kt : (nI k).toInt = k := nIt (by omega)
    obtain ⟨r, e1, e2⟩ := alone (tu := κ (q + 7) 38) (pu := nI k) h hI.2.2.2.2.2.2.2.1.1 hI.2.2.2.2.2.2.2.1.2 (by rw [kt]; omega) (by rw [kt]; omega) hN
    have sC : f_S_leastPush_19 (f + 1) (nI N) (nI k) μ ν = if r = -2 then f_S_leastPush_19 f (nI N) (nI (k + 1)) μ ν else some (nI k, μ, ν) := by
      rw [f_S_leastPush_19, ob_eq T_most9, if_neg nlt]
      dsimp only
      rw [hI.2.2.1, ob_eq e1, nI_1]
    have sM : f_M_leastPush_16 q (g + 1) (nI N) (nI k) κ τ = if r = -2 then f_M_leastPush_16 q g (nI N) (nI (k + 1)) κ τ else some (nI k, κ, τ) := by
      rw [f_M_leastPush_16, if_neg nlt, ob_eq e2, nI_1]
    rw [sC, sM]
    by_cases d : r = -2
    · rw [if_pos d, if_pos d]
      exact ih (k + 1) f g (by omega) (by omega) (by omega)
    · rw [if_neg d, if_neg d]
      exact ⟨nI k, rfl, rfl⟩
theorem sim_leastPush {q : Nat} (v : Int32) : Sim q (E_S_leastPush v) (E_M_leastPush q v) := by
  intro n c x μ ν κ τ h
  obtain ⟨κ0, hκ0⟩ : ∃ κ0, κ0 = zu κ q 0 0 := ⟨_, rfl⟩
  have h0 : RR q n c x μ ν κ0 τ := hκ0 ▸ h.th
  rcases some_or v with o | ⟨N, N1, N2, ev, c1, c2⟩
  · exact ⟨-1, n, c, x, μ, ν, κ0, τ, by rw [E_S_leastPush, e_S_leastPush_0, ob_eq (S_out o), if_pos rfl], by rw [E_M_leastPush, e_M_leastPush_0, zlet_eq, ← hκ0, ob_eq (M_some_out o), if_pos rfl], h0⟩
  · obtain ⟨r, a1, a2⟩ := push_f h0 N2 1001 0 zFuel zFuel (by omega) (by unfold zFuel; omega) (by unfold zFuel; omega)
    rw [← ev] at a1 a2
    refine ⟨r, n, c, x, μ, ν, κ0, τ, ?_, ?_, h0⟩
    · rw [E_S_leastPush, e_S_leastPush_0, ob_eq (S_in c1 c2), if_neg one_ne_0, ob_eq T_least9, zlet_eq]
      exact a1
    · rw [E_M_leastPush, e_M_leastPush_0, zlet_eq, ← hκ0, ob_eq (M_some_in c1 c2), if_neg one_ne_0]
      exact a2
theorem sim_seenBy {q : Nat} (u v : Int32) : Sim q (E_S_seenBy u v) (E_M_seenBy q u v) := by
  intro n c x μ ν κ τ h
  obtain ⟨κ0, hκ0⟩ : ∃ κ0, κ0 = zu κ q 0 0 := ⟨_, rfl⟩
  have h0 : RR q n c x μ ν κ0 τ := hκ0 ▸ h.th
  have bad : E_S_seenBy u v μ ν = some (-1, μ, ν) → E_M_seenBy q u v κ τ = some (-1, κ0, τ) → ∃ (r : Int32) (n' c' x' : Nat) (μ' : zI) (ν' : zJ) (κ' : zI) (τ' : zJ), E_S_seenBy u v μ ν = some (r, μ', ν') ∧ E_M_seenBy q u v κ τ = some (r, κ', τ') ∧ RR q n' c' x' μ' ν' κ' τ' := fun e1 e2 => ⟨-1, n, c, x, μ, ν, κ0, τ, e1, e2, h0⟩
  by_cases c1 : u < 45000
  · exact bad (by rw [E_S_seenBy, e_S_seenBy_0, ob_eq (S_out (Or.inl c1)), if_pos rfl, e_S_seenBy_22]) (by rw [E_M_seenBy, e_M_seenBy_0, zlet_eq, ← hκ0, if_pos c1, e_M_seenBy_40, e_M_seenBy_41])
  · by_cases c2 : 55000 < u
    · exact bad (by rw [E_S_seenBy, e_S_seenBy_0, ob_eq (S_out (Or.inr c2)), if_pos rfl, e_S_seenBy_22]) (by rw [E_M_seenBy, e_M_seenBy_0, zlet_eq, ← hκ0, if_neg c1, if_pos c2, e_M_seenBy_40, e_M_seenBy_41])
    · rcases some_or v with o | ⟨N, N1, N2, ev, d1, d2⟩
      · exact bad (by rw [E_S_seenBy, e_S_seenBy_0, ob_eq (S_in c1 c2), if_neg one_ne_0, ob_eq (S_out o), if_pos rfl, e_S_seenBy_22]) (by rw [E_M_seenBy, e_M_seenBy_0, zlet_eq, ← hκ0, if_neg c1, if_neg c2, ob_eq (M_some_out o), if_pos rfl, e_M_seenBy_40, e_M_seenBy_41])
      · have h9 := h0.1.2.1 9 (by decide)
        obtain ⟨r, e1, e2⟩ := alone (tu := u) (pu := κ0 (q + 7) 9) h0 (ile.mp (Int32.not_lt.mp c1)) (ile.mp (Int32.not_lt.mp c2)) h9.2.1 h9.2.2 N2
        rw [← ev] at e1 e2
        refine ⟨r, n, c, x, μ, ν, κ0, τ, ?_, ?_, h0⟩
        · rw [E_S_seenBy, e_S_seenBy_0, ob_eq (S_in c1 c2), if_neg one_ne_0, ob_eq (S_in d1 d2), if_neg one_ne_0, ob_eq Tg9]
          dsimp only
          rw [h9.1, ob_eq e1]
        · rw [E_M_seenBy, e_M_seenBy_0, zlet_eq, ← hκ0, if_neg c1, if_neg c2, ob_eq (M_some_in d1 d2), if_neg one_ne_0, ob_eq e2, e_M_seenBy_41]
theorem blind_f {q n c x N : Nat} {μ κ : zI} {ν τ : zJ} (h : RR q n c x μ ν κ τ) (hN : N ≤ 200) : ∀ (j k f g : Nat) (a : Int32), k + j = 101 → j < f → j < g → ∃ r, f_S_blind_18 f (nI N) a (nI (45000 + 100 * k)) μ ν = some (r, μ, ν) ∧ f_M_blind_19 q g (nI N) a (nI (45000 + 100 * k)) κ τ = some (r, κ, τ) := by
  have h9 := h.1.2.1 9 (by decide)
  intro j
  induction j with
  | zero =>
    intro k f g a hk hf hg
    obtain ⟨f, rfl⟩ : ∃ i, f = i + 1 := ⟨f - 1, by omega⟩
    obtain ⟨g, rfl⟩ : ∃ i, g = i + 1 := ⟨g - 1, by omega⟩
    have lt : (55000 : Int32) < nI (45000 + 100 * k) := nI_lt (a := 55000) (by omega) (by omega)
    exact ⟨a, by rw [f_S_blind_18, if_pos lt], by rw [f_M_blind_19, if_pos lt]⟩
  | succ j ih =>
    intro k f g a hk hf hg
    obtain ⟨f, rfl⟩ : ∃ i, f = i + 1 := ⟨f - 1, by omega⟩
    obtain ⟨g, rfl⟩ : ∃ i, g = i + 1 := ⟨g - 1, by omega⟩
    have nlt : ¬ (55000 : Int32) < nI (45000 + 100 * k) := nI_nlt (a := 55000) (by omega) (by omega)
    have kt : (nI (45000 + 100 * k)).toInt = ((45000 + 100 * k : Nat) : Int) := nIt (by omega)
    obtain ⟨r, e1, e2⟩ := alone (tu := nI (45000 + 100 * k)) (pu := κ (q + 7) 9) h (by rw [kt]; omega) (by rw [kt]; omega) h9.2.1 h9.2.2 hN
    have en : nI (45000 + 100 * k) + 100 = nI (45000 + 100 * (k + 1)) := by
      rw [show nI (45000 + 100 * k) + 100 = nI (45000 + 100 * k + 100) from nI_add _ 100]
      congr 1
    obtain ⟨s, i1, i2⟩ := ih (k + 1) f g (if r = -2 then a + 1 else a) (by omega) (by omega) (by omega)
    refine ⟨s, ?_, ?_⟩
    · rw [← i1, f_S_blind_18, if_neg nlt, ob_eq Tg9]
      dsimp only
      rw [h9.1, ob_eq e1, e_S_blind_63, e_S_blind_63, en]
      by_cases d : r = -2
      · rw [if_pos d, if_pos d]
      · rw [if_neg d, if_neg d]
    · rw [← i2, f_M_blind_19, if_neg nlt, ob_eq e2, e_M_blind_49, e_M_blind_49, en, zlet_eq, zlet_eq]
      by_cases d : r = -2
      · rw [if_pos d, if_pos d]
      · rw [if_neg d, if_neg d, Int32.add_zero]
theorem sim_blind {q : Nat} (v : Int32) : Sim q (E_S_blind v) (E_M_blind q v) := by
  intro n c x μ ν κ τ h
  obtain ⟨κ0, hκ0⟩ : ∃ κ0, κ0 = zu κ q 0 0 := ⟨_, rfl⟩
  have h0 : RR q n c x μ ν κ0 τ := hκ0 ▸ h.th
  rcases some_or v with o | ⟨N, N1, N2, ev, c1, c2⟩
  · exact ⟨-1, n, c, x, μ, ν, κ0, τ, by rw [E_S_blind, e_S_blind_0, ob_eq (S_out o), if_pos rfl], by rw [E_M_blind, e_M_blind_0, zlet_eq, ← hκ0, ob_eq (M_some_out o), if_pos rfl], h0⟩
  · obtain ⟨r, a1, a2⟩ := blind_f h0 N2 101 0 zFuel zFuel 0 (by omega) (by unfold zFuel; omega) (by unfold zFuel; omega)
    rw [← ev] at a1 a2
    refine ⟨r, n, c, x, μ, ν, κ0, τ, ?_, ?_, h0⟩
    · rw [E_S_blind, e_S_blind_0, ob_eq (S_in c1 c2), if_neg one_ne_0]
      exact a1
    · rw [E_M_blind, e_M_blind_0, zlet_eq, ← hκ0, ob_eq (M_some_in c1 c2), if_neg one_ne_0]
      exact a2
/-! ## what is set before it is tried -/
theorem C_put {b k : Nat} {v : Int32} {μ : zI} {ν : zJ} (h : k < 19) : E_Told_put b (nI k) v μ ν = some (zu μ (b + 2) k v, ν) := by
  rw [E_Told_put, e_Told_put_0, if_neg (nI_pos (by omega)), if_neg (lge (c := 19) (k := k) 19 rfl h (by decide)), if_pos (zin_nI h (by decide)), nI_clamp (by omega), zlet_eq, e_Told_put_17]
theorem RSt.told {b q n c x k : Nat} {μ κ : zI} {v : Int32} (h : RSt b q n c x μ κ) (hk : k < 19) (k0 : k ≠ 0) (v0 : tLO.getD k 0 ≤ v.toInt) (v9 : v.toInt ≤ tHI.getD k 0) : RSt b q n c x (zu μ (b + 2) k v) (zu κ (q + 7) k v) := by
  obtain ⟨hP, hT, hF, hB, hI, hS, ht, htk, ht0, hz⟩ := h
  refine ⟨hP.fr (fun r _ _ => zgr (by omega)) (by rw [zgr (by omega)]) (zgr (by omega)) (zgr (by omega)) (fun i _ => zgk (by omega)) (fun j _ => zgk (by omega)), fun j hj => ?_, hF.fr (zgr (by omega)) (fun j _ => zgk (by omega)), hB.fr (zgr (by omega)) (fun j _ => zgk (by omega)), hI.fr (fun j _ => by rw [zgr (by omega)]) (fun j _ _ => zgk (by omega)), hS.fr (zgr (by omega)) (zgr (by omega)) (fun j _ _ => zgk (by omega)), by rw [zgr (by omega), zgk (by omega)]; exact ht, fun j hj => by rw [zgk (by omega), zgk (by omega)]; exact htk j hj, by rw [zgk (by omega)]; exact ht0, by rw [zgr (by omega)]; exact hz⟩
  by_cases e : j = k
  · subst e
    rw [zgh, zgh]
    exact ⟨rfl, v0, v9⟩
  · rw [zgk e, zgk e]
    exact hT j hj
theorem RSt.step {b q n c x : Nat} {μ κ : zI} {v : Int32} (h : RSt b q n c x μ κ) (v0 : 1 ≤ v.toInt) (v9 : v.toInt ≤ 64) : RSt b q n c x (zu μ (b + 11) 2 v) (zu κ (q + 7) 28 v) := by
  obtain ⟨hP, hT, hF, hB, hI, hS, ht, htk, ht0, hz⟩ := h
  refine ⟨hP.fr (fun r _ _ => zgr (by omega)) (by rw [zgr (by omega)]) (zgr (by omega)) (zgr (by omega)) (fun i _ => zgk (by omega)) (fun j _ => zgk (by omega)), hT.fr (zgr (by omega)) (fun j _ => zgk (by omega)), ?_, hB.fr (zgr (by omega)) (fun j _ => zgk (by omega)), hI.fr (fun j _ => by rw [zgr (by omega)]) (fun j _ _ => zgk (by omega)), hS.fr (zgr (by omega)) (zgr (by omega)) (fun j _ _ => zgk (by omega)), by rw [zgr (by omega), zgk (by omega)]; exact ht, fun j hj => by rw [zgk (by omega), zgk (by omega)]; exact htk j hj, by rw [zgk (by omega)]; exact ht0, by rw [zgr (by omega)]; exact hz⟩
  unfold RF RG RN at hF ⊢
  simp (disch := omega) only [zgk, zgh]
  exact ⟨⟨hF.1.1, hF.1.2.1, ⟨True.intro, v0, v9⟩, hF.1.2.2.2⟩, hF.2⟩
theorem RSt.scan {b q n c x : Nat} {μ κ0 : zI} (h : RSt b q n c x μ κ0) : RSt b q n c x (zu (zu μ (b + 11) 7 1) (b + 11) 10 0) (zu (zu (zu (zu κ0 (q + 7) 31 1) (q + 7) 43 (-1)) (q + 7) 44 0) (q + 7) 45 0) := by
  obtain ⟨hP, hT, hF, hB, hI, hS, ht, htk, ht0, hz⟩ := h
  obtain ⟨A, hA⟩ : ∃ A, A = zu (zu μ (b + 11) 7 1) (b + 11) 10 0 := ⟨_, rfl⟩
  obtain ⟨K, hK⟩ : ∃ K, K = zu (zu (zu (zu κ0 (q + 7) 31 1) (q + 7) 43 (-1)) (q + 7) 44 0) (q + 7) 45 0 := ⟨_, rfl⟩
  rw [← hA, ← hK]
  have ar : ∀ r, r ≠ b + 11 → A r = μ r := fun r a => by rw [hA, zgr a, zgr a]
  have kr : ∀ r, r ≠ q + 7 → K r = κ0 r := fun r a => by rw [hK, zgr a, zgr a, zgr a, zgr a]
  have k7 : ∀ k, k ≠ 31 → k ≠ 43 → k ≠ 44 → k ≠ 45 → K (q + 7) k = κ0 (q + 7) k := fun k a b c d => by rw [hK, zgk d, zgk c, zgk b, zgk a]
  have hF' : RF b q A K := by
    obtain ⟨⟨⟨y, hy, y1, y2⟩, g2, g3, g4⟩, f2, f3, f4, f5, f6, f7, f8⟩ := hF
    have a : ∀ k, k ≠ 7 → k ≠ 10 → A (b + 11) k = μ (b + 11) k := fun k a b => by rw [hA, zgk b, zgk a]
    have a7 : A (b + 11) 7 = 1 := by rw [hA, zgk (by decide), zgh]
    have a10 : A (b + 11) 10 = 0 := by rw [hA, zgh]
    have k31 : K (q + 7) 31 = 1 := by rw [hK, zgk (by decide), zgk (by decide), zgk (by decide), zgh]
    have k43 : K (q + 7) 43 = -1 := by rw [hK, zgk (by decide), zgk (by decide), zgh]
    refine ⟨⟨⟨y, hy, ?_, ?_⟩, ?_, ?_, ?_⟩, ?_, ?_, ⟨?_, ?_⟩, fun _ => Or.inl ⟨a10, k43⟩, ?_, ?_, Or.inl a10⟩
    · rw [a 0 (by decide) (by decide)]; exact y1
    · rw [k7 26 (by decide) (by decide) (by decide) (by decide)]; exact y2
    · rw [a 1 (by decide) (by decide), k7 27 (by decide) (by decide) (by decide) (by decide)]; exact g2
    · rw [a 2 (by decide) (by decide), k7 28 (by decide) (by decide) (by decide) (by decide)]; exact g3
    · rw [a 3 (by decide) (by decide), k7 29 (by decide) (by decide) (by decide) (by decide)]; exact g4
    · rw [a 4 (by decide) (by decide), k7 30 (by decide) (by decide) (by decide) (by decide)]; exact f2
    · rw [a 5 (by decide) (by decide), k7 32 (by decide) (by decide) (by decide) (by decide)]; exact f3
    · rw [a7, k31]
    · exact Or.inr k31
    · rw [a 8 (by decide) (by decide)]; exact f6
    · rw [a 9 (by decide) (by decide)]; exact f7
  have e25 := k7 25 (by decide) (by decide) (by decide) (by decide)
  exact ⟨hP.fr (fun r _ _ => ar r (by omega)) (by rw [kr q (by omega)]) (kr _ (by omega)) (kr _ (by omega)) (fun i _ => k7 _ (by omega) (by omega) (by omega) (by omega)) (fun k _ => k7 k (by omega) (by omega) (by omega) (by omega)), hT.fr (ar _ (by omega)) (fun k _ => k7 k (by omega) (by omega) (by omega) (by omega)), hF', hB.fr (ar _ (by omega)) (fun k _ => k7 k (by omega) (by omega) (by omega) (by omega)), hI.fr (fun k _ => by rw [ar _ (by omega)]) (fun k _ _ => k7 k (by omega) (by omega) (by omega) (by omega)), hS.fr (ar _ (by omega)) (ar _ (by omega)) (fun k _ _ => k7 k (by omega) (by omega) (by omega) (by omega)), by rw [ar b (by omega), e25]; exact ht, fun j hj => by rw [e25, k7 _ (by omega) (by omega) (by omega) (by omega)]; exact htk j hj, by rw [e25]; exact ht0, by rw [ar _ (by omega)]; exact hz⟩
theorem TR.set {q n c x : Nat} {μb κb μ κ μ' κ' : zI} {νb τb ν τ : zJ} (h : TR q n c x μb νb κb τb μ ν κ τ) (h1 : RSt 19 q n c x μ' κ') (hm : ∀ r, r < 19 ∨ 34 ≤ r → μ' r = μ r) (hk : ∀ r, r ≠ q + 7 → κ' r = κ r) : TR q n c x μb νb κb τb μ' ν κ' τ := by
  obtain ⟨-, h2, h3, h4, h5, h6, h7, h8, h9⟩ := h
  refine ⟨h1, by rw [hk q (by omega)]; exact h2, fun k hk' => by rw [hk _ (by omega)]; exact h3 k hk', h4, h5, fun r hr => (hm r hr).trans (h6 r hr), h7, fun r r1 r7 r8 => (hk r r7).trans (h8 r r1 r7 r8), fun k a b c d => by rw [hk q (by omega)]; exact h9 k a b c d⟩
/-- n ticks tried, what they gave, and back -/
theorem giv {q n c x cb xb N : Nat} {μb κb μ κ : zI} {νb τb ν τ : zJ} {w v : Int32} (hb : RR q n cb xb μb νb κb τb) (h : TR q n c x μb νb κb τb μ ν κ τ) (hN : N ≤ 300) (ht : (κ (q + 7) 25).toInt ≤ 9999) : ∃ g μ2 ν2 κ' τ', E_Station_advanceBy 19 (nI N) μ ν = some (μ2, ν2) ∧ E_Station_sumOf 19 0 μ2 ν2 = some (g, μ2, ν2) ∧ e_M_givenBy_55 q (nI N) w v κ τ = some (g, κ', τ') ∧ RR q n cb xb μ2 ν2 κ' τ' := by
  obtain ⟨x', μ2, ν2, κ2, τ2, r1, r2, r3⟩ := runs_N hN h ht
  obtain ⟨κ3, τ3, k1, k2⟩ := r3.back hb
  refine ⟨ν2 (19 + 14) 0, μ2, ν2, κ3, τ3, r1, C_sumOf (k := 0) (by decide), ?_, k2⟩
  rw [e_M_givenBy_55, ob_eq r2, zlet_eq]
  dsimp only
  rw [r3.dif (k := 0) (by decide) (by decide), ob_eq k1]
theorem lgc_n {a b : Int64} : ¬ lg_cmp a b ≤ 0 ↔ 0 < lg_cmp a b := Int32.not_le

theorem bestStep_f {q n c x N : Nat} (hN : N ≤ 300) : ∀ (j k f g : Nat) (a : Int32) (m : Int64) (μ : zI) (ν : zJ) (κ : zI) (τ : zJ), k + j = 7 → j < f → j < g → RR q n c x μ ν κ τ → ∃ r μ' ν' κ' τ', f_S_bestStep_19 f (nI N) a m (nI (2 ^ k)) μ ν = some (r, μ', ν') ∧ f_M_bestStep_24 q g (nI N) a m (nI (2 ^ k)) κ τ = some (r, κ', τ') ∧ RR q n c x μ' ν' κ' τ' := by
  intro j
  induction j with
  | zero =>
    intro k f g a m μ ν κ τ hk hf hg h
    obtain ⟨f, rfl⟩ : ∃ i, f = i + 1 := ⟨f - 1, by omega⟩
    obtain ⟨g, rfl⟩ : ∃ i, g = i + 1 := ⟨g - 1, by omega⟩
    have k7 : k = 7 := by omega
    subst k7
    have lt : (64 : Int32) < nI (2 ^ 7) := by decide
    exact ⟨a, μ, ν, κ, τ, by rw [f_S_bestStep_19, if_pos lt], by rw [f_M_bestStep_24, if_pos lt], h⟩
  | succ j ih =>
    intro k f g a m μ ν κ τ hk hf hg h
    obtain ⟨f, rfl⟩ : ∃ i, f = i + 1 := ⟨f - 1, by omega⟩
    obtain ⟨g, rfl⟩ : ∃ i, g = i + 1 := ⟨g - 1, by omega⟩
    have k7 : k < 7 := by omega
    have pb : 1 ≤ 2 ^ k ∧ 2 ^ k ≤ 64 := by
      have hk' : k = 0 ∨ k = 1 ∨ k = 2 ∨ k = 3 ∨ k = 4 ∨ k = 5 ∨ k = 6 := by omega
      rcases hk' with rfl | rfl | rfl | rfl | rfl | rfl | rfl <;> decide
    have nlt : ¬ (64 : Int32) < nI (2 ^ k) := nI_nlt (a := 64) (by omega) (by omega)
    have vt : (nI (2 ^ k)).toInt = ((2 ^ k : Nat) : Int) := nIt (by omega)
    have en : nI (2 ^ k) * 2 = nI (2 ^ (k + 1)) := by
      rw [show nI (2 ^ k) * 2 = nI (2 ^ k * 2) from pk_mul _ 2, Nat.pow_succ]
    obtain ⟨μ1, ν1, κ1, τ1, a1, a2, a3, a4, a5⟩ := TR.start h
    have b1 := a3.set (μ' := zu (zu μ1 (19 + 2) 12 (nI (2 ^ k))) (19 + 11) 2 (nI (2 ^ k))) (κ' := zu (zu κ1 (q + 7) 12 (nI (2 ^ k))) (q + 7) 28 (nI (2 ^ k))) ((a3.1.told (k := 12) (v := nI (2 ^ k)) (by decide) (by decide) (show (1 : Int) ≤ _ by rw [vt]; omega) (show _ ≤ (64 : Int) by rw [vt]; omega)).step (v := nI (2 ^ k)) (by rw [vt]; omega) (by rw [vt]; omega)) (fun r hr => by rw [zgr (by omega), zgr (by omega)]) (fun r hr => by rw [zgr hr, zgr hr])
    obtain ⟨gv, μ2, ν2, κ3, τ3, g1, g2, g3, g4⟩ := giv (w := 0) (v := nI (2 ^ k)) h b1 hN (by rw [zgk (by decide), zgk (by decide), a5]; exact h.2.2.2.2.1)
    have gM : E_M_givenBy q (nI N) 0 (nI (2 ^ k)) κ τ = some (gv, κ3, τ3) := by
      rw [E_M_givenBy, e_M_givenBy_0, ob_eq a2, if_pos rfl, zlet_eq, zlet_eq]
      exact g3
    have sC : f_S_bestStep_19 (f + 1) (nI N) a m (nI (2 ^ k)) μ ν = if lg_cmp gv m ≤ 0 then f_S_bestStep_19 f (nI N) a m (nI (2 ^ (k + 1))) μ2 ν2 else f_S_bestStep_19 f (nI N) (nI (2 ^ k)) gv (nI (2 ^ (k + 1))) μ2 ν2 := by
      rw [f_S_bestStep_19, if_neg nlt, ob_eq a1]
      dsimp only
      rw [show E_Told_put 19 12 (nI (2 ^ k)) μ1 ν1 = _ from C_put (k := 12) (by decide), Option.bind_some, zlet_eq, ob_eq g1, ob_eq g2, ob_eq g2, zlet_eq, e_S_bestStep_89, e_S_bestStep_89, zlet_eq, zlet_eq, en]
    have sM : f_M_bestStep_24 q (g + 1) (nI N) a m (nI (2 ^ k)) κ τ = if lg_cmp gv m ≤ 0 then f_M_bestStep_24 q g (nI N) a m (nI (2 ^ (k + 1))) κ3 τ3 else f_M_bestStep_24 q g (nI N) (nI (2 ^ k)) gv (nI (2 ^ (k + 1))) κ3 τ3 := by
      rw [f_M_bestStep_24, if_neg nlt, ob_eq gM, zlet_eq, e_M_bestStep_57, e_M_bestStep_57, zlet_eq, zlet_eq, en]
      dsimp only
      by_cases d : lg_cmp gv m ≤ 0
      · rw [if_pos d, if_neg (fun g => lgc_n.mpr g d)]
      · rw [if_neg d, if_pos (lgc_n.mp d)]
    rw [sC, sM]
    by_cases d : lg_cmp gv m ≤ 0
    · rw [if_pos d, if_pos d]
      exact ih (k + 1) f g a m μ2 ν2 κ3 τ3 (by omega) (by omega) (by omega) g4
    · rw [if_neg d, if_neg d]
      exact ih (k + 1) f g _ gv μ2 ν2 κ3 τ3 (by omega) (by omega) (by omega) g4
theorem sim_bestStep {q : Nat} (v : Int32) : Sim q (E_S_bestStep v) (E_M_bestStep q v) := by
  intro n c x μ ν κ τ h
  obtain ⟨κ0, hκ0⟩ : ∃ κ0, κ0 = zu κ q 0 0 := ⟨_, rfl⟩
  have h0 : RR q n c x μ ν κ0 τ := hκ0 ▸ h.th
  rcases try_or h0 v with ⟨t1, t2⟩ | ⟨N, N1, N3, ev, t1, t2⟩
  · exact ⟨-1, n, c, x, μ, ν, κ0, τ, by rw [E_S_bestStep, e_S_bestStep_0, ob_eq t1, if_pos rfl], by rw [E_M_bestStep, e_M_bestStep_0, zlet_eq, ← hκ0, ob_eq t2, if_pos rfl], h0⟩
  · subst ev
    obtain ⟨r, μ', ν', κ', τ', i1, i2, i3⟩ := bestStep_f N3 7 0 zFuel zFuel (-1) (-1) μ ν κ0 τ (by omega) (by unfold zFuel; omega) (by unfold zFuel; omega) h0
    refine ⟨r, n, c, x, μ', ν', κ', τ', ?_, ?_, i3⟩
    · rw [E_S_bestStep, e_S_bestStep_0, ob_eq t1, if_neg one_ne_0]
      exact i1
    · rw [E_M_bestStep, e_M_bestStep_0, zlet_eq, ← hκ0, ob_eq t2, if_neg one_ne_0]
      exact i2
theorem bestGap_f {q n c x N : Nat} (hN : N ≤ 300) : ∀ (j k f g : Nat) (a : Int32) (m : Int64) (μ : zI) (ν : zJ) (κ : zI) (τ : zJ), k + j = 20 → j < f → j < g → RR q n c x μ ν κ τ → ∃ r μ' ν' κ' τ', f_S_bestGap_23 f (nI N) a m (nI (10 + 10 * k)) μ ν = some (r, μ', ν') ∧ f_M_bestGap_25 q g (nI N) a m (nI (10 + 10 * k)) κ τ = some (r, κ', τ') ∧ RR q n c x μ' ν' κ' τ' := by
  intro j
  induction j with
  | zero =>
    intro k f g a m μ ν κ τ hk hf hg h
    obtain ⟨f, rfl⟩ : ∃ i, f = i + 1 := ⟨f - 1, by omega⟩
    obtain ⟨g, rfl⟩ : ∃ i, g = i + 1 := ⟨g - 1, by omega⟩
    have lt : (200 : Int32) < nI (10 + 10 * k) := nI_lt (a := 200) (by omega) (by omega)
    exact ⟨a, μ, ν, κ, τ, by rw [f_S_bestGap_23, ob_eq T_most14, if_pos lt], by rw [f_M_bestGap_25, if_pos lt], h⟩
  | succ j ih =>
    intro k f g a m μ ν κ τ hk hf hg h
    obtain ⟨f, rfl⟩ : ∃ i, f = i + 1 := ⟨f - 1, by omega⟩
    obtain ⟨g, rfl⟩ : ∃ i, g = i + 1 := ⟨g - 1, by omega⟩
    have pb : 10 ≤ 10 + 10 * k ∧ 10 + 10 * k ≤ 200 := by omega
    have nlt : ¬ (200 : Int32) < nI (10 + 10 * k) := nI_nlt (a := 200) (by omega) (by omega)
    have vt : (nI (10 + 10 * k)).toInt = ((10 + 10 * k : Nat) : Int) := nIt (by omega)
    have en : nI (10 + 10 * k) + 10 = nI (10 + 10 * (k + 1)) := by
      rw [show nI (10 + 10 * k) + 10 = nI (10 + 10 * k + 10) from nI_add _ 10]
      congr 1
    obtain ⟨μ1, ν1, κ1, τ1, a1, a2, a3, a4, a5⟩ := TR.start h
    have b1 := a3.set (μ' := zu (zu (zu μ1 (19 + 2) 14 (nI (10 + 10 * k))) (19 + 11) 7 1) (19 + 11) 10 0) (κ' := zu (zu (zu (zu (zu κ1 (q + 7) 14 (nI (10 + 10 * k))) (q + 7) 31 1) (q + 7) 43 (-1)) (q + 7) 44 0) (q + 7) 45 0) ((a3.1.told (k := 14) (v := nI (10 + 10 * k)) (by decide) (by decide) (show (10 : Int) ≤ _ by rw [vt]; omega) (show _ ≤ (200 : Int) by rw [vt]; omega)).scan) (fun r hr => by rw [zgr (by omega), zgr (by omega), zgr (by omega)]) (fun r hr => by rw [zgr hr, zgr hr, zgr hr, zgr hr, zgr hr])
    obtain ⟨gv, μ2, ν2, κ3, τ3, g1, g2, g3, g4⟩ := giv (w := 1) (v := nI (10 + 10 * k)) h b1 hN (by rw [zgk (by decide), zgk (by decide), zgk (by decide), zgk (by decide), zgk (by decide), a5]; exact h.2.2.2.2.1)
    have gM : E_M_givenBy q (nI N) 1 (nI (10 + 10 * k)) κ τ = some (gv, κ3, τ3) := by
      rw [E_M_givenBy, e_M_givenBy_0, ob_eq a2, if_neg one_ne_0, if_pos rfl, zlet_eq, E_M_startsScan, e_M_startsScan_0, zlet_eq, zlet_eq, zlet_eq, zlet_eq, Option.bind_some]
      exact g3
    have sC : f_S_bestGap_23 (f + 1) (nI N) a m (nI (10 + 10 * k)) μ ν = if lg_cmp gv m ≤ 0 then f_S_bestGap_23 f (nI N) a m (nI (10 + 10 * (k + 1))) μ2 ν2 else f_S_bestGap_23 f (nI N) (nI (10 + 10 * k)) gv (nI (10 + 10 * (k + 1))) μ2 ν2 := by
      rw [f_S_bestGap_23, ob_eq T_most14, if_neg nlt, ob_eq a1]
      dsimp only
      rw [show E_Told_put 19 14 (nI (10 + 10 * k)) μ1 ν1 = _ from C_put (k := 14) (by decide), Option.bind_some, E_Follower_beginScan, e_Follower_beginScan_0, zlet_eq, zlet_eq, Option.bind_some, ob_eq g1, ob_eq g2, ob_eq g2, zlet_eq, e_S_bestGap_94, e_S_bestGap_94, en]
    have sM : f_M_bestGap_25 q (g + 1) (nI N) a m (nI (10 + 10 * k)) κ τ = if lg_cmp gv m ≤ 0 then f_M_bestGap_25 q g (nI N) a m (nI (10 + 10 * (k + 1))) κ3 τ3 else f_M_bestGap_25 q g (nI N) (nI (10 + 10 * k)) gv (nI (10 + 10 * (k + 1))) κ3 τ3 := by
      rw [f_M_bestGap_25, if_neg nlt, ob_eq gM, zlet_eq, e_M_bestGap_59, e_M_bestGap_59, en]
      dsimp only
      by_cases d : lg_cmp gv m ≤ 0
      · rw [if_pos d, if_neg (fun g => lgc_n.mpr g d)]
      · rw [if_neg d, if_pos (lgc_n.mp d)]
    rw [sC, sM]
    by_cases d : lg_cmp gv m ≤ 0
    · rw [if_pos d, if_pos d]
      exact ih (k + 1) f g a m μ2 ν2 κ3 τ3 (by omega) (by omega) (by omega) g4
    · rw [if_neg d, if_neg d]
      exact ih (k + 1) f g _ gv μ2 ν2 κ3 τ3 (by omega) (by omega) (by omega) g4
theorem sim_bestGap {q : Nat} (v : Int32) : Sim q (E_S_bestGap v) (E_M_bestGap q v) := by
  intro n c x μ ν κ τ h
  obtain ⟨κ0, hκ0⟩ : ∃ κ0, κ0 = zu κ q 0 0 := ⟨_, rfl⟩
  have h0 : RR q n c x μ ν κ0 τ := hκ0 ▸ h.th
  rcases try_or h0 v with ⟨t1, t2⟩ | ⟨N, N1, N3, ev, t1, t2⟩
  · exact ⟨-1, n, c, x, μ, ν, κ0, τ, by rw [E_S_bestGap, e_S_bestGap_0, ob_eq t1, if_pos rfl], by rw [E_M_bestGap, e_M_bestGap_0, zlet_eq, ← hκ0, ob_eq t2, if_pos rfl], h0⟩
  · subst ev
    obtain ⟨r, μ', ν', κ', τ', i1, i2, i3⟩ := bestGap_f N3 20 0 zFuel zFuel (-1) (-1) μ ν κ0 τ (by omega) (by unfold zFuel; omega) (by unfold zFuel; omega) h0
    refine ⟨r, n, c, x, μ', ν', κ', τ', ?_, ?_, i3⟩
    · rw [E_S_bestGap, e_S_bestGap_0, ob_eq t1, if_neg one_ne_0, ob_eq T_least14, zlet_eq]
      exact i1
    · rw [E_M_bestGap, e_M_bestGap_0, zlet_eq, ← hκ0, ob_eq t2, if_neg one_ne_0]
      exact i2
theorem bestWay_f {q n c x N : Nat} (hN : N ≤ 300) : ∀ (j k f g : Nat) (a : Int32) (m : Int64) (μ : zI) (ν : zJ) (κ : zI) (τ : zJ), k + j = 3 → j < f → j < g → RR q n c x μ ν κ τ → ∃ r μ' ν' κ' τ', f_S_bestWay_23 f (nI N) a m (nI k) μ ν = some (r, μ', ν') ∧ f_M_bestWay_24 q g (nI N) a m (nI k) κ τ = some (r, κ', τ') ∧ RR q n c x μ' ν' κ' τ' := by
  intro j
  induction j with
  | zero =>
    intro k f g a m μ ν κ τ hk hf hg h
    obtain ⟨f, rfl⟩ : ∃ i, f = i + 1 := ⟨f - 1, by omega⟩
    obtain ⟨g, rfl⟩ : ∃ i, g = i + 1 := ⟨g - 1, by omega⟩
    have lt : (2 : Int32) < nI k := nI_lt (a := 2) (by omega) (by omega)
    exact ⟨a, μ, ν, κ, τ, by rw [f_S_bestWay_23, ob_eq T_most17, if_pos lt], by rw [f_M_bestWay_24, if_pos lt], h⟩
  | succ j ih =>
    intro k f g a m μ ν κ τ hk hf hg h
    obtain ⟨f, rfl⟩ : ∃ i, f = i + 1 := ⟨f - 1, by omega⟩
    obtain ⟨g, rfl⟩ : ∃ i, g = i + 1 := ⟨g - 1, by omega⟩
    have pb : 0 ≤ k ∧ k ≤ 2 := by omega
    have nlt : ¬ (2 : Int32) < nI k := nI_nlt (a := 2) (by omega) (by omega)
    have vt : (nI k).toInt = ((k : Nat) : Int) := nIt (by omega)
    have en : nI k + 1 = nI (k + 1) := nI_1 k
    obtain ⟨μ1, ν1, κ1, τ1, a1, a2, a3, a4, a5⟩ := TR.start h
    have b1 := a3.set (μ' := zu μ1 (19 + 2) 17 (nI k)) (κ' := zu κ1 (q + 7) 17 (nI k)) (a3.1.told (k := 17) (v := nI k) (by decide) (by decide) (show (0 : Int) ≤ _ by rw [vt]; omega) (show _ ≤ (2 : Int) by rw [vt]; omega)) (fun r hr => by rw [zgr (by omega)]) (fun r hr => by rw [zgr hr])
    obtain ⟨gv, μ2, ν2, κ3, τ3, g1, g2, g3, g4⟩ := giv (w := 2) (v := nI k) h b1 hN (by rw [zgk (by decide), a5]; exact h.2.2.2.2.1)
    have gM : E_M_givenBy q (nI N) 2 (nI k) κ τ = some (gv, κ3, τ3) := by
      rw [E_M_givenBy, e_M_givenBy_0, ob_eq a2, if_neg (show ¬ (2 : Int32) = 0 by decide), if_neg (show ¬ (2 : Int32) = 1 by decide), zlet_eq]
      exact g3
    have sC : f_S_bestWay_23 (f + 1) (nI N) a m (nI k) μ ν = if lg_cmp gv m ≤ 0 then f_S_bestWay_23 f (nI N) a m (nI (k + 1)) μ2 ν2 else f_S_bestWay_23 f (nI N) (nI k) gv (nI (k + 1)) μ2 ν2 := by
      rw [f_S_bestWay_23, ob_eq T_most17, if_neg nlt, ob_eq a1]
      dsimp only
      rw [show E_Told_put 19 17 (nI k) μ1 ν1 = _ from C_put (k := 17) (by decide), Option.bind_some, ob_eq g1, ob_eq g2, ob_eq g2, zlet_eq, e_S_bestWay_84, e_S_bestWay_84, en]
    have sM : f_M_bestWay_24 q (g + 1) (nI N) a m (nI k) κ τ = if lg_cmp gv m ≤ 0 then f_M_bestWay_24 q g (nI N) a m (nI (k + 1)) κ3 τ3 else f_M_bestWay_24 q g (nI N) (nI k) gv (nI (k + 1)) κ3 τ3 := by
      rw [f_M_bestWay_24, if_neg nlt, ob_eq gM, zlet_eq, e_M_bestWay_56, e_M_bestWay_56, en]
      dsimp only
      by_cases d : lg_cmp gv m ≤ 0
      · rw [if_pos d, if_neg (fun g => lgc_n.mpr g d)]
      · rw [if_neg d, if_pos (lgc_n.mp d)]
    rw [sC, sM]
    by_cases d : lg_cmp gv m ≤ 0
    · rw [if_pos d, if_pos d]
      exact ih (k + 1) f g a m μ2 ν2 κ3 τ3 (by omega) (by omega) (by omega) g4
    · rw [if_neg d, if_neg d]
      exact ih (k + 1) f g _ gv μ2 ν2 κ3 τ3 (by omega) (by omega) (by omega) g4
theorem sim_bestWay {q : Nat} (v : Int32) : Sim q (E_S_bestWay v) (E_M_bestWay q v) := by
  intro n c x μ ν κ τ h
  obtain ⟨κ0, hκ0⟩ : ∃ κ0, κ0 = zu κ q 0 0 := ⟨_, rfl⟩
  have h0 : RR q n c x μ ν κ0 τ := hκ0 ▸ h.th
  rcases try_or h0 v with ⟨t1, t2⟩ | ⟨N, N1, N3, ev, t1, t2⟩
  · exact ⟨-1, n, c, x, μ, ν, κ0, τ, by rw [E_S_bestWay, e_S_bestWay_0, ob_eq t1, if_pos rfl], by rw [E_M_bestWay, e_M_bestWay_0, zlet_eq, ← hκ0, ob_eq t2, if_pos rfl], h0⟩
  · subst ev
    obtain ⟨r, μ', ν', κ', τ', i1, i2, i3⟩ := bestWay_f N3 3 0 zFuel zFuel (-1) (-1) μ ν κ0 τ (by omega) (by unfold zFuel; omega) (by unfold zFuel; omega) h0
    refine ⟨r, n, c, x, μ', ν', κ', τ', ?_, ?_, i3⟩
    · rw [E_S_bestWay, e_S_bestWay_0, ob_eq t1, if_neg one_ne_0, ob_eq T_least17, zlet_eq]
      exact i1
    · rw [E_M_bestWay, e_M_bestWay_0, zlet_eq, ← hκ0, ob_eq t2, if_neg one_ne_0]
      exact i2
theorem TR.best {q n c x : Nat} {μb κb μ κ κ' : zI} {νb τb ν τ : zJ} (h : TR q n c x μb νb κb τb μ ν κ τ) (hs : mSame q κ κ') (hk : mKn q n κ') : TR q n c x μb νb κb τb μ ν κ' τ := by
  refine h.set (h.1.fr (mSame.rp h.1.1 hs hk) (fun _ _ => rfl) (fun k hk' => hs.2 k (by omega) (by omega) (by omega))) (fun _ _ => rfl) (fun r hr => hs.1 r hr)
theorem ifNear_f {q n c cb xb N : Nat} {μb κb : zI} {νb τb : zJ} {p : Int32} (hb : RR q n cb xb μb νb κb τb) (p0 : 0 ≤ p.toInt) (p9 : p.toInt ≤ 100) (hN : N ≤ 300) : ∀ (j k f g x : Nat) (a : Int32) (μ : zI) (ν : zJ) (κ : zI) (τ : zJ), k + j = N → j < f → j < g → TR q n c x μb νb κb τb μ ν κ τ → (κ (q + 7) 25).toInt + j ≤ 1000000 → ∃ r μ' ν' κ' τ', f_S_ifNear_29 f (nI N) p a (nI k) μ ν = some (r, μ', ν') ∧ f_M_ifNear_31 q g (nI N) p a (nI k) κ τ = some (r, κ', τ') ∧ RR q n cb xb μ' ν' κ' τ' := by
  intro j
  induction j with
  | zero =>
    intro k f g x a μ ν κ τ hk hf hg h ht
    obtain ⟨f, rfl⟩ : ∃ i, f = i + 1 := ⟨f - 1, by omega⟩
    obtain ⟨g, rfl⟩ : ∃ i, g = i + 1 := ⟨g - 1, by omega⟩
    have hle : nI N ≤ nI k := nI_le (by omega) (by omega)
    obtain ⟨κ3, τ3, k1, k2⟩ := h.back hb
    exact ⟨a, μ, ν, κ3, τ3, by rw [f_S_ifNear_29, if_pos hle], by rw [f_M_ifNear_31, if_pos hle, ob_eq k1], k2⟩
  | succ j ih =>
    intro k f g x a μ ν κ τ hk hf hg h ht
    obtain ⟨f, rfl⟩ : ∃ i, f = i + 1 := ⟨f - 1, by omega⟩
    obtain ⟨g, rfl⟩ : ∃ i, g = i + 1 := ⟨g - 1, by omega⟩
    have hle : ¬ nI N ≤ nI k := nI_ge (by omega) (by omega)
    obtain ⟨x1, μ1, ν1, κ1, τ1, a1, a2, a3, a4, a5, -⟩ := h.tick (by omega)
    have P1 := a3.1.1
    obtain ⟨κ2, b1, b2, b3, b4, b5⟩ := M_bestNow_eq (τ := τ1) P1.2.2.1 P1.ok P1.2.2.2.2.2.2.2.2
    have eb : (pB (mLit q κ1) (κ1 (q + 5)) n 1000).1 = μ1 (19 + 3) 2 := P1.2.2.2.2.2.2.1.symm
    have bb := pB_b P1.ok 1000 (by omega)
    rw [eb] at b1 bb
    have T2 := a3.best b2 (mKn.of b2 b3 b4)
    obtain ⟨v1, v2, v3, -⟩ := a4
    have m0 : 0 ≤ p.toInt * (μ1 (19 + 3) 2).toInt := Int.mul_nonneg p0 bb.1
    have m9 : p.toInt * (μ1 (19 + 3) 2).toInt ≤ 100 * 598801 := Int.mul_le_mul p9 bb.2.1 bb.1 (by omega)
    have hc := lcmp2 (x := μ1 (19 + 11) 6) (u := p) (v := μ1 (19 + 3) 2) (by omega) (by omega) (by omega) (by omega)
    obtain ⟨r, μ', ν', κ', τ', i1, i2, i3⟩ := ih (k + 1) f g x1 (if μ1 (19 + 11) 6 * 100 < p * μ1 (19 + 3) 2 then a else a + 1) μ1 ν1 κ2 τ1 (by omega) (by omega) (by omega) T2 (by rw [b2.2 25 (by decide) (by decide) (by decide)]; omega)
    refine ⟨r, μ', ν', κ', τ', ?_, ?_, i3⟩
    · rw [← i1, f_S_ifNear_29, if_neg hle, ob_eq a1, ob_eq S_near, e_S_ifNear_72, e_S_ifNear_72, nI_1]
      dsimp only
      by_cases d : μ1 (19 + 11) 6 * 100 < p * μ1 (19 + 3) 2
      · rw [if_pos d, if_pos d, if_pos rfl]
      · rw [if_neg d, if_neg d, if_neg one_ne_0]
    · rw [← i2, f_M_ifNear_31, if_neg hle, ob_eq a2, ob_eq b1, e_M_ifNear_68, e_M_ifNear_68, nI_1, zlet_eq, zlet_eq]
      by_cases d : μ1 (19 + 11) 6 * 100 < p * μ1 (19 + 3) 2
      · have cc : lg_cmp (100 * Int32.toInt64 (κ1 q 30)) (Int32.toInt64 p * Int32.toInt64 (μ1 (19 + 3) 2)) < 0 := by
          rw [v1]
          exact Int32.not_le.mp (fun g => Int32.not_le.mpr d (hc.mp g))
        rw [if_pos cc, if_pos d, Int32.add_zero]
      · have cc : ¬ lg_cmp (100 * Int32.toInt64 (κ1 q 30)) (Int32.toInt64 p * Int32.toInt64 (μ1 (19 + 3) 2)) < 0 := by
          rw [v1]
          exact Int32.not_lt.mpr (hc.mpr (Int32.not_lt.mp d))
        rw [if_neg cc, if_neg d]
theorem sim_ifNear {q : Nat} (v p : Int32) : Sim q (E_S_ifNear v p) (E_M_ifNear q v p) := by
  intro n c x μ ν κ τ h
  obtain ⟨κ0, hκ0⟩ : ∃ κ0, κ0 = zu κ q 0 0 := ⟨_, rfl⟩
  have h0 : RR q n c x μ ν κ0 τ := hκ0 ▸ h.th
  rcases try_or h0 v with ⟨t1, t2⟩ | ⟨N, N1, N3, ev, t1, t2⟩
  · exact ⟨-1, n, c, x, μ, ν, κ0, τ, by rw [E_S_ifNear, e_S_ifNear_0, ob_eq t1, if_pos rfl, e_S_ifNear_18], by rw [E_M_ifNear, e_M_ifNear_0, zlet_eq, ← hκ0, ob_eq t2, if_pos rfl, e_M_ifNear_20], h0⟩
  · by_cases o : p < 0 ∨ 100 < p
    · exact ⟨-1, n, c, x, μ, ν, κ0, τ, by rw [E_S_ifNear, e_S_ifNear_0, ob_eq t1, if_neg one_ne_0, ob_eq (S_out o), if_pos rfl, e_S_ifNear_18], by rw [E_M_ifNear, e_M_ifNear_0, zlet_eq, ← hκ0, ob_eq t2, if_neg one_ne_0, ob_eq (M_part_out o), if_pos rfl, e_M_ifNear_20], h0⟩
    · have c1 : ¬ p < 0 := fun g => o (Or.inl g)
      have c2 : ¬ 100 < p := fun g => o (Or.inr g)
      subst ev
      obtain ⟨μ1, ν1, κ1, τ1, a1, a2, a3, a4, a5⟩ := TR.start h0
      obtain ⟨r, μ', ν', κ', τ', i1, i2, i3⟩ := ifNear_f h0 (ile.mp (Int32.not_lt.mp c1)) (ile.mp (Int32.not_lt.mp c2)) N3 N 0 zFuel zFuel x 0 μ1 ν1 κ1 τ1 (by omega) (by unfold zFuel; omega) (by unfold zFuel; omega) a3 (by rw [a5]; have := h0.2.2.2.2.1; omega)
      refine ⟨r, n, c, x, μ', ν', κ', τ', ?_, ?_, i3⟩
      · rw [E_S_ifNear, e_S_ifNear_0, ob_eq t1, if_neg one_ne_0, ob_eq (S_in c1 c2), if_neg one_ne_0, ob_eq a1]
        exact i1
      · rw [E_M_ifNear, e_M_ifNear_0, zlet_eq, ← hκ0, ob_eq t2, if_neg one_ne_0, ob_eq (M_part_in c1 c2), if_neg one_ne_0, ob_eq a2]
        exact i2
