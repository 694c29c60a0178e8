/-! What is tried, side by side. -/
def TR (q n c x : Nat) (μb : zI) (νb : zJ) (κb : zI) (τb : zJ) (μ : zI) (ν : zJ) (κ : zI) (τ : zJ) : Prop :=
  RSt 19 q n c x μ κ ∧ κ q 29 = 1 ∧ (∀ k, k < 146 → κ (q + 8) k = κb (q + 7) k) ∧ (∀ k, k < 11 → τ (q + 10) k = τb (q + 9) k) ∧ (∀ k, k < 11 → k ≠ 1 → τ (q + 9) k = τb (q + 9) k + ν (19 + 14) k) ∧ (∀ r, r < 19 ∨ 34 ≤ r → μ r = μb r) ∧ (∀ r, r ≠ 19 + 14 → ν r = νb r) ∧ (∀ r, r ≠ q → r ≠ q + 7 → r ≠ q + 8 → κ r = κb r) ∧ ∀ k, k ≠ 29 → k ≠ 30 → k ≠ 31 → k ≠ 32 → κ q k = κb q k
theorem TR.start {q n c x : Nat} {μ κ : zI} {ν τ : zJ} (h : RR q n c x μ ν κ τ) : ∃ μ' ν' κ' τ', E_S_beginTrial μ ν = some (μ', ν') ∧ E_M_goesAside q κ τ = some (κ', τ') ∧ TR q n c x μ ν κ τ μ' ν' κ' τ' ∧ (∀ k, k < 11 → ν' (19 + 14) k = 0) ∧ κ' (q + 7) = κ (q + 7) := by
  obtain ⟨-, -, hF, -, hI, -, -, -, -, hz⟩ := id h.1
  obtain ⟨-, -, -, ⟨f7, f7'⟩, -, f8, f9, f10⟩ := hF
  have z7 : μ (4 + 11) 7 = 0 ∨ μ (4 + 11) 7 = 1 := by rw [f7]; exact f7'
  have y0 : μ (4 + 13) 0 = 0 ∨ μ (4 + 13) 0 = 1 := by rw [hI.1.1]; exact hI.1.2
  obtain ⟨μ', ν1, a1, a2, a3, a4, a5⟩ := cp_station (b := 19) (b2 := 4) (μ := μ) (ν := ν) (Or.inr (by omega)) z7 f8 f9 f10 y0 hz
  obtain ⟨κ', τ', b1, b2, b3, b4, b5, b6, b7⟩ := M_aside (q := q) (κ := κ) (τ := τ)
  have ek : κ' (q + 7) = κ (q + 7) := b2 _ (by omega) (by omega)
  have e14 : ∀ k, k < 11 → zrl ν1 (19 + 14) (fun j => if j < 11 then 0 else ν1 (19 + 14) j) (19 + 14) k = 0 := fun k hk => by
    rw [zrl_eq, if_pos rfl]
    exact if_pos hk
  refine ⟨μ', zrl ν1 (19 + 14) (fun j => if j < 11 then 0 else ν1 (19 + 14) j), κ', τ', ?_, b1, ⟨?_, b4, b5, b7, fun k hk k1 => ?_, fun r hr => a3 r (by omega), fun r hr => ?_, fun r h1 h7 h8 => b2 r h1 h8, fun k h29 _ _ _ => b3 k h29⟩, e14, ek⟩
  · rw [E_S_beginTrial, e_S_beginTrial_0, ob_eq a1, E_Station_clearSums, e_Station_clearSums_0, zlet_eq]
    rfl
  · exact h.1.copy a2 (fun k _ => by rw [ek]) (b3 9 (by decide)) (b2 _ (by omega) (by omega)) (b2 _ (by omega) (by omega))
  · rw [e14 k hk, Int64.add_zero, b6 _ (by omega)]
  · rw [zrl_eq, if_neg hr]; exact a4 r hr
theorem TR.back {q n c x cb xb : Nat} {μb κb μ κ : zI} {νb τb ν τ : zJ} (h : TR q n c x μb νb κb τb μ ν κ τ) (hb : RR q n cb xb μb νb κb τb) : ∃ κ' τ', E_M_comesBack q κ τ = some (κ', τ') ∧ RR q n cb xb μ ν κ' τ' := by
  obtain ⟨-, -, h3, h4, -, h6, h7, h8, h9⟩ := h
  obtain ⟨κ', τ', b1, b2, b3, b4, b5, b6, b7⟩ := M_back (q := q) (κ := κ) (τ := τ)
  refine ⟨κ', τ', b1, hb.cg h6 (h7 _ (by omega)) (fun k hk => (b5 k hk).trans (h3 k hk)) (fun r hr => (b2 r (by omega) (by omega)).trans (h8 r (by omega) (by omega) (by omega))) (fun k hk => ?_) (fun k hk => (b7 k hk).trans (h4 k hk))⟩
  by_cases e : k = 29
  · rw [e, b4]; exact hb.2.2.2.1.symm
  · rw [b3 k e]; exact h9 k e (by omega) (by omega) (by omega)
theorem TR.tick {q n c x : Nat} {μb κb μ κ : zI} {νb τb ν τ : zJ} (h : TR q n c x μb νb κb τb μ ν κ τ) (ht : (κ (q + 7) 25).toInt ≤ 1000000) : ∃ x' μ' ν' κ' τ', E_Station_advance 19 μ ν = some (μ', ν') ∧ E_M_ticksOnce q κ τ = some (κ', τ') ∧ TR q n c x' μb νb κb τb μ' ν' κ' τ' ∧ RV 19 q μ' κ' ∧ (κ' (q + 7) 25).toInt = (κ (q + 7) 25).toInt + 1 ∧ ∀ k, k < 11 → ν' (19 + 14) k = ν (19 + 14) k + dC 19 μ' k := by
  obtain ⟨h1, h2, h3, h4, h5, h6, h7, h8, h9⟩ := h
  obtain ⟨x', μ', κ', ν', τ', a1, a2, a3, a4, a5, a6, a7, a8, a9, a10, a11, a12, a13, a14, a15⟩ := sim_tick1 (ν := ν) (τ := τ) h1 ht
  rw [if_neg (by rw [h2]; decide)] at a2
  refine ⟨x', μ', ν', κ', τ', a1, a2, ⟨a3, ?_, fun k hk => ?_, fun k hk => ?_, fun k hk k1 => ?_, fun r hr => ?_, fun r hr => ?_, fun r r1 r7 r8 => ?_, fun k k29 k30 k31 k32 => ?_⟩, a4, a7, a9⟩
  · rw [a15 29 (by decide) (by decide) (by decide), h2]
  · rw [a14 (q + 8) (by omega) (by omega)]; exact h3 k hk
  · rw [a10 (q + 10) (by omega)]; exact h4 k hk
  · rw [a11 k hk k1, h5 k hk k1, a9 k hk, Int64.add_assoc]
  · rw [a13 r (by omega)]; exact h6 r hr
  · rw [a8 r hr]; exact h7 r hr
  · rw [a14 r r1 r7]; exact h8 r r1 r7 r8
  · rw [a15 k k30 k31 k32]; exact h9 k k29 k30 k31 k32
theorem runs_f {q n c N : Nat} {μb κb : zI} {νb τb : zJ} (hN : N ≤ 300) : ∀ (j k f g x : Nat) (μ : zI) (ν : zJ) (κ : zI) (τ : zJ), k + j = N → j < f → j < g → TR q n c x μb νb κb τb μ ν κ τ → (κ (q + 7) 25).toInt + j ≤ 1000000 → ∃ x' μ' ν' κ' τ', f_Station_advanceBy_2 19 f (nI N) (nI k) μ ν = some (μ', ν') ∧ f_M_runs_2 q g (nI N) (nI k) κ τ = some (κ', τ') ∧ TR q n c x' μb νb κb τb μ' ν' κ' τ' := by
  intro j
  induction j with
  | zero =>
    intro k f g x μ ν κ τ hk hf hg h ht
    obtain ⟨f, rfl⟩ : ∃ i, f = i + 1 := ⟨f - 1, by omega⟩
    obtain ⟨g, rfl⟩ : ∃ i, g = i + 1 := ⟨g - 1, by omega⟩
    have hle : nI N ≤ nI k := nI_le (by omega) (by omega)
    exact ⟨x, μ, ν, κ, τ, by rw [f_Station_advanceBy_2, if_pos hle], by rw [f_M_runs_2, if_pos hle], h⟩
  | succ j ih =>
    intro k f g x μ ν κ τ hk hf hg h ht
    obtain ⟨f, rfl⟩ : ∃ i, f = i + 1 := ⟨f - 1, by omega⟩
    obtain ⟨g, rfl⟩ : ∃ i, g = i + 1 := ⟨g - 1, by omega⟩
    have hle : ¬ nI N ≤ nI k := nI_ge (by omega) (by omega)
    obtain ⟨x1, μ1, ν1, κ1, τ1, a1, a2, a3, -, a5, -⟩ := h.tick (by omega)
    obtain ⟨x', μ', ν', κ', τ', b1, b2, b3⟩ := ih (k + 1) f g x1 μ1 ν1 κ1 τ1 (by omega) (by omega) (by omega) a3 (by omega)
    refine ⟨x', μ', ν', κ', τ', ?_, ?_, b3⟩
    · rw [f_Station_advanceBy_2, if_neg hle, ob_eq a1, nI_1]
      exact b1
    · rw [f_M_runs_2, if_neg hle, ob_eq a2, nI_1]
      exact b2
theorem runs_N {q n c x N : Nat} {μb κb μ κ : zI} {νb τb ν τ : zJ} (hN : N ≤ 300) (h : TR q n c x μb νb κb τb μ ν κ τ) (ht : (κ (q + 7) 25).toInt ≤ 9999) : ∃ x' μ' ν' κ' τ', E_Station_advanceBy 19 (nI N) μ ν = some (μ', ν') ∧ E_M_runs q (nI N) κ τ = some (κ', τ') ∧ TR q n c x' μb νb κb τb μ' ν' κ' τ' := by
  obtain ⟨x', μ', ν', κ', τ', b1, b2, b3⟩ := runs_f hN N 0 zFuel zFuel x μ ν κ τ (by omega) (by unfold zFuel; omega) (by unfold zFuel; omega) h (by omega)
  exact ⟨x', μ', ν', κ', τ', by rw [E_Station_advanceBy, e_Station_advanceBy_0]; exact b1, by rw [E_M_runs, e_M_runs_0]; exact b2, b3⟩
theorem jsub (a b : Int64) : a + b - a = b := by
  rw [Int64.add_comm, Int64.add_sub_cancel]
theorem TR.dif {q n c x : Nat} {μb κb μ κ : zI} {νb τb ν τ : zJ} (h : TR q n c x μb νb κb τb μ ν κ τ) {k : Nat} (hk : k < 11) (k1 : k ≠ 1) : τ (q + 9) k - τ (q + 10) k = ν (19 + 14) k := by
  rw [h.2.2.2.2.1 k hk k1, h.2.2.2.1 k hk, jsub]
theorem C_sumOf {μ : zI} {ν : zJ} {k : Nat} (h : k < 11) : E_Station_sumOf 19 (nI k) μ ν = some (ν (19 + 14) k, μ, ν) := by
  have e1 : E_Station_isSum 19 (nI k) μ ν = some (1, μ, ν) := by
    rw [E_Station_isSum, e_Station_isSum_0, if_neg (nI_pos (by omega)), if_neg (lge (c := 11) (k := k) 11 rfl (by omega) (by decide)), e_Station_isSum_15, if_pos (show zb 1 = true from rfl)]
  rw [E_Station_sumOf, e_Station_sumOf_0, ob_eq e1, if_neg one_ne_0, if_pos (zin_nI (by omega) (by decide)), nI_clamp (by omega), e_Station_sumOf_18]
theorem try_or {q n c x : Nat} {μ κ : zI} {ν τ : zJ} (h : RR q n c x μ ν κ τ) (v : Int32) : (E_S_mayTry v μ ν = some (0, μ, ν) ∧ E_M_canTry q v κ τ = some (0, κ, τ)) ∨ ∃ N, 1 ≤ N ∧ N ≤ 300 ∧ v = nI N ∧ E_S_mayTry v μ ν = some (1, μ, ν) ∧ E_M_canTry q v κ τ = some (1, κ, τ) := by
  have hn : κ q 9 = nI n := h.1.1.2.2.1
  have h6 : n ≤ 6 := h.1.1.1
  have hnc : μ (4 + 3) 0 = nI n := h.1.1.2.1
  have b0 : zb 0 = true := rfl
  have b1 : zb 1 = true := rfl
  by_cases c1 : v < 1
  · refine Or.inl ⟨?_, ?_⟩
    · rw [E_S_mayTry, e_S_mayTry_0, ob_eq (S_out (Or.inl c1)), if_pos rfl, e_S_mayTry_22, e_S_mayTry_23, if_pos b0]
    · rw [E_M_canTry, e_M_canTry_0, if_pos c1, e_M_canTry_23, e_M_canTry_24, if_pos b0]
  · by_cases c3 : 300 < v
    · refine Or.inl ⟨?_, ?_⟩
      · rw [E_S_mayTry, e_S_mayTry_0, ob_eq (S_out (Or.inr c3)), if_pos rfl, e_S_mayTry_22, e_S_mayTry_23, if_pos b0]
      · rw [E_M_canTry, e_M_canTry_0, if_neg c1, if_pos c3, e_M_canTry_23, e_M_canTry_24, if_pos b0]
    · have sC : E_S_mayTry v μ ν = if n = 0 then some (0, μ, ν) else some (1, μ, ν) := by
        rw [E_S_mayTry, e_S_mayTry_0, ob_eq (S_in c1 c3), if_neg one_ne_0, ob_eq (S_has hnc h6), e_S_mayTry_22, e_S_mayTry_23, e_S_mayTry_23, if_pos b0, if_pos b1]
        by_cases n0 : n = 0
        · rw [if_pos n0, if_pos n0, if_pos rfl]
        · rw [if_neg n0, if_neg n0, if_neg one_ne_0]
      have sM : E_M_canTry q v κ τ = if n = 0 then some (0, κ, τ) else some (1, κ, τ) := by
        rw [E_M_canTry, e_M_canTry_0, if_neg c1, if_neg c3, hn, e_M_canTry_23, e_M_canTry_24, e_M_canTry_24, if_pos b0, if_pos b1]
        by_cases n0 : n = 0
        · rw [if_pos n0, if_pos (by rw [n0]; decide)]
        · rw [if_neg n0, if_neg (nI_nle (by omega) (by omega))]
      by_cases n0 : n = 0
      · rw [if_pos n0] at sC sM
        exact Or.inl ⟨sC, sM⟩
      · rw [if_neg n0] at sC sM
        obtain ⟨N, hN, eN⟩ := nI_of2 (M := 300) (n := 300) rfl (x := v) (fun g => c1 (Int32.lt_trans g (by decide))) (Int32.not_lt.mp c3)
        have N1 : 1 ≤ N := by
          have := ile.mp (Int32.not_lt.mp c1)
          rw [eN, nIt (by omega), show (1 : Int32).toInt = 1 from rfl] at this
          omega
        exact Or.inr ⟨N, N1, hN, eN, sC, sM⟩
/-! ## an island alone -/
theorem alone_f {b q N : Nat} {μ κ : zI} {ν τ : zJ} {tu pu : Int32} (hT : RTo b q μ κ) (t1 : 45000 ≤ tu.toInt) (t2 : tu.toInt ≤ 55000) (p1 : 0 ≤ pu.toInt) (p2 : pu.toInt ≤ 1000) (hN : N ≤ 200) : ∀ (j k f g : Nat) (R S : Int32), k + j = N + 1 → j < f → j < g → -1000000 ≤ R.toInt → R.toInt ≤ 1000000 → ∃ r, f_Inverter_firstAlone_15 b f tu pu (nI N) R S (nI k) μ ν = some (r, μ, ν) ∧ f_M_seenIn_21 q g (nI N) tu pu R S (nI k) κ τ = some (r, κ, τ) := by
  have e8 : μ (b + 2) 8 = κ (q + 7) 8 := (hT 8 (by decide)).1
  have Tg8 : E_Told_get b 8 μ ν = some (κ (q + 7) 8, μ, ν) := by rw [← e8]; exact Tg (k := 8) (by decide)
  intro j
  induction j with
  | zero =>
    intro k f g R S hk hf hg r1 r2
    obtain ⟨f, rfl⟩ : ∃ i, f = i + 1 := ⟨f - 1, by omega⟩
    obtain ⟨g, rfl⟩ : ∃ i, g = i + 1 := ⟨g - 1, by omega⟩
    have lt : nI N < nI k := nI_lt (by omega) (by omega)
    exact ⟨-2, by rw [f_Inverter_firstAlone_15, if_pos lt], by rw [f_M_seenIn_21, if_pos lt]⟩
  | succ j ih =>
    intro k f g R S hk hf hg r1 r2
    obtain ⟨f, rfl⟩ : ∃ i, f = i + 1 := ⟨f - 1, by omega⟩
    obtain ⟨g, rfl⟩ : ∃ i, g = i + 1 := ⟨g - 1, by omega⟩
    have nlt : ¬ nI N < nI k := nI_nlt (by omega) (by omega)
    obtain ⟨w, hw⟩ : ∃ w, w = (if κ (q + 7) 7 < drI R tu pu - 50000 then (1 : Int32) else if 50000 - drI R tu pu ≤ κ (q + 7) 7 then 0 else 1) := ⟨_, rfl⟩
    have rb := drI_b r1 r2 t1 t2 p1 p2
    have fe := far_eq (w := κ (q + 7) 7) rb.1 rb.2
    rw [← hw] at fe
    have eF : E_Inverter_isFar b (drI R tu pu) μ ν = some (w, μ, ν) := by
      rw [C_isFar_eq, (hT 7 (by decide)).1, fe]
    have eF2 : E_M_isFar q (drI R tu pu) κ τ = some (w, κ, τ) := by
      rw [M_isFar_eq, ← hw]
    have e48 : ∀ s, e_Inverter_firstAlone_48 b (f_Inverter_firstAlone_15 b f) tu pu (nI N) (drI R tu pu) S (nI k) s μ ν = if s < κ (q + 7) 8 then f_Inverter_firstAlone_15 b f tu pu (nI N) (drI R tu pu) s (nI (k + 1)) μ ν else some (nI k, μ, ν) := fun s => by
      rw [e_Inverter_firstAlone_48, ob_eq Tg8, nI_1]
    have sC : f_Inverter_firstAlone_15 b (f + 1) tu pu (nI N) R S (nI k) μ ν = if (if w = 0 then 0 else S + 1) < κ (q + 7) 8 then f_Inverter_firstAlone_15 b f tu pu (nI N) (drI R tu pu) (if w = 0 then 0 else S + 1) (nI (k + 1)) μ ν else some (nI k, μ, ν) := by
      rw [f_Inverter_firstAlone_15, if_neg nlt, ob_eq C_pushed, zlet_eq]
      dsimp only
      rw [eF, Option.bind_some]
      dsimp only
      rw [e48, e48]
      by_cases c : w = 0
      · rw [if_pos c, if_pos c]
      · rw [if_neg c, if_neg c]
    have sM : f_M_seenIn_21 q (g + 1) (nI N) tu pu R S (nI k) κ τ = if (if w = 0 then 0 else S + 1) < κ (q + 7) 8 then f_M_seenIn_21 q g (nI N) tu pu (drI R tu pu) (if w = 0 then 0 else S + 1) (nI (k + 1)) κ τ else some (nI k, κ, τ) := by
      rw [f_M_seenIn_21, if_neg nlt, ob_eq M_drifts, zlet_eq]
      dsimp only
      rw [eF2, Option.bind_some]
      dsimp only
      rw [e_M_seenIn_54, e_M_seenIn_54, nI_1]
      by_cases c : w = 0
      · rw [if_pos c, if_pos c]
      · rw [if_neg c, if_neg c]
    rw [sC, sM]
    by_cases d : (if w = 0 then 0 else S + 1) < κ (q + 7) 8
    · rw [if_pos d, if_pos d]
      exact ih (k + 1) f g _ _ (by omega) (by omega) (by omega) rb.1 rb.2
    · rw [if_neg d, if_neg d]
      exact ⟨nI k, rfl, rfl⟩
theorem alone {q n c x N : Nat} {μ κ : zI} {ν τ : zJ} {tu pu : Int32} (h : RR q n c x μ ν κ τ) (t1 : 45000 ≤ tu.toInt) (t2 : tu.toInt ≤ 55000) (p1 : 0 ≤ pu.toInt) (p2 : pu.toInt ≤ 1000) (hN : N ≤ 200) : ∃ r, E_Inverter_firstAlone 4 tu pu (nI N) μ ν = some (r, μ, ν) ∧ E_M_seenIn q (nI N) tu pu κ τ = some (r, κ, τ) := by
  have hI := h.1.2.2.2.2.1
  obtain ⟨r, a1, a2⟩ := alone_f (ν := ν) (τ := τ) (tu := tu) (pu := pu) h.1.2.1 t1 t2 p1 p2 hN N 1 zFuel zFuel (κ (q + 7) 39) (κ (q + 7) 41) (by omega) (by unfold zFuel; omega) (by unfold zFuel; omega) hI.2.2.2.2.2.2.2.2.1 hI.2.2.2.2.2.2.2.2.2
  refine ⟨r, ?_, ?_⟩
  · rw [E_Inverter_firstAlone, e_Inverter_firstAlone_0, zlet_eq, zlet_eq, hI.2.2.2.1, hI.2.2.2.2.2.1]
    exact a1
  · rw [E_M_seenIn, e_M_seenIn_0, zlet_eq, zlet_eq]
    exact a2
theorem M_some_in {p : Int32} {κ : zI} {τ : zJ} (h1 : ¬ p < 1) (h2 : ¬ 200 < p) : E_M_isSome p κ τ = some (1, κ, τ) := by
  rw [E_M_isSome, e_M_isSome_0, if_neg h1, if_neg h2, e_M_isSome_17, if_pos (show zb 1 = true from rfl)]
theorem M_some_out {p : Int32} {κ : zI} {τ : zJ} (h : p < 1 ∨ 200 < p) : E_M_isSome p κ τ = some (0, κ, τ) := by
  rw [E_M_isSome, e_M_isSome_0, e_M_isSome_16, e_M_isSome_17, if_pos (show zb 0 = true from rfl)]
  rcases h with h | h
  · rw [if_pos h]
  · rw [if_pos h, ite_self]
