/-! ifTicks, firstSeen, firstFloat, firstFull. -/
theorem sim_ifTicks {q : Nat} (v w : Int32) : Sim q (E_S_ifTicks v w) (E_M_ifTicks q v w) := by
  intro n c x μ ν κ τ h
  obtain ⟨κ0, hκ0⟩ : ∃ κ0, κ0 = zu κ q 0 0 := ⟨_, rfl⟩
  have h0 : RR q n c x μ ν κ0 τ := hκ0 ▸ h.th
  have bad : E_S_ifTicks v w μ ν = some (-1, μ, ν) → E_M_ifTicks q v w κ τ = some (-1, κ0, τ) → ∃ (r : Int32) (n' c' x' : Nat) (μ' : zI) (ν' : zJ) (κ' : zI) (τ' : zJ), E_S_ifTicks v w μ ν = some (r, μ', ν') ∧ E_M_ifTicks q v w κ τ = some (r, κ', τ') ∧ RR q n' c' x' μ' ν' κ' τ' := fun e1 e2 => ⟨-1, n, c, x, μ, ν, κ0, τ, e1, e2, h0⟩
  rcases try_or h0 v with ⟨t1, t2⟩ | ⟨N, N1, N3, ev, t1, t2⟩
  · refine bad ?_ ?_
    · rw [E_S_ifTicks, e_S_ifTicks_0, ob_eq t1, if_pos rfl, e_S_ifTicks_18]
    · rw [E_M_ifTicks, e_M_ifTicks_0, zlet_eq, ← hκ0, ob_eq t2, if_pos rfl, e_M_ifTicks_23]
  · rcases rg_or w 7 (by decide) with o | ⟨j, hj, ew⟩
    · refine bad ?_ ?_
      · rw [E_S_ifTicks, e_S_ifTicks_0, ob_eq t1, if_neg one_ne_0, ob_eq (S_out (show w < 0 ∨ 7 < w from o)), if_pos rfl, e_S_ifTicks_18]
      · rw [E_M_ifTicks, e_M_ifTicks_0, zlet_eq, ← hκ0, ob_eq t2, if_neg one_ne_0, e_M_ifTicks_23]
        rcases o with o | o
        · rw [if_pos o]
        · rw [if_neg (Int32.not_le.mpr (show (7 : Int32) < w from o)), ite_self]
    · subst ev
      subst ew
      obtain ⟨μ1, ν1, κ1, τ1, a1, a2, a3, a4, a5⟩ := TR.start h0
      obtain ⟨x', μ2, ν2, κ2, τ2, r1, r2, r3⟩ := runs_N N3 a3 (by rw [a5]; exact h0.2.2.2.2.1)
      obtain ⟨κ3, τ3, k1, k2⟩ := r3.back h0
      have hin : E_S_isWithin (nI j) 0 7 μ ν = some (1, μ, ν) := S_in (nI_pos (by omega)) (show ¬ (7 : Int32) < nI j from nI_nlt (a := 7) (by omega) (by omega))
      have fin : ∀ r, E_S_ifTicks (nI N) (nI j) μ ν = some (r, μ2, ν2) → E_M_ifTicks q (nI N) (nI j) κ τ = some (r, κ3, τ3) → ∃ (r : Int32) (n' c' x' : Nat) (μ' : zI) (ν' : zJ) (κ' : zI) (τ' : zJ), E_S_ifTicks (nI N) (nI j) μ ν = some (r, μ', ν') ∧ E_M_ifTicks q (nI N) (nI j) κ τ = some (r, κ', τ') ∧ RR q n' c' x' μ' ν' κ' τ' := fun r e1 e2 => ⟨r, n, c, x, μ2, ν2, κ3, τ3, e1, e2, k2⟩
      have hj' : j = 0 ∨ j = 1 ∨ j = 2 ∨ j = 3 ∨ j = 4 ∨ j = 5 ∨ j = 6 ∨ j = 7 := by omega
      rcases hj' with rfl | rfl | rfl | rfl | rfl | rfl | rfl | rfl
      · refine fin (Int64.toInt32 (ν2 (19 + 14) 0)) ?_ ?_
        · rw [E_S_ifTicks, e_S_ifTicks_0, ob_eq t1, if_neg one_ne_0, ob_eq hin, if_neg one_ne_0, ob_eq a1, ob_eq r1, if_pos (show nI 0 = 0 from rfl), show E_Station_sumOf 19 0 μ2 ν2 = _ from C_sumOf (k := 0) (by decide), Option.bind_some]
        · rw [E_M_ifTicks, e_M_ifTicks_0, zlet_eq, ← hκ0, ob_eq t2, if_neg one_ne_0, if_neg (show ¬ nI 0 < 0 by decide), if_pos (show nI 0 ≤ 7 by decide), ob_eq a2, ob_eq r2, if_pos (show nI 0 = 0 from rfl), zlet_eq, e_M_ifTicks_166, ob_eq k1]
          dsimp only
          rw [r3.dif (k := 0) (by decide) (by decide)]
      · refine fin (Int64.toInt32 (ν2 (19 + 14) 2)) ?_ ?_
        · rw [E_S_ifTicks, e_S_ifTicks_0, ob_eq t1, if_neg one_ne_0, ob_eq hin, if_neg one_ne_0, ob_eq a1, ob_eq r1, if_neg (show ¬ nI 1 = 0 by decide), if_pos (show nI 1 = 1 from rfl), show E_Station_sumOf 19 2 μ2 ν2 = _ from C_sumOf (k := 2) (by decide), Option.bind_some]
        · rw [E_M_ifTicks, e_M_ifTicks_0, zlet_eq, ← hκ0, ob_eq t2, if_neg one_ne_0, if_neg (show ¬ nI 1 < 0 by decide), if_pos (show nI 1 ≤ 7 by decide), ob_eq a2, ob_eq r2, if_neg (show ¬ nI 1 = 0 by decide), if_pos (show nI 1 = 1 from rfl), if_pos (show zin (nI 1 + 1) 11 = true by decide), if_pos (show zin (nI 1 + 1) 11 = true by decide), zlet_eq, e_M_ifTicks_166, ob_eq k1]
          rw [show (nI 1 + 1).toNatClampNeg = 2 by decide]
          dsimp only
          rw [r3.dif (k := 2) (by decide) (by decide)]
      · refine fin (Int64.toInt32 (ν2 (19 + 14) 3)) ?_ ?_
        · rw [E_S_ifTicks, e_S_ifTicks_0, ob_eq t1, if_neg one_ne_0, ob_eq hin, if_neg one_ne_0, ob_eq a1, ob_eq r1, if_neg (show ¬ nI 2 = 0 by decide), if_neg (show ¬ nI 2 = 1 by decide), if_pos (show nI 2 = 2 from rfl), show E_Station_sumOf 19 3 μ2 ν2 = _ from C_sumOf (k := 3) (by decide), Option.bind_some]
        · rw [E_M_ifTicks, e_M_ifTicks_0, zlet_eq, ← hκ0, ob_eq t2, if_neg one_ne_0, if_neg (show ¬ nI 2 < 0 by decide), if_pos (show nI 2 ≤ 7 by decide), ob_eq a2, ob_eq r2, if_neg (show ¬ nI 2 = 0 by decide), if_neg (show ¬ nI 2 = 1 by decide), if_pos (show nI 2 = 2 from rfl), if_pos (show zin (nI 2 + 1) 11 = true by decide), if_pos (show zin (nI 2 + 1) 11 = true by decide), zlet_eq, e_M_ifTicks_166, ob_eq k1]
          rw [show (nI 2 + 1).toNatClampNeg = 3 by decide]
          dsimp only
          rw [r3.dif (k := 3) (by decide) (by decide)]
      · refine fin (Int64.toInt32 (ν2 (19 + 14) 4)) ?_ ?_
        · rw [E_S_ifTicks, e_S_ifTicks_0, ob_eq t1, if_neg one_ne_0, ob_eq hin, if_neg one_ne_0, ob_eq a1, ob_eq r1, if_neg (show ¬ nI 3 = 0 by decide), if_neg (show ¬ nI 3 = 1 by decide), if_neg (show ¬ nI 3 = 2 by decide), if_pos (show nI 3 = 3 from rfl), show E_Station_sumOf 19 4 μ2 ν2 = _ from C_sumOf (k := 4) (by decide), Option.bind_some]
        · rw [E_M_ifTicks, e_M_ifTicks_0, zlet_eq, ← hκ0, ob_eq t2, if_neg one_ne_0, if_neg (show ¬ nI 3 < 0 by decide), if_pos (show nI 3 ≤ 7 by decide), ob_eq a2, ob_eq r2, if_neg (show ¬ nI 3 = 0 by decide), if_neg (show ¬ nI 3 = 1 by decide), if_neg (show ¬ nI 3 = 2 by decide), if_pos (show nI 3 = 3 from rfl), if_pos (show zin (nI 3 + 1) 11 = true by decide), if_pos (show zin (nI 3 + 1) 11 = true by decide), zlet_eq, e_M_ifTicks_166, ob_eq k1]
          rw [show (nI 3 + 1).toNatClampNeg = 4 by decide]
          dsimp only
          rw [r3.dif (k := 4) (by decide) (by decide)]
      · refine fin (κ2 (q + 7) 33) ?_ ?_
        · rw [E_S_ifTicks, e_S_ifTicks_0, ob_eq t1, if_neg one_ne_0, ob_eq hin, if_neg one_ne_0, ob_eq a1, ob_eq r1, if_neg (show ¬ nI 4 = 0 by decide), if_neg (show ¬ nI 4 = 1 by decide), if_neg (show ¬ nI 4 = 2 by decide), if_neg (show ¬ nI 4 = 3 by decide), if_pos (show nI 4 = 4 from rfl)]
          show some (μ2 (19 + 12) 0, μ2, ν2) = _
          rw [r3.1.2.2.2.1.1]
        · rw [E_M_ifTicks, e_M_ifTicks_0, zlet_eq, ← hκ0, ob_eq t2, if_neg one_ne_0, if_neg (show ¬ nI 4 < 0 by decide), if_pos (show nI 4 ≤ 7 by decide), ob_eq a2, ob_eq r2, if_neg (show ¬ nI 4 = 0 by decide), if_neg (show ¬ nI 4 = 1 by decide), if_neg (show ¬ nI 4 = 2 by decide), if_neg (show ¬ nI 4 = 3 by decide), if_pos (show nI 4 = 4 from rfl), zlet_eq, e_M_ifTicks_166, ob_eq k1]
      · refine fin (κ2 (q + 7) 34) ?_ ?_
        · rw [E_S_ifTicks, e_S_ifTicks_0, ob_eq t1, if_neg one_ne_0, ob_eq hin, if_neg one_ne_0, ob_eq a1, ob_eq r1, if_neg (show ¬ nI 5 = 0 by decide), if_neg (show ¬ nI 5 = 1 by decide), if_neg (show ¬ nI 5 = 2 by decide), if_neg (show ¬ nI 5 = 3 by decide), if_neg (show ¬ nI 5 = 4 by decide), if_pos (show nI 5 = 5 from rfl)]
          show some (μ2 (19 + 12) 1, μ2, ν2) = _
          rw [r3.1.2.2.2.1.2.1]
        · rw [E_M_ifTicks, e_M_ifTicks_0, zlet_eq, ← hκ0, ob_eq t2, if_neg one_ne_0, if_neg (show ¬ nI 5 < 0 by decide), if_pos (show nI 5 ≤ 7 by decide), ob_eq a2, ob_eq r2, if_neg (show ¬ nI 5 = 0 by decide), if_neg (show ¬ nI 5 = 1 by decide), if_neg (show ¬ nI 5 = 2 by decide), if_neg (show ¬ nI 5 = 3 by decide), if_neg (show ¬ nI 5 = 4 by decide), if_pos (show nI 5 = 5 from rfl), zlet_eq, e_M_ifTicks_166, ob_eq k1]
      · refine fin (Int64.toInt32 (ν2 (19 + 14) 6)) ?_ ?_
        · rw [E_S_ifTicks, e_S_ifTicks_0, ob_eq t1, if_neg one_ne_0, ob_eq hin, if_neg one_ne_0, ob_eq a1, ob_eq r1, if_neg (show ¬ nI 6 = 0 by decide), if_neg (show ¬ nI 6 = 1 by decide), if_neg (show ¬ nI 6 = 2 by decide), if_neg (show ¬ nI 6 = 3 by decide), if_neg (show ¬ nI 6 = 4 by decide), if_neg (show ¬ nI 6 = 5 by decide), if_pos (show nI 6 = 6 from rfl), show E_Station_sumOf 19 6 μ2 ν2 = _ from C_sumOf (k := 6) (by decide), Option.bind_some]
        · rw [E_M_ifTicks, e_M_ifTicks_0, zlet_eq, ← hκ0, ob_eq t2, if_neg one_ne_0, if_neg (show ¬ nI 6 < 0 by decide), if_pos (show nI 6 ≤ 7 by decide), ob_eq a2, ob_eq r2, if_neg (show ¬ nI 6 = 0 by decide), if_neg (show ¬ nI 6 = 1 by decide), if_neg (show ¬ nI 6 = 2 by decide), if_neg (show ¬ nI 6 = 3 by decide), if_neg (show ¬ nI 6 = 4 by decide), if_neg (show ¬ nI 6 = 5 by decide), if_pos (show nI 6 = 6 from rfl), zlet_eq, e_M_ifTicks_166, ob_eq k1]
          dsimp only
          rw [r3.dif (k := 6) (by decide) (by decide)]
      · refine fin (κ2 (q + 7) 26) ?_ ?_
        · rw [E_S_ifTicks, e_S_ifTicks_0, ob_eq t1, if_neg one_ne_0, ob_eq hin, if_neg one_ne_0, ob_eq a1, ob_eq r1, if_neg (show ¬ nI 7 = 0 by decide), if_neg (show ¬ nI 7 = 1 by decide), if_neg (show ¬ nI 7 = 2 by decide), if_neg (show ¬ nI 7 = 3 by decide), if_neg (show ¬ nI 7 = 4 by decide), if_neg (show ¬ nI 7 = 5 by decide), if_neg (show ¬ nI 7 = 6 by decide)]
          show some (μ2 (19 + 11) 0, μ2, ν2) = _
          obtain ⟨⟨⟨y, -, y1, y2⟩, -⟩, -⟩ := r3.1.2.2.1
          rw [y1, y2]
        · rw [E_M_ifTicks, e_M_ifTicks_0, zlet_eq, ← hκ0, ob_eq t2, if_neg one_ne_0, if_neg (show ¬ nI 7 < 0 by decide), if_pos (show nI 7 ≤ 7 by decide), ob_eq a2, ob_eq r2, if_neg (show ¬ nI 7 = 0 by decide), if_neg (show ¬ nI 7 = 1 by decide), if_neg (show ¬ nI 7 = 2 by decide), if_neg (show ¬ nI 7 = 3 by decide), if_neg (show ¬ nI 7 = 4 by decide), if_neg (show ¬ nI 7 = 5 by decide), if_neg (show ¬ nI 7 = 6 by decide), zlet_eq, e_M_ifTicks_166, ob_eq k1]
theorem lgc_le {a b : Int64} : lg_cmp a b ≤ 0 ↔ a ≤ b := by
  unfold lg_cmp
  by_cases c : a > b
  · rw [if_pos c]
    exact ⟨fun g => absurd g (by decide), fun g => absurd g (Int64.not_le.mpr c)⟩
  · rw [if_neg c]
    refine ⟨fun _ => Int64.not_lt.mp c, fun _ => ?_⟩
    split <;> decide
theorem first_f {q n c cb xb N : Nat} {μb κb : zI} {νb τb : zJ} {e : Int32} (hb : RR q n cb xb μb νb κb τb) (he : e = 0 ∨ e = 1 ∨ e = 2) (hN : N ≤ 300) : ∀ (j k f g x : Nat) (μ : zI) (ν : zJ) (κ : zI) (τ : zJ), k + j = N + 1 → j < f → j + 1 < g → TR q n c x μb νb κb τb μ ν κ τ → (κ (q + 7) 25).toInt + j ≤ 1000000 → (e = 0 → ν (19 + 14) 6 = 0) → ∃ r x' μ' ν' κ' τ', f_S_firstTick_6 f (nI N) e (nI k) μ ν = some (r, μ', ν') ∧ f_M_firstBy_20 q g (nI N) e (-2) (nI k) κ τ = (Option.bind (E_M_comesBack q κ' τ') fun ty1 => some (r, ty1.1, ty1.2)) ∧ TR q n c x' μb νb κb τb μ' ν' κ' τ' := by
  intro j
  induction j with
  | zero =>
    intro k f g x μ ν κ τ hk hf hg h ht h6
    obtain ⟨f, rfl⟩ : ∃ i, f = i + 1 := ⟨f - 1, by omega⟩
    obtain ⟨g, rfl⟩ : ∃ i, g = i + 1 := ⟨g - 1, by omega⟩
    have lt : nI N < nI k := nI_lt (by omega) (by omega)
    exact ⟨-2, x, μ, ν, κ, τ, by rw [f_S_firstTick_6, if_pos lt], by rw [f_M_firstBy_20, if_pos lt, e_M_firstBy_132], h⟩
  | succ j ih =>
    intro k f g x μ ν κ τ hk hf hg h ht h6
    obtain ⟨f, rfl⟩ : ∃ i, f = i + 1 := ⟨f - 1, by omega⟩
    obtain ⟨g, rfl⟩ : ∃ i, g = i + 1 + 1 := ⟨g - 2, by omega⟩
    have nlt : ¬ nI N < nI k := nI_nlt (by omega) (by omega)
    obtain ⟨x1, μ1, ν1, κ1, τ1, a1, a2, a3, a4, a5, a6⟩ := h.tick (by omega)
    have nk : ¬ nI k = -2 := fun e => by
      have := congrArg Int32.toInt e
      rw [nIt (by omega), show (-2 : Int32).toInt = -2 from rfl] at this
      omega
    -- whether it is so
    have hit : ∃ b : Int32, (b = 0 ∨ b = 1) ∧ E_Station_holds 19 e μ1 ν1 = some (b, μ1, ν1) ∧ f_M_firstBy_20 q (g + 1 + 1) (nI N) e (-2) (nI k) κ τ = e_M_firstBy_111 q (f_M_firstBy_20 q (g + 1)) (nI N) e (-2) (nI k) b κ1 τ1 ∧ (e = 0 → b = 0 → ν1 (19 + 14) 6 = 0) := by
      rcases he with rfl | rfl | rfl
      · have hz := a3.1.2.2.2.2.2.2.2.2.2
        refine ⟨μ1 (19 + 13) 7, hz, ?_, ?_, fun _ hb0 => ?_⟩
        · rw [E_Station_holds, e_Station_holds_0, if_pos rfl, if_pos (zb01 hz)]
        · rw [f_M_firstBy_20, if_neg nlt, if_pos rfl, ob_eq a2, if_pos rfl]
          dsimp only
          have e9 : τ1 (q + 9) 6 = τb (q + 9) 6 + fJ (μ1 (19 + 13) 7) := by
            rw [a3.2.2.2.2.1 6 (by decide) (by decide), a6 6 (by decide), h6 rfl, Int64.zero_add]
            rfl
          have sb := hb.2.2.1.2
          have tb := hb.2.2.2.2.1
          have e10 := a3.2.2.2.1 6 (by decide)
          rcases hz with z | z
          · have cc : lg_cmp (τ1 (q + 9) 6) (τ1 (q + 10) 6) ≤ 0 := lgc_le.mpr (by rw [e9, e10, z, show fJ 0 = 0 from rfl, Int64.add_zero]; exact Int64.le_refl _)
            rw [if_pos cc, z]
          · have cc : ¬ lg_cmp (τ1 (q + 9) 6) (τ1 (q + 10) 6) ≤ 0 := fun g => by
              have g' := lle.mp (lgc_le.mp g)
              rw [e9, e10, z, show fJ 1 = 1 from rfl, lad (by rw [show (1 : Int64).toInt = 1 from rfl]; omega) (by rw [show (1 : Int64).toInt = 1 from rfl]; omega), show (1 : Int64).toInt = 1 from rfl] at g'
              omega
            rw [if_neg cc, z]
        · rw [a6 6 (by decide), h6 rfl, Int64.zero_add]
          show fJ (μ1 (19 + 13) 7) = 0
          rw [hb0]
          rfl
      · have es : μ1 (19 + 12) 1 = κ1 (q + 7) 34 := a3.1.2.2.2.1.2.1
        refine ⟨if κ1 (q + 7) 34 = 2 then 1 else 0, ?_, ?_, ?_, fun g => absurd g (by decide)⟩
        · split
          · exact Or.inr rfl
          · exact Or.inl rfl
        · rw [E_Station_holds, e_Station_holds_0, if_neg (by decide), if_pos rfl, es, e_Station_holds_52, e_Station_holds_52, if_pos (show zb 1 = true from rfl), if_pos (show zb 0 = true from rfl)]
          split <;> rfl
        · rw [f_M_firstBy_20, if_neg nlt, if_pos rfl, ob_eq a2, if_neg (by decide), if_pos rfl]
          dsimp only
          by_cases d : κ1 (q + 7) 34 = 2
          · rw [if_pos d, if_pos d]
          · rw [if_neg d, if_neg d]
      · have ec : μ1 (19 + 12) 0 = κ1 (q + 7) 33 := a3.1.2.2.2.1.1
        have e0 : μ1 (19 + 2) 0 = κ1 (q + 7) 0 := (a3.1.2.1 0 (by decide)).1
        refine ⟨if κ1 (q + 7) 33 = κ1 (q + 7) 0 then 1 else 0, ?_, ?_, ?_, fun g => absurd g (by decide)⟩
        · split
          · exact Or.inr rfl
          · exact Or.inl rfl
        · rw [E_Station_holds, e_Station_holds_0, if_neg (by decide), if_neg (by decide), Tg0, Option.bind_some]
          dsimp only
          rw [ec, e0, e_Station_holds_76, e_Station_holds_76, if_pos (show zb 1 = true from rfl), if_pos (show zb 0 = true from rfl)]
          split <;> rfl
        · rw [f_M_firstBy_20, if_neg nlt, if_pos rfl, ob_eq a2, if_neg (by decide), if_neg (by decide)]
          dsimp only
          by_cases d : κ1 (q + 7) 33 = κ1 (q + 7) 0
          · rw [if_pos d, if_pos d]
          · rw [if_neg d, if_neg d]
    obtain ⟨b, hb01, hC, hM, h6'⟩ := hit
    rcases hb01 with b0 | b1
    · obtain ⟨r, x', μ', ν', κ', τ', i1, i2, i3⟩ := ih (k + 1) f (g + 1) x1 μ1 ν1 κ1 τ1 (by omega) (by omega) (by omega) a3 (by omega) (fun e0 => h6' e0 b0)
      refine ⟨r, x', μ', ν', κ', τ', ?_, ?_, i3⟩
      · rw [f_S_firstTick_6, if_neg nlt, ob_eq a1, ob_eq hC, if_pos b0, nI_1]
        exact i1
      · rw [hM, e_M_firstBy_111, if_pos b0, e_M_firstBy_125, nI_1]
        exact i2
    · refine ⟨nI k, x1, μ1, ν1, κ1, τ1, ?_, ?_, a3⟩
      · rw [f_S_firstTick_6, if_neg nlt, ob_eq a1, ob_eq hC, if_neg (show ¬ b = 0 by rw [b1]; exact one_ne_0)]
      · rw [hM, e_M_firstBy_111, if_neg (show ¬ b = 0 by rw [b1]; exact one_ne_0), e_M_firstBy_125, f_M_firstBy_20, if_neg nk, ite_self, e_M_firstBy_132]
theorem first_N {q n c x : Nat} {μ κ : zI} {ν τ : zJ} {e v : Int32} (h : RR q n c x μ ν κ τ) (he : e = 0 ∨ e = 1 ∨ e = 2) : ∃ r μ' ν' κ' τ', (Option.bind (E_S_mayTry v μ ν) fun ty1 => if ty1.1 = 0 then some (-1, ty1.2.1, ty1.2.2) else Option.bind (E_S_firstTick v e ty1.2.1 ty1.2.2) fun ty3 => some (ty3.1, ty3.2.1, ty3.2.2)) = some (r, μ', ν') ∧ E_M_firstBy q v e κ τ = some (r, κ', τ') ∧ RR q n c x μ' ν' κ' τ' := by
  rcases try_or h v with ⟨t1, t2⟩ | ⟨N, N1, N3, ev, t1, t2⟩
  · exact ⟨-1, μ, ν, κ, τ, by rw [ob_eq t1, if_pos rfl], by rw [E_M_firstBy, e_M_firstBy_0, ob_eq t2, if_pos rfl], h⟩
  · subst ev
    obtain ⟨μ1, ν1, κ1, τ1, a1, a2, a3, a4, a5⟩ := TR.start h
    obtain ⟨r, x', μ', ν', κ', τ', i1, i2, i3⟩ := first_f (e := e) h he N3 N 1 zFuel zFuel x μ1 ν1 κ1 τ1 (by omega) (by unfold zFuel; omega) (by unfold zFuel; omega) a3 (by rw [a5]; have := h.2.2.2.2.1; omega) (fun _ => a4 6 (by decide))
    obtain ⟨κ3, τ3, k1, k2⟩ := i3.back h
    refine ⟨r, μ', ν', κ3, τ3, ?_, ?_, k2⟩
    · rw [ob_eq t1, if_neg one_ne_0, E_S_firstTick, e_S_firstTick_0, ob_eq a1]
      dsimp only
      rw [show (1 : Int32) = nI 1 from rfl, ob_eq i1]
    · rw [E_M_firstBy, e_M_firstBy_0, ob_eq t2, if_neg one_ne_0, ob_eq a2, show (1 : Int32) = nI 1 from rfl]
      dsimp only
      rw [i2, ob_eq k1]
theorem sim_firstSeen {q : Nat} (v : Int32) : Sim q (E_S_firstSeen v) (E_M_firstSeen q v) := by
  intro n c x μ ν κ τ h
  obtain ⟨r, μ', ν', κ', τ', a1, a2, a3⟩ := first_N (e := 0) (v := v) (h.th (v := 0)) (by decide)
  refine ⟨r, n, c, x, μ', ν', κ', τ', ?_, ?_, a3⟩
  · rw [E_S_firstSeen, e_S_firstSeen_0]
    exact a1
  · rw [E_M_firstSeen, e_M_firstSeen_0, zlet_eq, ob_eq a2]
theorem sim_firstFloat {q : Nat} (v : Int32) : Sim q (E_S_firstFloat v) (E_M_firstFloat q v) := by
  intro n c x μ ν κ τ h
  obtain ⟨r, μ', ν', κ', τ', a1, a2, a3⟩ := first_N (e := 1) (v := v) (h.th (v := 0)) (by decide)
  refine ⟨r, n, c, x, μ', ν', κ', τ', ?_, ?_, a3⟩
  · rw [E_S_firstFloat, e_S_firstFloat_0]
    exact a1
  · rw [E_M_firstFloat, e_M_firstFloat_0, zlet_eq, ob_eq a2]
theorem sim_firstFull {q : Nat} (v : Int32) : Sim q (E_S_firstFull v) (E_M_firstFull q v) := by
  intro n c x μ ν κ τ h
  obtain ⟨r, μ', ν', κ', τ', a1, a2, a3⟩ := first_N (e := 2) (v := v) (h.th (v := 0)) (by decide)
  refine ⟨r, n, c, x, μ', ν', κ', τ', ?_, ?_, a3⟩
  · rw [E_S_firstFull, e_S_firstFull_0]
    exact a1
  · rw [E_M_firstFull, e_M_firstFull_0, zlet_eq, ob_eq a2]
