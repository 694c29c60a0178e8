/-! text. -/
theorem full100 {a : Int32} (h1 : 1 ≤ a.toInt) (h9 : a.toInt ≤ 999) : a * 100 / 100 = a := by
  have e : (a * 100).toInt = a.toInt * 100 := imu (by show -2147483648 ≤ a.toInt * 100; omega) (by show a.toInt * 100 < 2147483648; omega)
  rw [← Int32.toInt_inj, idv (by rw [e]; show 0 ≤ a.toInt * 100; omega) (by decide), e]
  show a.toInt * 100 / 100 = a.toInt
  omega
/-- the class's station begun -/
theorem C_beg {μ : zI} {ν : zJ} (h : PK μ) : ∃ μ', E_Station_begin 19 μ ν = some (μ', ν) ∧ (∀ r, r ≠ 19 + 3 → r ≠ 19 + 8 → r ≠ 19 + 11 → μ' r = μ r) ∧ (∀ k, k ≠ 2 → μ' (19 + 11) k = μ (19 + 11) k) ∧ μ' (19 + 11) 2 = μ (19 + 2) 12 ∧ ∀ q n κ, RL 19 q n μ κ → mKn q n κ → RP 19 q n μ' κ := by
  obtain ⟨n, n1, ok⟩ := h
  obtain ⟨μ1, a1, a2⟩ := C_reckon_eq (b := 19) (n := n) (ν := ν) n1 ok
  refine ⟨zu μ1 (19 + 11) 2 (μ1 (19 + 2) 12), ?_, fun r h1 h2 h3 => by rw [zgr h3, a2.1 r h1 h2], fun k h => by rw [zgk h, a2.1 _ (by decide) (by decide)], by rw [zgh, a2.1 _ (by decide) (by decide)], fun q n' κ hL hk => ?_⟩
  · rw [E_Station_begin, e_Station_begin_0, ob_eq a1]
    dsimp only
    rw [show (12 : Int32) = nI 12 from rfl, ob_eq (Tg (by decide)), zlet_eq]
  · obtain ⟨μ2, b1, b2, b3⟩ := hL.reck (ν := ν) hk
    have e : μ1 = μ2 := by
      have := a1.symm.trans b1
      exact congrArg Prod.fst (Option.some.inj this)
    subst e
    exact b2.fr (fun r h1 h2 => zgr (by omega)) rfl rfl rfl (fun _ _ => rfl) (fun _ _ => rfl)
theorem sim_text {q : Nat} (x : Int32) : Sim q (E_S_text x) (E_M_text q x) := by
  intro n c x0 μ ν κ τ h
  obtain ⟨hSt, hLg, hU, h29, h25, hTp, hRd⟩ := id h
  obtain ⟨s, s9, s1, s2, s3⟩ := hTp
  have bad : (x < 0 ∨ nI s < x) → E_M_text q x κ τ = some (-2, zu κ q 0 0, τ) → ∃ (r : Int32) (n' c' x' : Nat) (μ' : zI) (ν' : zJ) (κ' : zI) (τ' : zJ), E_S_text x μ ν = some (r, μ', ν') ∧ E_M_text q x κ τ = some (r, κ', τ') ∧ RR q n' c' x' μ' ν' κ' τ' := fun e1 e2 => ⟨-2, n, c, x0, μ, ν, zu κ q 0 0, τ, by rw [E_S_text, e_S_text_0, s1, ob_eq (S_out e1), if_pos rfl], e2, h.th⟩
  rcases rg_or x s (by omega) with e | ⟨L, hL, rfl⟩
  · refine bad e ?_
    rw [E_M_text, e_M_text_0, zlet_eq]
    rcases e with e | e
    · rw [if_pos e, e_M_text_17]
    · rw [zgk (show 2 ≠ 0 by decide), s2, if_neg (Int32.not_le.mpr e), ite_self, e_M_text_17]
  obtain ⟨t, ht⟩ : ∃ t, t = κ (q + 1) := ⟨_, rfl⟩
  have hC : TC L t μ := ⟨by omega, ⟨s, s9, hL, s1⟩, fun i hi => by rw [ht]; exact (s3 i (by omega)).1⟩
  obtain ⟨K, hK⟩ : ∃ K, K = zu κ q 0 0 := ⟨_, rfl⟩
  have Kr : ∀ r, r ≠ q → K r = κ r := fun r h => by rw [hK, zgr h]
  have Kq : ∀ k, k ≠ 0 → K q k = κ q k := fun k h => by rw [hK, zgk h]
  obtain ⟨j, x4, n', m', B', μ1, ν1, κ1, a1, a2, a3, a4, a5, a6, a7, a8, a9, a10, a11, a12⟩ := read_0 (q := q) (t := t) (κ := K) (ν := ν) (τ := τ) hC (fun i hi => by rw [Kr _ (by omega), ht]; exact ⟨rfl, (s3 i (by omega)).2⟩)
  have P1 : PK μ1 := by
    rcases a12 with ⟨d, -⟩ | ⟨-, d⟩
    · exact d.2.2.1.pk
    · exact d
  obtain ⟨μ2, b1, b2, b3, b4, b5⟩ := C_beg (ν := ν1) P1
  have nl : ¬ nI L < 0 := nI_pos (by omega)
  have ls : nI L ≤ nI s := nI_le (by omega) (by omega)
  have sC : E_S_text (nI L) μ ν = Option.bind (E_Reader_readInto (nI L) μ ν) fun ty3 => zlet (α := Int32) ty3.1 fun y4 => zlet (zu ty3.2.1 1 1 0) fun μy5 => (if y4 = (-1) then some ((-1), μy5, ty3.2.2) else Option.bind (E_Station_copyFrom 4 19 μy5 ty3.2.2) fun ty7 => zlet (zu ty7.1 34 0 0) fun μy8 => some (y4, μy8, ty7.2)) := by
    rw [E_S_text, e_S_text_0, s1, ob_eq (S_in nl (Int32.not_lt.mpr ls)), if_neg one_ne_0]
  have sM : E_M_text q (nI L) κ τ = if κ1 q 19 = 0 then e_M_text_54 q (nI L) (-1) (zu (zu κ1 q 2 0) q 21 (κ1 q 19)) τ else e_M_text_54 q (nI L) (κ1 q 20) (zu (zu κ1 q 2 0) q 21 (κ1 q 19)) τ := by
    rw [E_M_text, e_M_text_0, zlet_eq, if_neg nl, ← hK, Kq 2 (by decide), s2, if_pos ls, ob_eq a2, zlet_eq, zlet_eq]
    dsimp only
    rw [zgk (show 19 ≠ 2 by decide), zgk (show 19 ≠ 21 by decide), zgk (show 19 ≠ 2 by decide), zgk (show 20 ≠ 21 by decide), zgk (show 20 ≠ 2 by decide)]
  rcases a12 with ⟨d1, d2, d3, d4⟩ | ⟨d1, d2⟩
  · -- it's read
    obtain ⟨J, S, D, E, Z⟩ := d1
    obtain ⟨K2, hK2⟩ : ∃ K2, K2 = zu (zu (zu κ1 q 2 0) q 21 (κ1 q 19)) q 22 (-1) := ⟨_, rfl⟩
    have K2r : ∀ r, r ≠ q → K2 r = κ1 r := fun r h => by rw [hK2]; simp only [zgr h]
    have K2q : ∀ k, k ≠ 2 → k ≠ 21 → k ≠ 22 → K2 q k = κ1 q k := fun k h1 h2 h3 => by rw [hK2, zgk h3, zgk h2, zgk h1]
    obtain ⟨κ2, τ2, e1, e2, e3, e4, e5, e6, e7, e8, e9, e10, e11, e12, e13⟩ := M_begins (q := q) (n := n') (m := m') (κ := K2) (τ := τ) D.1 E.1 (by rw [K2q 10 (by decide) (by decide) (by decide)]; exact D.2.2.1) (by rw [K2q 12 (by decide) (by decide) (by decide)]; exact E.2.2.1)
    have k2 : K2 (q + 2) = κ1 (q + 2) := K2r _ (by omega)
    have k4 : K2 (q + 4) = κ1 (q + 4) := K2r _ (by omega)
    have k5 : K2 (q + 5) = κ1 (q + 5) := K2r _ (by omega)
    have k6 : K2 (q + 6) = κ1 (q + 6) := K2r _ (by omega)
    have c5 : K2 q 5 = κ1 q 5 := K2q 5 (by decide) (by decide) (by decide)
    rw [k2] at e7 e8
    rw [k4, k5] at e6
    rw [c5] at e8
    rw [k6] at e10
    have g25 : κ2 (q + 7) 25 = 0 := e8 25 (by decide) (by decide)
    have g26 : κ2 (q + 7) 26 = 0 := e8 26 (by decide) (by decide)
    have g27 : κ2 (q + 7) 27 = 1 := e8 27 (by decide) (by decide)
    have g29 : κ2 (q + 7) 29 = 0 := e8 29 (by decide) (by decide)
    have g30 : κ2 (q + 7) 30 = 0 := e8 30 (by decide) (by decide)
    have g31 : κ2 (q + 7) 31 = 0 := e8 31 (by decide) (by decide)
    have g32 : κ2 (q + 7) 32 = 0 := e8 32 (by decide) (by decide)
    have g34 : κ2 (q + 7) 34 = 0 := e8 34 (by decide) (by decide)
    have g35 : κ2 (q + 7) 35 = 0 := e8 35 (by decide) (by decide)
    have g36 : κ2 (q + 7) 36 = 1 := e8 36 (by decide) (by decide)
    have g37 : κ2 (q + 7) 37 = 1 := e8 37 (by decide) (by decide)
    have g38 : κ2 (q + 7) 38 = 50000 := e8 38 (by decide) (by decide)
    have g39 : κ2 (q + 7) 39 = 50000 := e8 39 (by decide) (by decide)
    have g40 : κ2 (q + 7) 40 = 0 := e8 40 (by decide) (by decide)
    have g41 : κ2 (q + 7) 41 = 0 := e8 41 (by decide) (by decide)
    have g42 : κ2 (q + 7) 42 = 0 := e8 42 (by decide) (by decide)
    have g28 : κ2 (q + 7) 28 = κ1 (q + 2) 12 := e8 28 (by decide) (by decide)
    have g33 : κ2 (q + 7) 33 = κ1 q 5 := e8 33 (by decide) (by decide)
    have jn : nI j ≠ -1 := fun e => by
      have h1 := congrArg Int32.toInt e
      rw [nI_toInt (by omega)] at h1
      have : (-1 : Int32).toInt = -1 := rfl
      omega
    -- the panel
    have L1 : RL 19 q n' μ1 κ2 := by
      refine ⟨D.1, D.2.1, e4, fun i hi => ?_, fun i hi => ?_⟩
      · obtain ⟨f1, f2, f3⟩ := e6 i hi
        obtain ⟨⟨g1, g2, g3, g4⟩, g5, g6, g7, g8⟩ := D.2.2.2 i hi
        refine ⟨by rw [f1]; exact g1, by rw [f2]; exact g2, by rw [f3]; exact g3, ?_⟩
        have : n' ≤ 6 := D.1
        rw [g4, mLit, if_pos (by omega), f1, f3, full100 g5 g6]
      · obtain ⟨f1, f2, f3⟩ := e6 i hi
        obtain ⟨-, g5, g6, g7, g8⟩ := D.2.2.2 i hi
        rw [f1, f2, f3]
        exact ⟨g5, g6, g7, g8, by decide, by decide⟩
    have P2 : RP 19 q n' μ2 κ2 := b5 q n' κ2 L1 (fun e => by rw [e11 145 (by decide) (by decide)] at e; exact absurd e (by decide))
    obtain ⟨F0, F9, F11, F12, F13⟩ := a6
    have g12 := J.1 12 (by decide)
    have St : RSt 19 q n' m' 0 μ2 κ2 := by
      refine ⟨P2, fun k hk => ?_, ?_, ?_, ?_, ?_, ?_, fun j hj => ?_, ?_, ?_⟩
      · rw [b2 _ (by decide) (by decide) (by decide), e7 k hk]; exact J.1 k hk
      · refine ⟨⟨⟨0, by decide, ?_, ?_⟩, ⟨?_, ?_⟩, ⟨?_, ?_, ?_⟩, ?_⟩, ⟨?_, ?_, ?_⟩, ?_, ⟨?_, ?_⟩, fun hh => ?_, ?_, ?_, ?_⟩
        · rw [b3 0 (by decide), F11 0 (by decide)]; rfl
        · rw [g26]; rfl
        · rw [b3 1 (by decide), F11 1 (by decide), g27]; rfl
        · rw [g27]; exact Or.inl rfl
        · rw [b4, g28]; exact g12.1
        · rw [g28]; exact g12.2.1
        · rw [g28]; exact g12.2.2
        · rw [b3 3 (by decide), F11 3 (by decide), g29]; rfl
        · rw [b3 4 (by decide), F11 4 (by decide), g30]; rfl
        · rw [g30]; decide
        · rw [g30]; decide
        · rw [b3 5 (by decide), F11 5 (by decide), g32]; rfl
        · rw [b3 7 (by decide), F11 7 (by decide), g31]; rfl
        · rw [g31]; exact Or.inl rfl
        · rw [g31] at hh; exact absurd hh (by decide)
        · rw [b3 8 (by decide), F11 8 (by decide)]; exact Or.inl rfl
        · rw [b3 9 (by decide), F11 9 (by decide)]; exact Or.inl rfl
        · rw [b3 10 (by decide), F11 10 (by decide)]; exact Or.inl rfl
      · have e12 : μ2 (19 + 12) = μ1 (19 + 12) := b2 _ (by decide) (by decide) (by decide)
        refine ⟨?_, ?_, ?_, ?_, ?_, ?_⟩
        · rw [e12, g33]; exact J.2.1
        · rw [e12, F12 1 (by decide) (by decide), g34]
        · rw [e12, F12 2 (by decide) (by decide), g35]
        · rw [g34]; exact Or.inl rfl
        · rw [g33]; exact J.2.2.1
        · rw [g33, e7 0 (by decide)]; exact J.2.2.2
      · have e13 : μ2 (19 + 13) = μ1 (19 + 13) := b2 _ (by decide) (by decide) (by decide)
        refine ⟨⟨?_, ?_⟩, ?_, ?_, ?_, ?_, ?_, ?_, ⟨?_, ?_⟩, ⟨?_, ?_⟩⟩
        · rw [e13, F13 0 (by decide), g36]; rfl
        · rw [g36]; exact Or.inr rfl
        · rw [e13, F13 1 (by decide), g37]; rfl
        · rw [e13, F13 2 (by decide), g38]; rfl
        · rw [e13, F13 3 (by decide), g39]; rfl
        · rw [e13, F13 4 (by decide), g40]; rfl
        · rw [e13, F13 5 (by decide), g41]; rfl
        · rw [e13, F13 6 (by decide), g42]; rfl
        · rw [g38]; decide
        · rw [g38]; decide
        · rw [g39]; decide
        · rw [g39]; decide
      · have f9 : μ2 (19 + 9) = μ1 (19 + 9) := b2 _ (by decide) (by decide) (by decide)
        have f10 : μ2 (19 + 10) = μ1 (19 + 10) := b2 _ (by decide) (by decide) (by decide)
        obtain ⟨E1, E2, E3, E4, E5⟩ := E
        refine ⟨E1, Nat.zero_le _, by rw [f9]; exact E2, by rw [f9, F9]; rfl, by rw [e9, Nat.sub_zero], fun i w hi hw => ?_, fun i hi => ?_, fun i j hij hj => ?_⟩
        · rw [f10, Nat.zero_add, e10 _ (by omega)]
          exact E4 _ (by omega)
        · obtain ⟨k, k1, k2⟩ := srt_from (ev := κ1 (q + 6)) m' i (by omega)
          rw [e10 _ (by omega), e10 _ (by omega), e10 _ (by omega), k2 1 (by decide), k2 2 (by decide), k2 3 (by decide)]
          exact (E5 k k1).1
        · rw [e10 _ (by omega), e10 _ (by omega)]
          exact srt_up m' i j hij (by omega)
      · rw [b2 19 (by decide) (by decide) (by decide), F0, g25]
      · obtain ⟨k, k1, k2⟩ := srt_from (ev := κ1 (q + 6)) m' j (by omega)
        rw [g25, e10 _ (by omega), k2 0 (by decide)]
        have := (E.2.2.2.2 k k1).2.1
        show (0 : Int) < _
        omega
      · rw [g25]; decide
      · rw [b2 _ (by decide) (by decide) (by decide), F13 7 (by decide)]; exact Or.inl rfl
    obtain ⟨A, hA⟩ : ∃ A, A = zu μ2 1 1 0 := ⟨_, rfl⟩
    have Ar : ∀ r, r ≠ 1 → A r = μ2 r := fun r h => by rw [hA, zgr h]
    have z11 := Ar (19 + 11) (by decide)
    have z13 := Ar (19 + 13) (by decide)
    obtain ⟨μ3, ν3, c1, c2, c3, c4, c5⟩ := cp_station (b := 4) (b2 := 19) (μ := A) (ν := ν1) (Or.inl (by decide)) (by rw [z11]; exact St.2.2.1.2.2.2.1.1 ▸ St.2.2.1.2.2.2.1.2) (by rw [z11]; exact St.2.2.1.2.2.2.2.2.1) (by rw [z11]; exact St.2.2.1.2.2.2.2.2.2.1) (by rw [z11]; exact St.2.2.1.2.2.2.2.2.2.2) (by rw [z13]; exact St.2.2.2.2.1.1.1 ▸ St.2.2.2.2.1.1.2) (by rw [z13]; exact St.2.2.2.2.2.2.2.2.2)
    have cp : cpS 4 19 μ2 μ3 := fun j k h1 h2 h3 => by rw [c2 j k h1 h2 h3, Ar _ (by omega)]
    have cpz : cpS 4 19 μ2 (zu μ3 34 0 0) := fun j k h1 h2 h3 => by rw [zgr (by omega)]; exact cp j k h1 h2 h3
    have lo : ∀ r, r < 4 ∨ r = 34 ∨ r = 35 → r ≠ 1 → r ≠ 3 → μ3 r = μ r := fun r h1 h2 h3 => by
      rw [c3 r (by omega), Ar r h2, b2 r (by omega) (by omega) (by omega), a5 r h3 (by omega)]
    refine ⟨nI j, n', m', 0, zu μ3 34 0 0, ν3, κ2, τ2, ?_, ?_, St.copy cpz (fun _ _ => rfl) rfl rfl rfl, ?_, ⟨fun k hk => ?_, ?_, ?_⟩, ?_, ?_, ⟨0, by decide, ?_, ?_, fun i hi => absurd hi (Nat.not_lt_zero i)⟩, ?_, ?_⟩
    · rw [sC, a1, e_Reader_readInto_72, ob_eq b1]
      dsimp only
      rw [if_pos (show μ2 3 0 = 0 by rw [b2 3 (by decide) (by decide) (by decide)]; exact d2), e_Reader_readInto_88, Option.bind_some, zlet_eq, zlet_eq, if_neg jn]
      dsimp only
      rw [← hA, ob_eq c1, zlet_eq]
    · rw [sM, if_pos d4, e_M_text_54, zlet_eq, zgk (show 19 ≠ 22 by decide), zgk (show 19 ≠ 21 by decide), zgk (show 19 ≠ 2 by decide), if_pos d4, ← hK2, ob_eq e1]
      dsimp only
      rw [e3 13 (by decide) (by decide), K2q 13 (by decide) (by decide) (by decide), a4]
    · obtain ⟨m0, t0, l1, l2, l3, l4, l5⟩ := hLg
      refine ⟨0, t0, by decide, l2, zgh, by rw [zgk (by decide), lo 34 (by decide) (by decide) (by decide)]; exact l4, e5, fun i w hi => absurd hi (Nat.not_lt_zero i), fun i hi => absurd hi (Nat.not_lt_zero i)⟩
    · rw [c5 k hk, a11 k hk, e13 k hk]
    · rw [e13 6 (by decide)]; decide
    · rw [e13 6 (by decide), g25]; decide
    · rw [e3 29 (by decide) (by decide), K2q 29 (by decide) (by decide) (by decide), a8 29 (by decide), Kq 29 (by decide)]; exact h29
    · rw [g25]; decide
    · rw [zgr (by decide), c3 1 (by decide), hA, zgh]; rfl
    · rw [e3 2 (by decide) (by decide), hK2, zgk (by decide), zgk (by decide), zgh]; rfl
    · rw [zgr (by decide), c3 3 (by decide), Ar 3 (by decide), b2 3 (by decide) (by decide) (by decide), d2, e3 21 (by decide) (by decide), hK2, zgk (by decide), zgh, d4]
    · rw [zgr (by decide), c3 3 (by decide), Ar 3 (by decide), b2 3 (by decide) (by decide) (by decide), d3, e3 22 (by decide) (by decide), hK2, zgh]
  · -- a fault
    obtain ⟨d0, d3, d4, d5⟩ := d1
    obtain ⟨K2, hK2⟩ : ∃ K2, K2 = zu (zu (zu κ1 q 2 0) q 21 (κ1 q 19)) q 22 (κ1 q 20) := ⟨_, rfl⟩
    have K2r : ∀ r, r ≠ q → K2 r = κ1 r := fun r h => by rw [hK2]; simp only [zgr h]
    have K2q : ∀ k, k ≠ 2 → k ≠ 21 → k ≠ 22 → K2 q k = κ1 q k := fun k h1 h2 h3 => by rw [hK2, zgk h3, zgk h2, zgk h1]
    have fr : ∀ r, r ≠ q → r ≠ q + 2 → r ≠ q + 3 → r ≠ q + 4 → r ≠ q + 5 → r ≠ q + 6 → K2 r = κ r := fun r h1 h2 h3 h4 h5 h6 => by rw [K2r r h1, a7 r h1 h2 h3 h4 h5 h6, Kr r h1]
    have fq : ∀ k, k = 9 ∨ 22 < k → K2 q k = κ q k := fun k hk => by rw [K2q k (by omega) (by omega) (by omega), a8 k (by omega), Kq k (by omega)]
    have e7 : K2 (q + 7) = κ (q + 7) := fr _ (by omega) (by omega) (by omega) (by omega) (by omega) (by omega)
    have lo : ∀ r, r ≠ 1 → r ≠ 3 → r < 19 ∨ 34 ≤ r → zu μ2 1 1 0 r = μ r := fun r h1 h3 h2 => by
      rw [zgr h1, b2 r (by omega) (by omega) (by omega), a5 r h3 h2]
    refine ⟨-1, n, c, x0, zu μ2 1 1 0, ν1, K2, τ, ?_, ?_, ?_, ?_, ⟨fun k hk => ?_, ?_, ?_⟩, ?_, ?_, ⟨0, by decide, ?_, ?_, fun i hi => absurd hi (Nat.not_lt_zero i)⟩, ?_, ?_⟩
    · rw [sC, a1, e_Reader_readInto_72, ob_eq b1]
      dsimp only
      rw [if_neg (show ¬ μ2 3 0 = 0 by rw [b2 3 (by decide) (by decide) (by decide), d4]; exact d3), e_Reader_readInto_88, Option.bind_some, zlet_eq, zlet_eq, if_pos rfl]
    · rw [sM, if_neg d3, e_M_text_54, zlet_eq, zgk (show 19 ≠ 22 by decide), zgk (show 19 ≠ 21 by decide), zgk (show 19 ≠ 2 by decide), if_neg d3, ← hK2]
    · exact hSt.fr (hSt.1.pt (fun r h1 h2 => lo r (by omega) (by omega) (by omega)) (fq 9 (by decide)) (fun i hi => by rw [K2r _ (by omega), (a9 i hi).1, Kr _ (by omega)]) (fun i hi => by rw [K2r _ (by omega), (a9 i hi).2, Kr _ (by omega)]) e7) (fun r hr => lo r (by omega) (by omega) (by omega)) (fun k _ => by rw [e7])
    · unfold RLg
      rw [lo 34 (by decide) (by decide) (by decide), lo 35 (by decide) (by decide) (by decide), fq 28 (by decide), fr (q + 11) (by omega) (by omega) (by omega) (by omega) (by omega) (by omega)]
      exact hLg
    · rw [a10 _ (by decide)]; exact hU.1 k hk
    · exact hU.2.1
    · rw [e7]; exact hU.2.2
    · rw [fq 29 (by decide)]; exact h29
    · rw [e7]; exact h25
    · rw [zgh]; rfl
    · rw [hK2, zgk (by decide), zgk (by decide), zgh]; rfl
    · rw [zgr (by decide), b2 3 (by decide) (by decide) (by decide), d4, hK2, zgk (by decide), zgh]
    · rw [zgr (by decide), b2 3 (by decide) (by decide) (by decide), d5, hK2, zgh]
