/-! module; the start. -/
theorem C_hasP {b k n : Nat} {μ : zI} {ν : zJ} (hn : μ (b + 3) 0 = nI n) (h6 : n ≤ 6) (hk : k < n) : E_Panel_has b (nI k) μ ν = some (1, μ, ν) := by
  rw [E_Panel_has, e_Panel_has_0, if_neg (nI_pos (by omega)), hn, if_neg (nI_ge hk (by omega)), if_neg (lge (c := 6) (k := k) 6 rfl (by omega) (by decide)), e_Panel_has_23, if_pos (show zb 1 = true from rfl)]
theorem C_amps {b k n : Nat} {μ : zI} {ν : zJ} (hn : μ (b + 3) 0 = nI n) (h6 : n ≤ 6) (hk : k < n) : E_Panel_ampsOf b (nI k) μ ν = some (μ (b + 4) k, μ, ν) ∧ E_Panel_voltsOf b (nI k) μ ν = some (μ (b + 5) k, μ, ν) ∧ E_Panel_lightOf b (nI k) μ ν = some (μ (b + 6) k, μ, ν) ∧ E_Panel_litOf b (nI k) μ ν = some (μ (b + 7) k, μ, ν) := by
  refine ⟨?_, ?_, ?_, ?_⟩
  · rw [E_Panel_ampsOf, e_Panel_ampsOf_0, ob_eq (C_hasP hn h6 hk), if_neg one_ne_0, if_pos (zin_nI (by omega) (by decide)), nI_clamp (by omega), e_Panel_ampsOf_18]
  · rw [E_Panel_voltsOf, e_Panel_voltsOf_0, ob_eq (C_hasP hn h6 hk), if_neg one_ne_0, if_pos (zin_nI (by omega) (by decide)), nI_clamp (by omega), e_Panel_voltsOf_18]
  · rw [E_Panel_lightOf, e_Panel_lightOf_0, ob_eq (C_hasP hn h6 hk), if_neg one_ne_0, if_pos (zin_nI (by omega) (by decide)), nI_clamp (by omega), e_Panel_lightOf_18]
  · rw [E_Panel_litOf, e_Panel_litOf_0, ob_eq (C_hasP hn h6 hk), if_neg one_ne_0, if_pos (zin_nI (by omega) (by decide)), nI_clamp (by omega), e_Panel_litOf_18]
/-- how module ends: 1 an IndexOutOfBoundsException, 2 a NoSuchElementException, 0 the answer -/
def mdC (i w : Int32) (μ : zI) (ν : zJ) (t v : Int32) : Prop :=
  (t = 1 ∧ E_S_isModule i μ ν = some (0, μ, ν)) ∨ (t = 2 ∧ E_S_isModule i μ ν = some (1, μ, ν) ∧ w ≠ 0 ∧ w ≠ 1 ∧ w ≠ 2 ∧ w ≠ 3) ∨ (t = 0 ∧ E_S_isModule i μ ν = some (1, μ, ν) ∧ ((w = 0 ∧ E_Panel_ampsOf 4 i μ ν = some (v, μ, ν)) ∨ (w = 1 ∧ E_Panel_voltsOf 4 i μ ν = some (v, μ, ν)) ∨ (w = 2 ∧ E_Panel_lightOf 4 i μ ν = some (v, μ, ν)) ∨ (w = 3 ∧ E_Panel_litOf 4 i μ ν = some (v, μ, ν))))
theorem sim_module {q n c x : Nat} {μ κ : zI} {ν τ : zJ} (i w : Int32) (h : RR q n c x μ ν κ τ) : ∃ t v κ', mdC i w μ ν t v ∧ E_M_module q i w κ τ = some (v, κ', τ) ∧ κ' q 0 = t ∧ RR q n c x μ ν κ' τ := by
  have hn : μ (4 + 3) 0 = nI n := h.1.1.2.1
  have h6 : n ≤ 6 := h.1.1.1
  obtain ⟨K, hK⟩ : ∃ K, K = zu κ q 0 0 := ⟨_, rfl⟩
  have h0 : RR q n c x μ ν K τ := hK ▸ h.th
  have k0 : K q 0 = 0 := by rw [hK, zgh]
  have k9 : K q 9 = nI n := h0.1.1.2.2.1
  have out : (i < 0 ∨ nI n ≤ i) → ∃ t v κ', mdC i w μ ν t v ∧ E_M_module q i w κ τ = some (v, κ', τ) ∧ κ' q 0 = t ∧ RR q n c x μ ν κ' τ := fun ho =>
    ⟨1, 0, zu K q 0 1, Or.inl ⟨rfl, S_mod_out hn h6 ho⟩, by rw [E_M_module, e_M_module_0, zlet_eq, ← hK, ob_eq (M_mod_out k9 ho), if_pos rfl, zlet_eq], zgh, h0.th⟩
  by_cases c1 : i < 0
  · exact out (Or.inl c1)
  by_cases c2 : nI n ≤ i
  · exact out (Or.inr c2)
  obtain ⟨k, hk, rfl⟩ : ∃ k, k < n ∧ i = nI k := by
    have e1 := ile.mp (Int32.not_lt.mp c1)
    have e2 := ilt.mp (Int32.not_le.mp c2)
    rw [nIt (by omega)] at e2
    have z : (0 : Int32).toInt = 0 := rfl
    refine ⟨i.toInt.toNat, by omega, ?_⟩
    rw [← Int32.toInt_inj, nIt (by omega)]
    omega
  obtain ⟨p4, p5⟩ := (⟨h0.1.1.2.2.2.1 k hk, h0.1.1.2.2.2.2.1 k hk⟩ : _ ∧ _)
  obtain ⟨a1, a2, a3, a4⟩ := C_amps (b := 4) (ν := ν) hn h6 hk
  rw [p4.1] at a1
  rw [p4.2.1] at a2
  rw [p4.2.2.1] at a3
  rw [p4.2.2.2] at a4
  have im := S_mod_in (ν := ν) hn h6 hk
  have sM : E_M_module q (nI k) w κ τ = if w = 0 then some (K (q + 4) k, K, τ) else if w = 1 then some (K (q + 5) k, K, τ) else if w = 2 then some (K (q + 7) (19 + k), K, τ) else if w = 3 then some (mLit q K k, K, τ) else some (0, zu K q 0 2, τ) := by
    rw [E_M_module, e_M_module_0, zlet_eq, ← hK, ob_eq (M_mod_in k9 h6 hk), if_neg one_ne_0]
    have e19 : (19 : Int32) + nI k = nI (19 + k) := nI_add 19 k
    rw [e19, if_pos (zin_nI (show k < 12 by omega) (by decide)), if_pos (zin_nI (show k < 12 by omega) (by decide)), if_pos (zin_nI (show 19 + k < 146 by omega) (by decide)), nI_clamp (by omega), nI_clamp (by omega), ob_eq (M_litOf_eq (by omega)), zlet_eq]
  by_cases w0 : w = 0
  · exact ⟨0, _, K, Or.inr (Or.inr ⟨rfl, im, Or.inl ⟨w0, a1⟩⟩), by rw [sM, if_pos w0], k0, h0⟩
  by_cases w1 : w = 1
  · exact ⟨0, _, K, Or.inr (Or.inr ⟨rfl, im, Or.inr (Or.inl ⟨w1, a2⟩)⟩), by rw [sM, if_neg w0, if_pos w1], k0, h0⟩
  by_cases w2 : w = 2
  · exact ⟨0, _, K, Or.inr (Or.inr ⟨rfl, im, Or.inr (Or.inr (Or.inl ⟨w2, a3⟩))⟩), by rw [sM, if_neg w0, if_neg w1, if_pos w2], k0, h0⟩
  by_cases w3 : w = 3
  · exact ⟨0, _, K, Or.inr (Or.inr ⟨rfl, im, Or.inr (Or.inr (Or.inr ⟨w3, a4⟩))⟩), by rw [sM, if_neg w0, if_neg w1, if_neg w2, if_pos w3], k0, h0⟩
  exact ⟨2, 0, zu K q 0 2, Or.inr (Or.inl ⟨rfl, im, w0, w1, w2, w3⟩), by rw [sM, if_neg w0, if_neg w1, if_neg w2, if_neg w3], zgh, h0.th⟩
/-! ## the start -/
/-- a station renewed and begun -/
def FB (b : Nat) (μ : zI) (ν : zJ) : Prop := μ b 0 = 0 ∧ (∀ k, k < 19 → μ (b + 2) k = frV.getD k 0) ∧ μ (b + 9) 0 = 0 ∧ μ (b + 9) 1 = 0 ∧ (∀ k, k < 13 → μ (b + 11) k = if k = 1 then 1 else if k = 2 then 4 else 0) ∧ (∀ k, k < 5 → μ (b + 12) k = 0) ∧ (∀ k, k < 8 → μ (b + 13) k = if k < 2 then 1 else if k < 4 then 50000 else 0) ∧ (∀ q κ, κ q 9 = nI 0 → mKn q 0 κ → RP b q 0 μ κ) ∧ ∀ k, k < 11 → ν (b + 14) k = 0
theorem FB.fr {b : Nat} {μ μ' : zI} {ν ν' : zJ} (h : FB b μ ν) (e : ∀ r, b ≤ r → r < b + 15 → μ' r = μ r) (g : ν' (b + 14) = ν (b + 14)) : FB b μ' ν' := by
  obtain ⟨h0, h2, h9, h9', h11, h12, h13, hP, hs⟩ := h
  exact ⟨by rw [e b (by omega) (by omega)]; exact h0, by rw [e (b + 2) (by omega) (by omega)]; exact h2, by rw [e (b + 9) (by omega) (by omega)]; exact h9, by rw [e (b + 9) (by omega) (by omega)]; exact h9', by rw [e (b + 11) (by omega) (by omega)]; exact h11, by rw [e (b + 12) (by omega) (by omega)]; exact h12, by rw [e (b + 13) (by omega) (by omega)]; exact h13, fun q κ a1 a2 => (hP q κ a1 a2).fr (fun r g1 g2 => e r (by omega) (by omega)) rfl rfl rfl (fun _ _ => rfl) (fun _ _ => rfl), by rw [g]; exact hs⟩
theorem C_fresh {b : Nat} {μ : zI} {ν : zJ} : ∃ μ1 ν1 μ' ν', E_Station_renew b μ ν = some (μ1, ν1) ∧ E_Station_begin b μ1 ν1 = some (μ', ν') ∧ (∀ r, r < b ∨ b + 15 ≤ r → μ' r = μ r) ∧ (∀ r, r ≠ b + 14 → ν' r = ν r) ∧ FB b μ' ν' := by
  obtain ⟨A, hA⟩ : ∃ A, A = zu (zu (zu (zr (zu (zu μ b 0 0) b 1 0) (b + 2) (va_cpy (fun j => ((zTabs.getD 0 ("", "", [])).2.2).getD j 0) ((zu (zu μ b 0 0) b 1 0) (b + 2)) 0 0 19)) (b + 3) 0 0) (b + 9) 0 0) (b + 9) 1 0 := ⟨_, rfl⟩
  obtain ⟨μ1, a1, a2, a3⟩ := C_renF (b := b) (μ := A) (ν := ν)
  obtain ⟨μ2, b1, b2, b3⟩ := C_renB (b := b) (μ := μ1) (ν := ν)
  obtain ⟨μ3, c1, c2, c3⟩ := C_renI (b := b) (μ := μ2) (ν := ν)
  obtain ⟨ν1, hν⟩ : ∃ ν1, ν1 = zrl ν (b + 14) (fun j => if j < 11 then 0 else ν (b + 14) j) := ⟨_, rfl⟩
  have Ar : ∀ r, r ≠ b → r ≠ b + 2 → r ≠ b + 3 → r ≠ b + 9 → A r = μ r := fun r h1 h2 h3 h4 => by
    rw [hA, zgr h4, zgr h4, zgr h3, zr_eq, if_neg h2, zgr h1, zgr h1]
  have m3 : ∀ r, r ≠ b + 11 → r ≠ b + 12 → r ≠ b + 13 → μ3 r = A r := fun r h1 h2 h3 => by rw [c2 r h3, b2 r h2, a2 r h1]
  have p30 : μ3 (b + 3) 0 = nI 0 := by rw [m3 _ (by omega) (by omega) (by omega), hA, zgr (by omega), zgr (by omega), zgh]; rfl
  obtain ⟨μ4, d1, d2⟩ := C_reckon_eq (b := b) (n := 0) (ν := ν1) p30 ⟨by decide, fun i hi => absurd hi (Nat.not_lt_zero i)⟩
  have t12 : μ4 (b + 2) 12 = 4 := by
    rw [d2.1 _ (by omega) (by omega), m3 _ (by omega) (by omega) (by omega), hA, zgr (by omega), zgr (by omega), zgr (by omega), zr_eq, if_pos rfl, cpy_at (by decide)]
    decide
  have m4 : ∀ r, r ≠ b + 3 → r ≠ b + 8 → r ≠ b + 11 → zu μ4 (b + 11) 2 4 r = μ3 r := fun r h1 h2 h3 => by rw [zgr h3, d2.1 r h1 h2]
  refine ⟨μ3, ν1, zu μ4 (b + 11) 2 4, ν1, ?_, ?_, fun r h => by rw [m4 r (by omega) (by omega) (by omega), m3 r (by omega) (by omega) (by omega), Ar r (by omega) (by omega) (by omega) (by omega)], fun r h => by rw [hν, zrl_eq, if_neg h], ?_, fun k hk => ?_, ?_, ?_, fun k hk => ?_, fun k hk => ?_, fun k hk => ?_, fun q κ g1 g2 => ?_, fun k hk => by rw [hν, zrl_eq, if_pos rfl, if_pos hk]⟩
  · rw [E_Station_renew, e_Station_renew_0, zlet_eq, zlet_eq, E_Told_renew, e_Told_renew_0, if_pos z19, if_pos z19, zlet_eq, Option.bind_some, E_Panel_renew, e_Panel_renew_0, zlet_eq, Option.bind_some, E_Schedule_renew, e_Schedule_renew_0, zlet_eq, zlet_eq, Option.bind_some]
    dsimp only
    rw [← hA, ob_eq a1]
    dsimp only
    rw [ob_eq b1]
    dsimp only
    rw [ob_eq c1, E_Station_clearSums, e_Station_clearSums_0, zlet_eq, Option.bind_some, hν]
  · rw [E_Station_begin, e_Station_begin_0, ob_eq d1]
    dsimp only
    rw [show (12 : Int32) = nI 12 from rfl, ob_eq (Tg (by decide)), zlet_eq, t12]
  · rw [m4 b (by omega) (by omega) (by omega), m3 b (by omega) (by omega) (by omega), hA, zgr (by omega), zgr (by omega), zgr (by omega), zr_eq, if_neg (by omega), zgk (by decide), zgh]
  · rw [m4 _ (by omega) (by omega) (by omega), m3 _ (by omega) (by omega) (by omega), hA, zgr (by omega), zgr (by omega), zgr (by omega), zr_eq, if_pos rfl, cpy_at hk]
    exact tab0 k hk
  · rw [m4 _ (by omega) (by omega) (by omega), m3 _ (by omega) (by omega) (by omega), hA, zgk (by decide), zgh]
  · rw [m4 _ (by omega) (by omega) (by omega), m3 _ (by omega) (by omega) (by omega), hA, zgh]
  · by_cases e : k = 2
    · subst e; rw [zgh]; rfl
    · rw [zgk e, d2.1 _ (by omega) (by omega), c2 _ (by omega), b2 _ (by omega), a3 k hk, if_neg e]
  · rw [m4 _ (by omega) (by omega) (by omega), c2 _ (by omega), b3 k hk]
  · rw [m4 _ (by omega) (by omega) (by omega), c3 k hk]
  · have L : RL b q 0 μ3 κ := ⟨by decide, p30, g1, fun i hi => absurd hi (Nat.not_lt_zero i), fun i hi => absurd hi (Nat.not_lt_zero i)⟩
    obtain ⟨μ5, f1, f2, f3⟩ := L.reck (ν := ν1) g2
    have e : μ4 = μ5 := congrArg Prod.fst (Option.some.inj (d1.symm.trans f1))
    subst e
    exact f2.fr (fun r h1 h2 => zgr (by omega)) rfl rfl rfl (fun _ _ => rfl) (fun _ _ => rfl)
/-- the class made -/
def FC (μ : zI) (ν : zJ) : Prop := FB 4 μ ν ∧ μ 1 1 = 0 ∧ μ 3 0 = 0 ∧ μ 3 1 = -1 ∧ μ 34 0 = 0 ∧ μ 34 1 = 0
/-- the reference made: before freshText -/
def FM (q : Nat) (κ : zI) : Prop := κ q 2 = 0 ∧ κ q 21 = 0 ∧ κ q 22 = -1 ∧ κ q 29 = 0
theorem M_fresh {q : Nat} {κ : zI} {τ : zJ} (h : FM q κ) : ∃ κ1 κ' τ', E_M_freshText q κ τ = some (κ1, τ) ∧ E_M_begins q κ1 τ = some (κ', τ') ∧ (∀ r, r < q ∨ q + 12 ≤ r → κ' r = κ r) ∧ (∀ r, r ≠ q + 9 → τ' r = τ r) ∧ ∀ μ ν, FC μ ν → RR q 0 0 0 μ ν κ' τ' := by
  obtain ⟨K, hK⟩ : ∃ K, K = frM q κ := ⟨_, rfl⟩
  have K2 : ∀ k, k < 19 → K (q + 2) k = frV.getD k 0 := fun k hk => by rw [hK]; exact frM_2 hk
  have K0' : ∀ k, k = 5 ∨ k = 6 ∨ k = 10 ∨ k = 12 → K q k = 0 := fun k hk => by rw [hK]; exact frM_0 hk
  have Kq : ∀ k, k = 2 ∨ k = 21 ∨ k = 22 ∨ k = 29 → K q k = κ q k := fun k hk => by rw [hK, frM_q (by omega) (by omega) (by omega) (by omega)]
  obtain ⟨κ2, τ2, e1, e2, e3, e4, e5, e6, e7, e8, e9, e10, e11, e12, e13⟩ := M_begins (q := q) (n := 0) (m := 0) (κ := K) (τ := τ) (by decide) (by decide) (K0' 10 (by decide)) (K0' 12 (by decide))
  refine ⟨K, κ2, τ2, by rw [hK]; rfl, e1, fun r h => ?_, e12, fun μ ν hF => ?_⟩
  · rw [e2 r (by omega) (by omega) (by omega) (by omega), hK, frM_r (by omega) (by omega) (by omega)]
  obtain ⟨⟨F0, F2, F9, F9', F11, F12, F13, FP, FN⟩, t0, r0, r1, l0, l1⟩ := hF
  have c5 : K q 5 = 0 := K0' 5 (by decide)
  have k12 : K (q + 2) 12 = 4 := K2 12 (by decide)
  rw [c5, k12] at e8
  have g : ∀ k, 25 ≤ k → k < 46 → κ2 (q + 7) k = if k = 27 then 1 else if k = 28 then 4 else if k = 36 then 1 else if k = 37 then 1 else if k = 38 then 50000 else if k = 39 then 50000 else 0 := fun k h1 h2 => by
    rw [e8 k h1 h2]
    by_cases e : k = 33
    · subst e; rfl
    · rw [if_neg e]
  have e7' : ∀ k, k < 19 → κ2 (q + 7) k = frV.getD k 0 := fun k hk => by rw [e7 k hk, K2 k hk]
  have g25 : κ2 (q + 7) 25 = 0 := g 25 (by decide) (by decide)
  have g26 : κ2 (q + 7) 26 = 0 := g 26 (by decide) (by decide)
  have g27 : κ2 (q + 7) 27 = 1 := g 27 (by decide) (by decide)
  have g28 : κ2 (q + 7) 28 = 4 := g 28 (by decide) (by decide)
  have g29 : κ2 (q + 7) 29 = 0 := g 29 (by decide) (by decide)
  have g30 : κ2 (q + 7) 30 = 0 := g 30 (by decide) (by decide)
  have g31 : κ2 (q + 7) 31 = 0 := g 31 (by decide) (by decide)
  have g32 : κ2 (q + 7) 32 = 0 := g 32 (by decide) (by decide)
  have g33 : κ2 (q + 7) 33 = 0 := g 33 (by decide) (by decide)
  have g34 : κ2 (q + 7) 34 = 0 := g 34 (by decide) (by decide)
  have g35 : κ2 (q + 7) 35 = 0 := g 35 (by decide) (by decide)
  have g36 : κ2 (q + 7) 36 = 1 := g 36 (by decide) (by decide)
  have g37 : κ2 (q + 7) 37 = 1 := g 37 (by decide) (by decide)
  have g38 : κ2 (q + 7) 38 = 50000 := g 38 (by decide) (by decide)
  have g39 : κ2 (q + 7) 39 = 50000 := g 39 (by decide) (by decide)
  have g40 : κ2 (q + 7) 40 = 0 := g 40 (by decide) (by decide)
  have g41 : κ2 (q + 7) 41 = 0 := g 41 (by decide) (by decide)
  have g42 : κ2 (q + 7) 42 = 0 := g 42 (by decide) (by decide)
  have g00 : κ2 (q + 7) 0 = 10000 := e7' 0 (by decide)
  refine ⟨⟨FP q κ2 e4 (fun e => by rw [e11 145 (by decide) (by decide)] at e; exact absurd e (by decide)), fun k hk => ?_, ?_, ?_, ?_, ?_, ?_, fun j hj => absurd hj (Nat.not_lt_zero j), ?_, ?_⟩, ⟨0, 0, by decide, by decide, l0, l1, e5, fun i w hi => absurd hi (Nat.not_lt_zero i), fun i hi => absurd hi (Nat.not_lt_zero i)⟩, ⟨fun k hk => by rw [FN k hk, e13 k hk], ?_, ?_⟩, ?_, ?_, ⟨0, by decide, t0, ?_, fun i hi => absurd hi (Nat.not_lt_zero i)⟩, ?_, ?_⟩
  · rw [F2 k hk, e7' k hk]
    refine ⟨rfl, ?_⟩
    revert k
    decide
  · refine ⟨⟨⟨0, by decide, F11 0 (by decide), g26⟩, ⟨?_, ?_⟩, ⟨?_, ?_, ?_⟩, ?_⟩, ⟨?_, ?_, ?_⟩, ?_, ⟨?_, ?_⟩, fun hh => ?_, ?_, ?_, ?_⟩
    · rw [F11 1 (by decide), g27]; rfl
    · exact Or.inl g27
    · rw [F11 2 (by decide), g28]; rfl
    · rw [g28]; decide
    · rw [g28]; decide
    · rw [F11 3 (by decide), g29]; rfl
    · rw [F11 4 (by decide), g30]; rfl
    · rw [g30]; decide
    · rw [g30]; decide
    · rw [F11 5 (by decide), g32]; rfl
    · rw [F11 7 (by decide), g31]; rfl
    · exact Or.inl g31
    · rw [g31] at hh; exact absurd hh (by decide)
    · rw [F11 8 (by decide)]; exact Or.inl rfl
    · rw [F11 9 (by decide)]; exact Or.inl rfl
    · rw [F11 10 (by decide)]; exact Or.inl rfl
  · refine ⟨?_, ?_, ?_, ?_, ?_, ?_⟩
    · rw [F12 0 (by decide), g33]
    · rw [F12 1 (by decide), g34]
    · rw [F12 2 (by decide), g35]
    · exact Or.inl g34
    · rw [g33]; decide
    · rw [g33, g00]; decide
  · refine ⟨⟨?_, Or.inr g36⟩, ?_, ?_, ?_, ?_, ?_, ?_, ⟨?_, ?_⟩, ⟨?_, ?_⟩⟩
    · rw [F13 0 (by decide), g36]; rfl
    · rw [F13 1 (by decide), g37]; rfl
    · rw [F13 2 (by decide), g38]; rfl
    · rw [F13 3 (by decide), g39]; rfl
    · rw [F13 4 (by decide), g40]; rfl
    · rw [F13 5 (by decide), g41]; rfl
    · rw [F13 6 (by decide), g42]; rfl
    · rw [g38]; decide
    · rw [g38]; decide
    · rw [g39]; decide
    · rw [g39]; decide
  · exact ⟨by decide, by decide, F9, F9', e9, fun i w hi => absurd hi (Nat.not_lt_zero i), fun i hi => absurd hi (Nat.not_lt_zero i), fun i j _ hj => absurd hj (Nat.not_lt_zero j)⟩
  · rw [F0, g25]
  · rw [g25]; decide
  · rw [F13 7 (by decide)]; exact Or.inl rfl
  · rw [e13 6 (by decide)]; decide
  · rw [e13 6 (by decide), g25]; decide
  · rw [e3 29 (by decide) (by decide), Kq 29 (by decide)]; exact h.2.2.2
  · rw [g25]; decide
  · rw [e3 2 (by decide) (by decide), Kq 2 (by decide), h.1]; rfl
  · rw [r0, e3 21 (by decide) (by decide), Kq 21 (by decide), h.2.1]
  · rw [r1, e3 22 (by decide) (by decide), Kq 22 (by decide), h.2.2.1]
