/-! The reference begins. -/
theorem bg_192 {q : Nat} {κ : zI} : ∀ (j k f : Nat) (τ : zJ), k + j = 11 → j < f → ∃ τ', f_M_begins_192 q f (nI k) κ τ = some (zu κ q 28 0, τ') ∧ (∀ r, r ≠ q + 9 → τ' r = τ r) ∧ (∀ m, m < k → τ' (q + 9) m = τ (q + 9) m) ∧ ∀ m, k ≤ m → m < 11 → τ' (q + 9) m = 0 := by
  intro j
  induction j with
  | zero =>
    intro k f τ hk hf
    obtain ⟨f, rfl⟩ : ∃ i, f = i + 1 := ⟨f - 1, by omega⟩
    obtain rfl : k = 11 := by omega
    exact ⟨τ, by rw [f_M_begins_192, if_pos (by decide), zlet_eq], fun _ _ => rfl, fun _ _ => rfl, fun m a b => by omega⟩
  | succ j ih =>
    intro k f τ hk hf
    obtain ⟨f, rfl⟩ : ∃ i, f = i + 1 := ⟨f - 1, by omega⟩
    obtain ⟨τ', a1, a2, a3, a4⟩ := ih (k + 1) f (zul τ (q + 9) k 0) (by omega) (by omega)
    refine ⟨τ', ?_, fun r h => by rw [a2 r h, zlr h], fun m hm => by rw [a3 m (by omega), zlk (by omega)], fun m h1 h2 => ?_⟩
    · rw [f_M_begins_192, if_neg (lge (c := 11) (k := k) 11 rfl (by omega) (by decide)), if_pos (zin_nI (by omega) (by decide)), zlet_eq, nI_clamp (by omega), nI_1]
      exact a1
    · by_cases e : m = k
      · subst e
        rw [a3 m (by omega), zlh]
      · exact a4 m (by omega) h2
theorem M_puts {q i m : Nat} {κ : zI} {τ : zJ} {R : Nat → Int32} (hi : i < 24) (hm : m < 24) (h46 : κ (q + 7) 46 = nI m) (hR : ∀ j, j < 4 * m → κ (q + 7) (47 + j) = R j) : ∃ κ', E_M_puts q (nI i) κ τ = some (κ', τ) ∧ (∀ r, r ≠ q + 7 → κ' r = κ r) ∧ κ' (q + 7) 46 = nI (m + 1) ∧ (∀ j, j < 46 ∨ 143 ≤ j → κ' (q + 7) j = κ (q + 7) j) ∧ ∀ j, j < 4 * (m + 1) → κ' (q + 7) (47 + j) = inI R (fun w => κ (q + 6) (4 * i + w)) (psI R (κ (q + 6) (4 * i)) m) j := by
  rw [E_M_puts, e_M_puts_0, zlet_eq, h46]
  exact M_ins (R := R) (E := κ (q + 6)) hi hm m zFuel κ (Nat.le_refl _) (by unfold zFuel; omega) h46 rfl (fun j h1 h2 => by
    rcases h2 with h2 | h2
    · rw [if_neg (by omega)]; exact hR j h2
    · omega)
theorem bg_171 {q m : Nat} {τ : zJ} {ev : Nat → Int32} (hm : m ≤ 24) : ∀ (j i f : Nat) (κ : zI), i + j = m → j < f → κ q 12 = nI m → κ (q + 6) = ev → κ (q + 7) 46 = nI i → (∀ j, j < 4 * i → κ (q + 7) (47 + j) = srt ev i j) → ∃ κ', f_M_begins_171 q f (nI i) κ τ = f_M_begins_192 q zFuel 0 κ' τ ∧ (∀ r, r ≠ q + 7 → κ' r = κ r) ∧ κ' (q + 7) 46 = nI m ∧ (∀ j, j < 46 ∨ 143 ≤ j → κ' (q + 7) j = κ (q + 7) j) ∧ ∀ j, j < 4 * m → κ' (q + 7) (47 + j) = srt ev m j := by
  intro j
  induction j with
  | zero =>
    intro i f κ hk hf h12 h6 h46 hR
    obtain ⟨f, rfl⟩ : ∃ i, f = i + 1 := ⟨f - 1, by omega⟩
    obtain rfl : i = m := by omega
    exact ⟨κ, by rw [f_M_begins_171, h12, if_pos (nI_le (by omega) (by omega))], fun _ _ => rfl, h46, fun _ _ => rfl, hR⟩
  | succ j ih =>
    intro i f κ hk hf h12 h6 h46 hR
    obtain ⟨f, rfl⟩ : ∃ i, f = i + 1 := ⟨f - 1, by omega⟩
    obtain ⟨κ1, a1, a2, a3, a4, a5⟩ := M_puts (q := q) (τ := τ) (i := i) (m := i) (R := srt ev i) (by omega) (by omega) h46 hR
    rw [h6] at a5
    obtain ⟨κ', b1, b2, b3, b4, b5⟩ := ih (i + 1) f κ1 (by omega) (by omega) (by rw [a2 q (by omega)]; exact h12) (by rw [a2 _ (by omega)]; exact h6) a3 (fun j hj => by rw [a5 j hj, srt])
    refine ⟨κ', ?_, fun r h => (b2 r h).trans (a2 r h), b3, fun j h => (b4 j h).trans (a4 j h), b5⟩
    rw [f_M_begins_171, h12, if_neg (Int32.not_le.mpr (nI_lt (by omega) (by omega))), ob_eq a1, nI_1]
    exact b1
/-- what stands after the modules -/
def bgK (q : Nat) (κ : zI) : zI := zu (zu (zu (zu (zu (zu (zu κ (q + 7) 27 1) (q + 7) 28 (κ (q + 2) 12)) (q + 7) 33 (κ q 5)) (q + 7) 36 1) (q + 7) 37 1) (q + 7) 38 50000) (q + 7) 39 50000
theorem bg_47 {q n : Nat} {τ : zJ} (hn : n ≤ 6) : ∀ (j i f : Nat) (κ : zI), i + j = n → j < f → κ q 9 = nI n → ∃ κ', f_M_begins_47 q f (nI i) κ τ = f_M_begins_171 q zFuel 0 (bgK q κ') τ ∧ (∀ r, r ≠ q + 4 → r ≠ q + 5 → r ≠ q + 7 → κ' r = κ r) ∧ (∀ j, j < i ∨ n ≤ j → κ' (q + 4) j = κ (q + 4) j ∧ κ' (q + 5) j = κ (q + 5) j ∧ κ' (q + 7) (19 + j) = κ (q + 7) (19 + j)) ∧ (∀ j, i ≤ j → j < n → κ' (q + 4) j = κ (q + 4) (6 + j) ∧ κ' (q + 5) j = κ (q + 5) (6 + j) ∧ κ' (q + 7) (19 + j) = 100) ∧ ∀ k, k < 19 ∨ 25 ≤ k → κ' (q + 7) k = κ (q + 7) k := by
  intro j
  induction j with
  | zero =>
    intro i f κ hk hf h9
    obtain ⟨f, rfl⟩ : ∃ i, f = i + 1 := ⟨f - 1, by omega⟩
    obtain rfl : i = n := by omega
    refine ⟨κ, ?_, fun _ _ _ _ => rfl, fun _ _ => ⟨rfl, rfl, rfl⟩, fun j h1 h2 => by omega, fun _ _ => rfl⟩
    rw [f_M_begins_47, h9, if_pos (nI_le (by omega) (by omega)), zlet_eq, zlet_eq, zlet_eq, zlet_eq, zlet_eq, zlet_eq, zlet_eq]
    rw [zgr (show q + 2 ≠ q + 7 by omega), zgr (show q ≠ q + 7 by omega), zgr (show q ≠ q + 7 by omega), bgK]
  | succ j ih =>
    intro i f κ hk hf h9
    obtain ⟨f, rfl⟩ : ∃ i, f = i + 1 := ⟨f - 1, by omega⟩
    obtain ⟨K, hK⟩ : ∃ K, K = zu (zu (zu κ (q + 4) i (κ (q + 4) (6 + i))) (q + 5) i (κ (q + 5) (6 + i))) (q + 7) (19 + i) 100 := ⟨_, rfl⟩
    have k4 : K (q + 4) = zu κ (q + 4) i (κ (q + 4) (6 + i)) (q + 4) := by rw [hK, zgr (by omega), zgr (by omega)]
    have k5 : ∀ j, K (q + 5) j = if j = i then κ (q + 5) (6 + i) else κ (q + 5) j := fun j => by
      rw [hK, zgr (by omega)]
      by_cases e : j = i
      · rw [e, zgh, if_pos rfl]
      · rw [zgk e, zgr (by omega), if_neg e]
    have k4 : ∀ j, K (q + 4) j = if j = i then κ (q + 4) (6 + i) else κ (q + 4) j := fun j => by
      rw [k4]
      by_cases e : j = i
      · rw [e, zgh, if_pos rfl]
      · rw [zgk e, if_neg e]
    have k7 : ∀ j, K (q + 7) j = if j = 19 + i then 100 else κ (q + 7) j := fun j => by
      rw [hK]
      by_cases e : j = 19 + i
      · rw [e, zgh, if_pos rfl]
      · rw [zgk e, zgr (by omega), zgr (by omega), if_neg e]
    have kr : ∀ r, r ≠ q + 4 → r ≠ q + 5 → r ≠ q + 7 → K r = κ r := fun r h1 h2 h3 => by rw [hK, zgr h3, zgr h2, zgr h1]
    obtain ⟨κ', a1, a2, a3, a4, a5⟩ := ih (i + 1) f K (by omega) (by omega) (by rw [kr q (by omega) (by omega) (by omega)]; exact h9)
    refine ⟨κ', ?_, fun r h1 h2 h3 => (a2 r h1 h2 h3).trans (kr r h1 h2 h3), fun j h => ?_, fun j h1 h2 => ?_, fun k h => ?_⟩
    · rw [f_M_begins_47, h9, if_neg (Int32.not_le.mpr (nI_lt (by omega) (by omega)))]
      have e6 : (6 : Int32) + nI i = nI (6 + i) := nI_add 6 i
      have e19 : (19 : Int32) + nI i = nI (19 + i) := nI_add 19 i
      rw [e6, e19, if_pos (zin_nI (show 6 + i < 12 by omega) (by decide)), if_pos (zin_nI (show i < 12 by omega) (by decide)), zlet_eq, nI_clamp (by omega), nI_clamp (by omega), if_pos (zin_nI (show 6 + i < 12 by omega) (by decide)), if_pos (zin_nI (show i < 12 by omega) (by decide)), zlet_eq, zgr (show q + 5 ≠ q + 4 by omega), if_pos (zin_nI (show 19 + i < 146 by omega) (by decide)), zlet_eq, nI_clamp (by omega), ← hK, nI_1]
      exact a1
    · obtain ⟨b1, b2, b3⟩ := a3 j (by omega)
      rw [b1, b2, b3, k4, k5, k7, if_neg (by omega), if_neg (by omega), if_neg (by omega)]
      exact ⟨rfl, rfl, rfl⟩
    · by_cases e : j = i
      · obtain ⟨b1, b2, b3⟩ := a3 j (by omega)
        rw [b1, b2, b3, k4, k5, k7, if_pos e, if_pos e, if_pos (by omega), e]
        exact ⟨rfl, rfl, rfl⟩
      · obtain ⟨b1, b2, b3⟩ := a4 j (by omega) h2
        rw [b1, b2, b3, k4, k5, if_neg (by omega), if_neg (by omega)]
        exact ⟨rfl, rfl, rfl⟩
    · rw [a5 k h, k7, if_neg (by omega)]
theorem bg_2 {q : Nat} {τ : zJ} : ∀ (j k f : Nat) (κ : zI), k + j = 146 → j < f → ∃ κ', f_M_begins_2 q f (nI k) κ τ = f_M_begins_47 q zFuel 0 (zu κ' q 9 (κ' q 10)) τ ∧ (∀ r, r ≠ q + 7 → κ' r = κ r) ∧ (∀ m, m < k → κ' (q + 7) m = κ (q + 7) m) ∧ ∀ m, k ≤ m → m < 146 → κ' (q + 7) m = if m < 19 then κ (q + 2) m else 0 := by
  intro j
  induction j with
  | zero =>
    intro k f κ hk hf
    obtain ⟨f, rfl⟩ : ∃ i, f = i + 1 := ⟨f - 1, by omega⟩
    obtain rfl : k = 146 := by omega
    exact ⟨κ, by rw [f_M_begins_2, if_pos (by decide), zlet_eq], fun _ _ => rfl, fun _ _ => rfl, fun m h1 h2 => by omega⟩
  | succ j ih =>
    intro k f κ hk hf
    obtain ⟨f, rfl⟩ : ∃ i, f = i + 1 := ⟨f - 1, by omega⟩
    obtain ⟨v, hv⟩ : ∃ v, v = if k < 19 then κ (q + 2) k else 0 := ⟨_, rfl⟩
    obtain ⟨κ', a1, a2, a3, a4⟩ := ih (k + 1) f (zu κ (q + 7) k v) (by omega) (by omega)
    refine ⟨κ', ?_, fun r h => by rw [a2 r h, zgr h], fun m hm => by rw [a3 m (by omega), zgk (by omega)], fun m h1 h2 => ?_⟩
    · rw [f_M_begins_2, if_neg (lge (c := 146) (k := k) 146 rfl (by omega) (by decide))]
      by_cases c : k < 19
      · rw [if_pos c] at hv
        rw [if_neg (lge (c := 19) (k := k) 19 rfl c (by decide)), if_pos (zin_nI c (by decide)), nI_clamp (by omega), ← hv, e_M_begins_30, if_pos (zin_nI (by omega) (by decide)), zlet_eq, nI_clamp (by omega), nI_1]
        exact a1
      · rw [if_neg c] at hv
        subst hv
        rw [if_pos (show (19 : Int32) ≤ nI k from nI_le (a := 19) (by omega) (by omega)), e_M_begins_30, if_pos (zin_nI (by omega) (by decide)), zlet_eq, nI_clamp (by omega), nI_1]
        exact a1
    · by_cases e : m = k
      · subst e
        rw [a3 m (by omega), zgh, hv]
      · rw [a4 m (by omega) h2, zgr (show q + 2 ≠ q + 7 by omega)]
theorem M_begins {q n m : Nat} {κ : zI} {τ : zJ} (hn : n ≤ 6) (hm : m ≤ 24) (h10 : κ q 10 = nI n) (h12 : κ q 12 = nI m) : ∃ κ' τ', E_M_begins q κ τ = some (κ', τ') ∧ (∀ r, r ≠ q → r ≠ q + 4 → r ≠ q + 5 → r ≠ q + 7 → κ' r = κ r) ∧ (∀ k, k ≠ 9 → k ≠ 28 → κ' q k = κ q k) ∧ κ' q 9 = nI n ∧ κ' q 28 = 0 ∧ (∀ i, i < n → κ' (q + 4) i = κ (q + 4) (6 + i) ∧ κ' (q + 5) i = κ (q + 5) (6 + i) ∧ κ' (q + 7) (19 + i) = 100) ∧ (∀ k, k < 19 → κ' (q + 7) k = κ (q + 2) k) ∧ (∀ k, 25 ≤ k → k < 46 → κ' (q + 7) k = if k = 27 then 1 else if k = 28 then κ (q + 2) 12 else if k = 33 then κ q 5 else if k = 36 then 1 else if k = 37 then 1 else if k = 38 then 50000 else if k = 39 then 50000 else 0) ∧ κ' (q + 7) 46 = nI m ∧ (∀ j, j < 4 * m → κ' (q + 7) (47 + j) = srt (κ (q + 6)) m j) ∧ (∀ j, 143 ≤ j → j < 146 → κ' (q + 7) j = 0) ∧ (∀ r, r ≠ q + 9 → τ' r = τ r) ∧ ∀ k, k < 11 → τ' (q + 9) k = 0 := by
  obtain ⟨κ1, a1, a2, a3, a4⟩ := bg_2 (q := q) (τ := τ) 146 0 zFuel κ (by decide) (by unfold zFuel; omega)
  have a10 : κ1 q 10 = nI n := by rw [a2 q (by omega)]; exact h10
  rw [a10] at a1
  obtain ⟨κ2, b1, b2, b3, b4, b5⟩ := bg_47 (q := q) (n := n) (τ := τ) hn n 0 zFuel (zu κ1 q 9 (nI n)) (by omega) (by unfold zFuel; omega) zgh
  have b7 : ∀ k, k < 19 ∨ 25 ≤ k → k < 146 → κ2 (q + 7) k = if k < 19 then κ (q + 2) k else 0 := fun k h1 h2 => by
    rw [b5 k h1, zgr (by omega), a4 k (by omega) h2]
  have br : ∀ r, r ≠ q → r ≠ q + 4 → r ≠ q + 5 → r ≠ q + 7 → κ2 r = κ r := fun r h h1 h2 h3 => by rw [b2 r h1 h2 h3, zgr h, a2 r h3]
  have bq : ∀ k, k ≠ 9 → κ2 q k = κ q k := fun k h => by rw [b2 q (by omega) (by omega) (by omega), zgk h, a2 q (by omega)]
  obtain ⟨K, hK⟩ : ∃ K, K = bgK q κ2 := ⟨_, rfl⟩
  have K7 : ∀ k, k < 19 ∨ 25 ≤ k → k < 146 → K (q + 7) k = if k < 19 then κ (q + 2) k else if k = 27 then 1 else if k = 28 then κ (q + 2) 12 else if k = 33 then κ q 5 else if k = 36 then 1 else if k = 37 then 1 else if k = 38 then 50000 else if k = 39 then 50000 else 0 := by
    intro k h1 h2
    have e := b7 k h1 h2
    have e2 : κ2 (q + 2) = κ (q + 2) := br _ (by omega) (by omega) (by omega) (by omega)
    have e5 : κ2 q 5 = κ q 5 := bq 5 (by decide)
    rw [hK, bgK, e2, e5]
    by_cases c1 : k = 39
    · subst c1; rw [zgh]; rfl
    rw [zgk c1]
    by_cases c2 : k = 38
    · subst c2; rw [zgh]; rfl
    rw [zgk c2]
    by_cases c3 : k = 37
    · subst c3; rw [zgh]; rfl
    rw [zgk c3]
    by_cases c4 : k = 36
    · subst c4; rw [zgh]; rfl
    rw [zgk c4]
    by_cases c5 : k = 33
    · subst c5; rw [zgh]; rfl
    rw [zgk c5]
    by_cases c6 : k = 28
    · subst c6; rw [zgh]; rfl
    rw [zgk c6]
    by_cases c7 : k = 27
    · subst c7; rw [zgh]; rfl
    rw [zgk c7, e, if_neg c1, if_neg c2, if_neg c3, if_neg c4, if_neg c5, if_neg c6, if_neg c7]
  have Kr : ∀ r, r ≠ q + 7 → K r = κ2 r := fun r h => by
    rw [hK, bgK]
    simp only [zgr h]
  have K19 : ∀ i, i < 6 → K (q + 7) (19 + i) = κ2 (q + 7) (19 + i) := fun i hi => by
    rw [hK, bgK]
    simp (disch := omega) only [zgk]
  obtain ⟨κ3, c1, c2, c3, c4, c5⟩ := bg_171 (q := q) (m := m) (τ := τ) (ev := κ (q + 6)) hm m 0 zFuel K (by omega) (by unfold zFuel; omega) (by rw [Kr q (by omega), bq 12 (by decide)]; exact h12) (by rw [Kr _ (by omega), br _ (by omega) (by omega) (by omega) (by omega)]) (K7 46 (by decide) (by decide)) (fun j hj => by omega)
  obtain ⟨τ', d1, d2, d3, d4⟩ := bg_192 (q := q) (κ := κ3) 11 0 zFuel τ (by decide) (by unfold zFuel; omega)
  refine ⟨zu κ3 q 28 0, τ', ?_, fun r h1 h2 h3 h4 => by rw [zgr h1, c2 r h4, Kr r h4, br r h1 h2 h3 h4], fun k h1 h2 => by rw [zgk h2, c2 q (by omega), Kr q (by omega), bq k h1], by rw [zgk (by decide), c2 q (by omega), Kr q (by omega), b2 q (by omega) (by omega) (by omega), zgh], zgh, fun i hi => ?_, fun k hk => ?_, fun k h1 h2 => ?_, by rw [zgr (by omega)]; exact c3, fun j hj => by rw [zgr (by omega)]; exact c5 j hj, fun j h1 h2 => ?_, d2, fun k hk => d4 k (by omega) hk⟩
  · have e0 : nI 0 = (0 : Int32) := rfl
    rw [e0] at a1 b1 c1 d1
    rw [E_M_begins, e_M_begins_0, a1, b1, ← hK, c1, d1]
  · obtain ⟨f1, f2, f3⟩ := b4 i (by omega) hi
    rw [zgr (by omega), zgr (by omega), zgr (by omega), c2 _ (by omega), c2 _ (by omega), c4 _ (by omega), Kr _ (by omega), Kr _ (by omega), K19 i (by omega), f1, f2, f3, zgr (by omega), zgr (by omega), a2 _ (by omega), a2 _ (by omega)]
    exact ⟨rfl, rfl, rfl⟩
  · rw [zgr (by omega), c4 k (by omega), K7 k (by omega) (by omega), if_pos hk]
  · rw [zgr (by omega), c4 k (by omega), K7 k (by omega) (by omega), if_neg (by omega)]
  · rw [zgr (by omega), c4 j (by omega), K7 j (by omega) h2, if_neg (by omega), if_neg (by omega), if_neg (by omega), if_neg (by omega), if_neg (by omega), if_neg (by omega), if_neg (by omega), if_neg (by omega)]
