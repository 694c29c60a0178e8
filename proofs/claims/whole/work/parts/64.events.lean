/-! What comes, told: rows in order of the text at the reference, in order of the tick at the class. -/
theorem psI_congr {R R' : Nat → Int32} {t : Int32} : ∀ k, (∀ j, j < 4 * k → R j = R' j) → psI R t k = psI R' t k := by
  intro k
  induction k with
  | zero => intro _; rfl
  | succ k ih =>
    intro h
    rw [psI, psI, h (4 * k) (by omega), ih (fun j hj => h j (by omega))]
theorem inI_congr {R R' e e' : Nat → Int32} {p m j : Nat} (hp : p ≤ m) (hj : j < 4 * (m + 1)) (h : ∀ j, j < 4 * m → R j = R' j) (he : ∀ w, w < 4 → e w = e' w) : inI R e p j = inI R' e' p j := by
  rw [inI, inI]
  by_cases c : j < 4 * p
  · rw [if_pos c, if_pos c, h j (by omega)]
  · rw [if_neg c, if_neg c]
    by_cases d : j < 4 * p + 4
    · rw [if_pos d, if_pos d, he _ (by omega)]
    · rw [if_neg d, if_neg d, h _ (by omega)]
theorem psI_lo {R : Nat → Int32} {t : Int32} : ∀ k i, psI R t k ≤ i → i < k → t.toInt < (R (4 * i)).toInt := by
  intro k
  induction k with
  | zero => intro i _ h; omega
  | succ k ih =>
    intro i h1 h2
    rw [psI] at h1
    by_cases c : R (4 * k) ≤ t
    · rw [if_pos c] at h1; omega
    · rw [if_neg c] at h1
      by_cases e : i = k
      · subst e
        exact ilt.mp (Int32.not_le.mp c)
      · exact ih i h1 (by omega)
theorem psI_at {R : Nat → Int32} {t : Int32} : ∀ k, 0 < psI R t k → (R (4 * (psI R t k - 1))).toInt ≤ t.toInt := by
  intro k
  induction k with
  | zero => intro h; exact absurd h (Nat.lt_irrefl 0)
  | succ k ih =>
    intro h
    rw [psI] at h ⊢
    by_cases c : R (4 * k) ≤ t
    · rw [if_pos c, Nat.add_sub_cancel]
      exact ile.mp c
    · rw [if_neg c] at h ⊢
      exact ih h
theorem inI_row {R e : Nat → Int32} {p i w : Nat} (hw : w < 4) : inI R e p (4 * i + w) = if i < p then R (4 * i + w) else if i = p then e w else R (4 * (i - 1) + w) := by
  rw [inI]
  by_cases c : i < p
  · rw [if_pos c, if_pos (by omega)]
  · rw [if_neg c, if_neg (by omega)]
    by_cases d : i = p
    · subst d
      rw [if_pos rfl, if_pos (by omega), show 4 * i + w - 4 * i = w by omega]
    · rw [if_neg d, if_neg (by omega), show 4 * i + w - 4 = 4 * (i - 1) + w by omega]
/-- the rows in their order -/
def srt (ev : Nat → Int32) : Nat → Nat → Int32
  | 0 => fun _ => 0
  | m + 1 => inI (srt ev m) (fun w => ev (4 * m + w)) (psI (srt ev m) (ev (4 * m)) m)
theorem srt_congr {ev ev' : Nat → Int32} : ∀ m, (∀ j, j < 4 * m → ev j = ev' j) → ∀ j, j < 4 * m → srt ev m j = srt ev' m j := by
  intro m
  induction m with
  | zero => intro _ j hj; omega
  | succ m ih =>
    intro h j hj
    have e := ih (fun j hj => h j (by omega))
    rw [srt, srt, h (4 * m) (by omega), psI_congr m e]
    exact inI_congr (psI_le m) hj e (fun w hw => h _ (by omega))
theorem srt_from {ev : Nat → Int32} : ∀ m i, i < m → ∃ k, k < m ∧ ∀ w, w < 4 → srt ev m (4 * i + w) = ev (4 * k + w) := by
  intro m
  induction m with
  | zero => intro i h; omega
  | succ m ih =>
    intro i hi
    have hp := psI_le (R := srt ev m) (t := ev (4 * m)) m
    by_cases c : i < psI (srt ev m) (ev (4 * m)) m
    · obtain ⟨k, k1, k2⟩ := ih i (by omega)
      exact ⟨k, by omega, fun w hw => by rw [srt, inI_row hw, if_pos c, k2 w hw]⟩
    · by_cases d : i = psI (srt ev m) (ev (4 * m)) m
      · exact ⟨m, by omega, fun w hw => by rw [srt, inI_row hw, if_neg c, if_pos d]⟩
      · obtain ⟨k, k1, k2⟩ := ih (i - 1) (by omega)
        exact ⟨k, by omega, fun w hw => by rw [srt, inI_row hw, if_neg c, if_neg d, k2 w hw]⟩
theorem srt_up {ev : Nat → Int32} : ∀ m i j, i < j → j < m → (srt ev m (4 * i + 0)).toInt ≤ (srt ev m (4 * j + 0)).toInt := by
  intro m
  induction m with
  | zero => intro i j _ h; omega
  | succ m ih =>
    intro i j hij hj
    obtain ⟨p, hp⟩ : ∃ p, p = psI (srt ev m) (ev (4 * m)) m := ⟨_, rfl⟩
    have hpm : p ≤ m := by rw [hp]; exact psI_le m
    have lo : ∀ i, p ≤ i → i < m → (ev (4 * m)).toInt < (srt ev m (4 * i)).toInt := by rw [hp]; exact psI_lo m
    have at' : 0 < p → (srt ev m (4 * (p - 1))).toInt ≤ (ev (4 * m)).toInt := by rw [hp]; exact psI_at m
    rw [srt, inI_row (by decide), inI_row (by decide), ← hp]
    have ih0 : ∀ i j, i < j → j < m → (srt ev m (4 * i)).toInt ≤ (srt ev m (4 * j)).toInt := ih
    simp only [Nat.add_zero]
    have hle : ∀ i, i < p → (srt ev m (4 * i)).toInt ≤ (ev (4 * m)).toInt := fun i hi => by
      by_cases e : i = p - 1
      · rw [e]; exact at' (by omega)
      · have := ih0 i (p - 1) (by omega) (by omega)
        have := at' (by omega)
        omega
    by_cases c : i < p
    · rw [if_pos c]
      by_cases d : j < p
      · rw [if_pos d]; exact ih0 i j hij (by omega)
      · rw [if_neg d]
        by_cases e : j = p
        · rw [if_pos e]; exact hle i c
        · rw [if_neg e]; exact ih0 i (j - 1) (by omega) (by omega)
    · rw [if_neg c, if_neg (show ¬ j < p by omega), if_neg (show ¬ j = p by omega)]
      by_cases d : i = p
      · rw [if_pos d]
        have := lo (j - 1) (by omega) (by omega)
        omega
      · rw [if_neg d]; exact ih0 (i - 1) (j - 1) (by omega) (by omega)
/-- the rows told so far -/
def EV (q n m : Nat) (μ κ : zI) : Prop := m ≤ 24 ∧ μ (19 + 9) 0 = nI m ∧ κ q 12 = nI m ∧ (∀ j, j < 4 * m → μ (19 + 10) j = srt (κ (q + 6)) m j) ∧ ∀ i, i < m → okE n (κ (q + 6) (4 * i + 1)) (κ (q + 6) (4 * i + 2)) (κ (q + 6) (4 * i + 3)) ∧ 1 ≤ (κ (q + 6) (4 * i + 0)).toInt ∧ (κ (q + 6) (4 * i + 0)).toInt ≤ 9999
/-- a row is told to both -/
theorem EV.add {q n m : Nat} {μ κ : zI} {ν τ : zJ} {a b c d x2 : Int32} (h : EV q n m μ κ) (hm : m < 24) (h0 : μ 3 0 = 0) (k0 : κ q 19 = 0) (ok : okE n b c d) (a1 : 1 ≤ a.toInt) (a9 : a.toInt ≤ 9999) (hb : x2 - 7 = b) : ∃ μ' κ', E_Reader_addComing a b c d μ ν = some (μ', ν) ∧ e_M_readAt_143 q a x2 c d κ τ = some (κ', τ) ∧ (∀ r, r ≠ 19 + 9 → r ≠ 19 + 10 → μ' r = μ r) ∧ (∀ j, j ≠ 0 → μ' (19 + 9) j = μ (19 + 9) j) ∧ (∀ r, r ≠ q → r ≠ q + 6 → κ' r = κ r) ∧ (∀ k, k ≠ 12 → κ' q k = κ q k) ∧ EV q n (m + 1) μ' κ' := by
  obtain ⟨h1, h2, h3, h4, h5⟩ := h
  obtain ⟨μ', p1, p2, p3, p4, p5⟩ := C_add (b := 19) (x1 := a) (x2 := b) (x3 := c) (x4 := d) (ν := ν) hm h2
  obtain ⟨K, hK⟩ : ∃ K, K = zu (zu (zu (zu (zu κ (q + 6) (4 * m + 0) a) (q + 6) (4 * m + 1) b) (q + 6) (4 * m + 2) c) (q + 6) (4 * m + 3) d) q 12 (nI (m + 1)) := ⟨_, rfl⟩
  have Kw : ∀ w, w < 4 → K (q + 6) (4 * m + w) = e4 a b c d w := fun w hw => by
    have : w = 0 ∨ w = 1 ∨ w = 2 ∨ w = 3 := by omega
    rw [hK]
    rcases this with e | e | e | e <;> subst e
    · rw [zgr (by omega), zgk (by omega), zgk (by omega), zgk (by omega), zgh]; rfl
    · rw [zgr (by omega), zgk (by omega), zgk (by omega), zgh]; rfl
    · rw [zgr (by omega), zgk (by omega), zgh]; rfl
    · rw [zgr (by omega), zgh]; rfl
  have Ko : ∀ j, j < 4 * m → K (q + 6) j = κ (q + 6) j := fun j hj => by
    rw [hK, zgr (by omega), zgk (by omega), zgk (by omega), zgk (by omega), zgk (by omega)]
  have sr : ∀ j, j < 4 * m → srt (K (q + 6)) m j = μ (19 + 10) j := fun j hj => by rw [h4 j hj]; exact srt_congr m (fun j hj => Ko j hj) j hj
  have k4 : K (q + 6) (4 * m) = a := Kw 0 (by decide)
  refine ⟨μ', K, ?_, ?_, p2, p4, fun r g1 g2 => ?_, fun k hk => ?_, by omega, p3, by rw [hK, zgh], fun j hj => ?_, fun i hi => ?_⟩
  · rw [E_Reader_addComing, e_Reader_addComing_0, if_pos h0, ob_eq p1]
    rfl
  · have e0 : (4 : Int32) * nI m = nI (4 * m + 0) := by rw [show (4 : Int32) = nI 4 from rfl, pk_mul, Nat.add_zero]
    have e1 : nI (4 * m + 0) + 1 = nI (4 * m + 1) := nI_1 _
    have e2 : nI (4 * m + 0) + 2 = nI (4 * m + 2) := nI_add (4 * m + 0) 2
    have e3 : nI (4 * m + 0) + 3 = nI (4 * m + 3) := nI_add (4 * m + 0) 3
    rw [e_M_readAt_143, if_pos k0, h3, e0, zlet_eq, e1, e2, e3, hb]
    rw [if_pos (zin_nI (by omega) (by decide)), zlet_eq, nI_clamp (by omega)]
    rw [if_pos (zin_nI (by omega) (by decide)), zlet_eq, nI_clamp (by omega)]
    rw [if_pos (zin_nI (by omega) (by decide)), zlet_eq, nI_clamp (by omega)]
    rw [if_pos (zin_nI (by omega) (by decide)), zlet_eq, nI_clamp (by omega), zlet_eq]
    rw [show zu (zu (zu (zu κ (q + 6) (4 * m + 0) a) (q + 6) (4 * m + 1) b) (q + 6) (4 * m + 2) c) (q + 6) (4 * m + 3) d q 12 = nI m by simp (disch := omega) only [zgr]; exact h3, nI_1, ← hK]
  · rw [hK]; simp (disch := omega) only [zgr]
  · rw [hK, zgk hk]; simp (disch := omega) only [zgr]
  · rw [p5 j hj, srt, k4, psI_congr m sr]
    exact inI_congr (psI_le m) hj (fun j hj => (sr j hj).symm) (fun w hw => (Kw w hw).symm)
  · by_cases e : i = m
    · subst e
      rw [Kw 1 (by decide), Kw 2 (by decide), Kw 3 (by decide), Kw 0 (by decide)]
      exact ⟨ok, a1, a9⟩
    · rw [Ko _ (by omega), Ko _ (by omega), Ko _ (by omega), Ko _ (by omega)]
      exact h5 i (by omega)
