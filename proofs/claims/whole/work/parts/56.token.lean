/-! Tokens: pure, the class's, the reference's. -/
def kd42 (c : Int32) : Int32 := if c = 59 then 4 else 5
def kd28 (c : Int32) : Int32 := if c < 48 then kd42 c else if 57 < c then kd42 c else 3
def kd (c : Int32) : Int32 := if c = 10 then 1 else if c = 32 then 1 else if c < 97 then kd28 c else if 122 < c then kd28 c else 2
theorem C_kind {c : Int32} {μ : zI} {ν : zJ} : E_Reader_kindOf c μ ν = some (kd c, μ, ν) := by
  have e42 : e_Reader_kindOf_42 c μ ν = some (kd42 c, μ, ν) := by
    rw [e_Reader_kindOf_42, kd42, e_Reader_kindOf_53, e_Reader_kindOf_53]
    split <;> rfl
  have e28 : e_Reader_kindOf_28 c μ ν = some (kd28 c, μ, ν) := by
    rw [e_Reader_kindOf_28, kd28, e42]
    by_cases c1 : c < 48
    · rw [if_pos c1, if_pos c1]
    · rw [if_neg c1, if_neg c1]
      split <;> rfl
  rw [E_Reader_kindOf, e_Reader_kindOf_0, kd, e28, e_Reader_kindOf_12]
  by_cases c1 : c = 10
  · rw [if_pos c1, if_pos c1]
  · rw [if_neg c1, if_neg c1]
    by_cases c2 : c = 32
    · rw [if_pos c2, if_pos c2]
    · rw [if_neg c2, if_neg c2]
      by_cases c3 : c < 97
      · rw [if_pos c3, if_pos c3]
      · rw [if_neg c3, if_neg c3]
        split <;> rfl
theorem kd_c (c : Int32) : (kd c = 1 ∧ (c.toInt = 10 ∨ c.toInt = 32)) ∨ (kd c = 2 ∧ 97 ≤ c.toInt ∧ c.toInt ≤ 122) ∨ (kd c = 3 ∧ 48 ≤ c.toInt ∧ c.toInt ≤ 57) ∨ (kd c = 4 ∧ c.toInt = 59) ∨ (kd c = 5 ∧ c.toInt ≠ 10 ∧ c.toInt ≠ 32 ∧ ¬ (97 ≤ c.toInt ∧ c.toInt ≤ 122) ∧ ¬ (48 ≤ c.toInt ∧ c.toInt ≤ 57) ∧ c.toInt ≠ 59) := by
  have i10 : (c = 10) ↔ c.toInt = 10 := ieq
  have i32 : (c = 32) ↔ c.toInt = 32 := ieq
  have i59 : (c = 59) ↔ c.toInt = 59 := ieq
  have l48 : (c < 48) ↔ c.toInt < 48 := ilt
  have l97 : (c < 97) ↔ c.toInt < 97 := ilt
  have g57 : ((57 : Int32) < c) ↔ 57 < c.toInt := ilt
  have g122 : ((122 : Int32) < c) ↔ 122 < c.toInt := ilt
  have k42 : (kd42 c = 4 ∧ c.toInt = 59) ∨ (kd42 c = 5 ∧ c.toInt ≠ 59) := by
    unfold kd42
    by_cases e : c = 59
    · rw [if_pos e]; exact Or.inl ⟨rfl, i59.mp e⟩
    · rw [if_neg e]; exact Or.inr ⟨rfl, fun g => e (i59.mpr g)⟩
  have k28 : (kd28 c = 3 ∧ 48 ≤ c.toInt ∧ c.toInt ≤ 57) ∨ (kd28 c = kd42 c ∧ ¬ (48 ≤ c.toInt ∧ c.toInt ≤ 57)) := by
    unfold kd28
    by_cases e : c < 48
    · rw [if_pos e]; exact Or.inr ⟨rfl, by have := l48.mp e; omega⟩
    · rw [if_neg e]
      by_cases d : 57 < c
      · rw [if_pos d]; exact Or.inr ⟨rfl, by have := g57.mp d; omega⟩
      · rw [if_neg d]
        have e' := fun g => e (l48.mpr g)
        have d' := fun g => d (g57.mpr g)
        exact Or.inl ⟨rfl, Int.not_lt.mp e', Int.not_lt.mp d'⟩
  by_cases c1 : c = 10
  · exact Or.inl ⟨by rw [kd, if_pos c1], Or.inl (i10.mp c1)⟩
  · by_cases c2 : c = 32
    · exact Or.inl ⟨by rw [kd, if_neg c1, if_pos c2], Or.inr (i32.mp c2)⟩
    · have n1 : c.toInt ≠ 10 := fun g => c1 (i10.mpr g)
      have n2 : c.toInt ≠ 32 := fun g => c2 (i32.mpr g)
      have rest : kd c = kd28 c → ¬ (97 ≤ c.toInt ∧ c.toInt ≤ 122) → (kd c = 1 ∧ (c.toInt = 10 ∨ c.toInt = 32)) ∨ (kd c = 2 ∧ 97 ≤ c.toInt ∧ c.toInt ≤ 122) ∨ (kd c = 3 ∧ 48 ≤ c.toInt ∧ c.toInt ≤ 57) ∨ (kd c = 4 ∧ c.toInt = 59) ∨ (kd c = 5 ∧ c.toInt ≠ 10 ∧ c.toInt ≠ 32 ∧ ¬ (97 ≤ c.toInt ∧ c.toInt ≤ 122) ∧ ¬ (48 ≤ c.toInt ∧ c.toInt ≤ 57) ∧ c.toInt ≠ 59) := by
        intro ek nl
        rcases k28 with ⟨a, b⟩ | ⟨a, b⟩
        · exact Or.inr (Or.inr (Or.inl ⟨ek.trans a, b⟩))
        · rcases k42 with ⟨a2, b2⟩ | ⟨a2, b2⟩
          · exact Or.inr (Or.inr (Or.inr (Or.inl ⟨(ek.trans a).trans a2, b2⟩)))
          · exact Or.inr (Or.inr (Or.inr (Or.inr ⟨(ek.trans a).trans a2, n1, n2, nl, b, b2⟩)))
      by_cases c3 : c < 97
      · exact rest (by rw [kd, if_neg c1, if_neg c2, if_pos c3]) (by have := l97.mp c3; omega)
      · by_cases c4 : 122 < c
        · exact rest (by rw [kd, if_neg c1, if_neg c2, if_neg c3, if_pos c4]) (by have := g122.mp c4; omega)
        · have e' := fun g => c3 (l97.mpr g)
          have d' := fun g => c4 (g122.mpr g)
          exact Or.inr (Or.inl ⟨by rw [kd, if_neg c1, if_neg c2, if_neg c3, if_neg c4], Int.not_lt.mp e', Int.not_lt.mp d'⟩)
def skA (t : Nat → Int32) : Nat → Nat → Nat
  | 0, p => p
  | d + 1, p => if kd (t p) = 1 then skA t d (p + 1) else p
def exA (t : Nat → Int32) (k : Int32) : Nat → Nat → Nat
  | 0, p => p
  | d + 1, p => if kd (t p) = k then exA t k d (p + 1) else p
theorem skA_b (t : Nat → Int32) : ∀ d p, p ≤ skA t d p ∧ skA t d p ≤ p + d ∧ (skA t d p < p + d → ¬ kd (t (skA t d p)) = 1) := by
  intro d
  induction d with
  | zero => intro p; exact ⟨Nat.le_refl _, Nat.le_refl _, fun h => absurd h (Nat.lt_irrefl _)⟩
  | succ d ih =>
    intro p
    rw [skA]
    by_cases c : kd (t p) = 1
    · rw [if_pos c]
      obtain ⟨a1, a2, a3⟩ := ih (p + 1)
      exact ⟨by omega, by omega, fun h => a3 (by omega)⟩
    · rw [if_neg c]
      exact ⟨Nat.le_refl _, by omega, fun _ => c⟩
theorem exA_b (t : Nat → Int32) (k : Int32) : ∀ d p, p ≤ exA t k d p ∧ exA t k d p ≤ p + d ∧ (∀ i, p ≤ i → i < exA t k d p → kd (t i) = k) := by
  intro d
  induction d with
  | zero => intro p; exact ⟨Nat.le_refl _, Nat.le_refl _, fun i h1 h2 => absurd h2 (Nat.not_lt.mpr h1)⟩
  | succ d ih =>
    intro p
    rw [exA]
    by_cases c : kd (t p) = k
    · rw [if_pos c]
      obtain ⟨a1, a2, a3⟩ := ih (p + 1)
      refine ⟨by omega, by omega, fun i h1 h2 => ?_⟩
      by_cases e : i = p
      · rw [e]; exact c
      · exact a3 i (by omega) h2
    · rw [if_neg c]
      exact ⟨Nat.le_refl _, by omega, fun i h1 h2 => absurd h2 (Nat.not_lt.mpr h1)⟩
/-- where the token behind p starts, its kind, where it ends -/
def tkS (t : Nat → Int32) (L p : Nat) : Nat := skA t (L - p) p
def tkK (t : Nat → Int32) (L s : Nat) : Int32 := if s < L then kd (t s) else 0
def tkE (t : Nat → Int32) (L s : Nat) : Nat := if s < L then (if kd (t s) = 2 ∨ kd (t s) = 3 then exA t (kd (t s)) (L - (s + 1)) (s + 1) else s + 1) else L
theorem tkS_b {t : Nat → Int32} {L p : Nat} (h : p ≤ L) : p ≤ tkS t L p ∧ tkS t L p ≤ L := by
  have := skA_b t (L - p) p
  unfold tkS
  omega
theorem tkE_b {t : Nat → Int32} {L s : Nat} (h : s ≤ L) : s ≤ tkE t L s ∧ tkE t L s ≤ L ∧ (s < L → s < tkE t L s) := by
  unfold tkE
  by_cases c : s < L
  · rw [if_pos c]
    by_cases d : kd (t s) = 2 ∨ kd (t s) = 3
    · rw [if_pos d]
      have := exA_b t (kd (t s)) (L - (s + 1)) (s + 1)
      omega
    · rw [if_neg d]
      omega
  · rw [if_neg c]
    omega
/-- the bytes as the class has them -/
def TC (L : Nat) (t : Nat → Int32) (μ : zI) : Prop := L ≤ 900 ∧ (∃ s, s ≤ 900 ∧ L ≤ s ∧ μ 1 1 = nI s) ∧ ∀ i, i < L → μ 2 i &&& 255 = t i
theorem TC.fr {L : Nat} {t : Nat → Int32} {μ μ' : zI} (h : TC L t μ) (e1 : μ' 1 = μ 1) (e2 : μ' 2 = μ 2) : TC L t μ' := by
  unfold TC
  rw [e1, e2]
  exact h
theorem TC.sign {L : Nat} {t : Nat → Int32} {μ : zI} {ν : zJ} (h : TC L t μ) {i : Nat} (hi : i < L) : E_Reader_signAt (nI i) μ ν = some (t i, μ, ν) := by
  obtain ⟨h1, ⟨s, s9, s1, s2⟩, h3⟩ := h
  rw [E_Reader_signAt, e_Reader_signAt_0, if_neg (nI_pos (by omega)), s2, if_neg (nI_ge (by omega) (by omega)), if_neg (lge (c := 900) (k := i) 900 rfl (by omega) (by decide)), if_pos (zin_nI (by omega) (by decide)), nI_clamp (by omega), h3 i hi, e_Reader_signAt_39]
theorem C_skip {L : Nat} {t : Nat → Int32} {ν : zJ} : ∀ (d p f : Nat) (μ : zI), p + d = L → d < f → TC L t μ → μ 3 3 = nI L → μ 3 5 = nI p → ∃ μ', f_Reader_nextToken_8 f μ ν = e_Reader_nextToken_47 μ' ν ∧ (∀ r, r ≠ 3 → μ' r = μ r) ∧ (∀ k, k ≠ 5 → μ' 3 k = μ 3 k) ∧ μ' 3 5 = nI (skA t d p) := by
  intro d
  induction d with
  | zero =>
    intro p f μ hp hf hT h3 h5
    obtain ⟨f, rfl⟩ : ∃ i, f = i + 1 := ⟨f - 1, by omega⟩
    have := hT.1
    exact ⟨μ, by rw [f_Reader_nextToken_8, h3, h5, if_pos (nI_le (by omega) (by omega))], fun _ _ => rfl, fun _ _ => rfl, h5⟩
  | succ d ih =>
    intro p f μ hp hf hT h3 h5
    obtain ⟨f, rfl⟩ : ∃ i, f = i + 1 := ⟨f - 1, by omega⟩
    have h9 := hT.1
    have st : f_Reader_nextToken_8 (f + 1) μ ν = if kd (t p) = 1 then f_Reader_nextToken_8 f (zu μ 3 5 (nI (p + 1))) ν else e_Reader_nextToken_47 μ ν := by
      rw [f_Reader_nextToken_8, h3, h5, if_neg (nI_ge (by omega) (by omega)), ob_eq (hT.sign (by omega)), ob_eq C_kind, zlet_eq]
      dsimp only
      rw [h5, nI_1]
    rw [skA]
    by_cases c : kd (t p) = 1
    · rw [if_pos c] at st
      obtain ⟨μ', a1, a2, a3, a4⟩ := ih (p + 1) f (zu μ 3 5 (nI (p + 1))) (by omega) (by omega) (hT.fr (zgr (by omega)) (zgr (by omega))) (by rw [zgk (by decide)]; exact h3) zgh
      exact ⟨μ', st.trans a1, fun r h => (a2 r h).trans (zgr h), fun k h => (a3 k h).trans (zgk h), by rw [if_pos c]; exact a4⟩
    · rw [if_neg c] at st
      exact ⟨μ, st, fun _ _ => rfl, fun _ _ => rfl, by rw [if_neg c]; exact h5⟩
theorem C_ext {L : Nat} {t : Nat → Int32} {ν : zJ} {k : Int32} : ∀ (d p f : Nat) (μ : zI), p + d = L → d < f → TC L t μ → μ 3 3 = nI L → μ 3 4 = k → μ 3 6 = nI p → ∃ μ', f_Reader_nextToken_110 f μ ν = some (μ', ν) ∧ (∀ r, r ≠ 3 → μ' r = μ r) ∧ (∀ j, j ≠ 6 → μ' 3 j = μ 3 j) ∧ μ' 3 6 = nI (exA t k d p) := by
  intro d
  induction d with
  | zero =>
    intro p f μ hp hf hT h3 h4 h6
    obtain ⟨f, rfl⟩ : ∃ i, f = i + 1 := ⟨f - 1, by omega⟩
    have := hT.1
    exact ⟨μ, by rw [f_Reader_nextToken_110, h3, h6, if_pos (nI_le (by omega) (by omega)), e_Reader_nextToken_152], fun _ _ => rfl, fun _ _ => rfl, h6⟩
  | succ d ih =>
    intro p f μ hp hf hT h3 h4 h6
    obtain ⟨f, rfl⟩ : ∃ i, f = i + 1 := ⟨f - 1, by omega⟩
    have h9 := hT.1
    have st : f_Reader_nextToken_110 (f + 1) μ ν = if kd (t p) = k then f_Reader_nextToken_110 f (zu μ 3 6 (nI (p + 1))) ν else some (μ, ν) := by
      rw [f_Reader_nextToken_110, h3, h6, if_neg (nI_ge (by omega) (by omega)), ob_eq (hT.sign (by omega)), ob_eq C_kind, zlet_eq, e_Reader_nextToken_152]
      simp only [h4, h6, nI_1]
    rw [exA]
    by_cases c : kd (t p) = k
    · rw [if_pos c] at st
      obtain ⟨μ', a1, a2, a3, a4⟩ := ih (p + 1) f (zu μ 3 6 (nI (p + 1))) (by omega) (by omega) (hT.fr (zgr (by omega)) (zgr (by omega))) (by rw [zgk (by decide)]; exact h3) (by rw [zgk (by decide)]; exact h4) zgh
      exact ⟨μ', st.trans a1, fun r h => (a2 r h).trans (zgr h), fun k h => (a3 k h).trans (zgk h), by rw [if_pos c]; exact a4⟩
    · rw [if_neg c] at st
      exact ⟨μ, st, fun _ _ => rfl, fun _ _ => rfl, by rw [if_neg c]; exact h6⟩
theorem C_tok {L p : Nat} {t : Nat → Int32} {μ : zI} {ν : zJ} (hT : TC L t μ) (h3 : μ 3 3 = nI L) (h6 : μ 3 6 = nI p) (hp : p ≤ L) : ∃ μ', E_Reader_nextToken μ ν = some (μ', ν) ∧ (∀ r, r ≠ 3 → μ' r = μ r) ∧ (∀ k, k ≠ 4 → k ≠ 5 → k ≠ 6 → μ' 3 k = μ 3 k) ∧ μ' 3 5 = nI (tkS t L p) ∧ μ' 3 4 = tkK t L (tkS t L p) ∧ μ' 3 6 = nI (tkE t L (tkS t L p)) := by
  have h9 := hT.1
  obtain ⟨μ1, a1, a2, a3, a4⟩ := C_skip (L := L) (t := t) (ν := ν) (L - p) p zFuel (zu μ 3 5 (nI p)) (by omega) (by unfold zFuel; omega) (hT.fr (zgr (by omega)) (zgr (by omega))) (by rw [zgk (by decide)]; exact h3) zgh
  have sb := tkS_b (t := t) hp
  have a4' : μ1 3 5 = nI (tkS t L p) := a4
  generalize tkS t L p = s at *
  have m3 : μ1 3 3 = nI L := (a3 3 (by decide)).trans ((zgk (by decide)).trans h3)
  have T1 : TC L t μ1 := hT.fr ((a2 1 (by decide)).trans (zgr (by decide))) ((a2 2 (by decide)).trans (zgr (by decide)))
  have key : E_Reader_nextToken μ ν = e_Reader_nextToken_74 (tkK t L s) μ1 ν := by
    rw [E_Reader_nextToken, e_Reader_nextToken_0, zlet_eq, h6, a1, e_Reader_nextToken_47, m3, a4', tkK]
    by_cases c : s < L
    · rw [if_neg (nI_ge c (by omega)), ob_eq (T1.sign c), ob_eq C_kind, if_pos c]
    · rw [if_pos (nI_le (by omega) (by omega)), if_neg c]
  have emin : zMin (nI s + 1) (nI L) = nI (min (s + 1) L) := by
    rw [nI_1, zMin]
    by_cases c : L < s + 1
    · rw [if_pos (nI_lt c (by omega)), Nat.min_eq_right (by omega)]
    · rw [if_neg (nI_nlt (by omega) (by omega)), Nat.min_eq_left (by omega)]
  obtain ⟨B, hB⟩ : ∃ B, B = zu (zu μ1 3 4 (tkK t L s)) 3 6 (nI (min (s + 1) L)) := ⟨_, rfl⟩
  have br : ∀ r, r ≠ 3 → B r = μ r := fun r h => by rw [hB, zgr h, zgr h, a2 r h, zgr h]
  have b3 : ∀ k, k ≠ 4 → k ≠ 5 → k ≠ 6 → B 3 k = μ 3 k := fun k h4 h5 h6' => by rw [hB, zgk h6', zgk h4, a3 k h5, zgk h5]
  have b4 : B 3 4 = tkK t L s := by rw [hB, zgk (by decide), zgh]
  have b5 : B 3 5 = nI s := by rw [hB, zgk (by decide), zgk (by decide)]; exact a4'
  have b6 : B 3 6 = nI (min (s + 1) L) := by rw [hB, zgh]
  have key2 : E_Reader_nextToken μ ν = if tkK t L s = 2 then f_Reader_nextToken_110 zFuel B ν else if tkK t L s = 3 then f_Reader_nextToken_110 zFuel B ν else some (B, ν) := by
    rw [key, e_Reader_nextToken_74, zlet_eq, zlet_eq, zgk (show (5 : Nat) ≠ 4 by decide), a4', zgk (show (3 : Nat) ≠ 4 by decide), m3, emin, ← hB, b4, e_Reader_nextToken_152]
  by_cases c : s < L
  · have ek : tkK t L s = kd (t s) := by rw [tkK, if_pos c]
    have b6' : B 3 6 = nI (s + 1) := by rw [b6, Nat.min_eq_left (by omega)]
    by_cases d : kd (t s) = 2 ∨ kd (t s) = 3
    · have key3 : E_Reader_nextToken μ ν = f_Reader_nextToken_110 zFuel B ν := by
        rw [key2, ek]
        rcases d with d | d
        · rw [if_pos d]
        · rw [if_pos d, ite_self]
      obtain ⟨μ2, c1, c2, c3, c4⟩ := C_ext (L := L) (t := t) (ν := ν) (k := kd (t s)) (L - (s + 1)) (s + 1) zFuel B (by omega) (by unfold zFuel; omega) (hT.fr (br 1 (by decide)) (br 2 (by decide))) ((b3 3 (by decide) (by decide) (by decide)).trans h3) (b4.trans ek) b6'
      refine ⟨μ2, key3.trans c1, fun r h => (c2 r h).trans (br r h), fun k h4 h5 h6' => (c3 k h6').trans (b3 k h4 h5 h6'), (c3 5 (by decide)).trans b5, (c3 4 (by decide)).trans b4, ?_⟩
      rw [c4, tkE, if_pos c, if_pos d]
    · refine ⟨B, ?_, br, b3, b5, b4, ?_⟩
      · rw [key2, ek, if_neg (fun e => d (Or.inl e)), if_neg (fun e => d (Or.inr e))]
      · rw [b6', tkE, if_pos c, if_neg d]
  · have ek : tkK t L s = 0 := by rw [tkK, if_neg c]
    refine ⟨B, ?_, br, b3, b5, b4, ?_⟩
    · rw [key2, ek, if_neg (by decide), if_neg (by decide)]
    · rw [b6, tkE, if_neg c, Nat.min_eq_right (by omega)]
