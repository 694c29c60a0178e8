/-! Numbers and words of a token. -/
def mvA (t : Nat → Int32) : Nat → Nat → Int32 → Int32
  | 0, _, v => v
  | d + 1, p, v => mvA t d (p + 1) (if v ≤ 99999 then 10 * v + t p - 48 else v)
def cvA (t : Nat → Int32) : Nat → Nat → Int32 → Int32
  | 0, _, v => v
  | d + 1, p, v => if 1000000 ≤ v then v else cvA t d (p + 1) (v * 10 + t p - 48)
def nmOK (a b : Int32) : Prop := (a = b ∧ 0 ≤ a.toInt ∧ a.toInt ≤ 99999) ∨ (99999 < a.toInt ∧ 99999 < b.toInt ∧ b.toInt ≤ 9999999)
theorem nm_step {t : Nat → Int32} : ∀ (d p : Nat) (a b : Int32), (∀ i, p ≤ i → i < p + d → 48 ≤ (t i).toInt ∧ (t i).toInt ≤ 57) → nmOK a b → nmOK (mvA t d p a) (cvA t d p b) := by
  have k10 : (10 : Int32).toInt = 10 := rfl
  have k48 : (48 : Int32).toInt = 48 := rfl
  have k9 : (99999 : Int32).toInt = 99999 := rfl
  have km : (1000000 : Int32).toInt = 1000000 := rfl
  intro d
  induction d with
  | zero => intro p a b _ h; exact h
  | succ d ih =>
    intro p a b ht h
    obtain ⟨d1, d2⟩ := ht p (by omega) (by omega)
    rw [mvA, cvA]
    rcases h with ⟨e, a0, a9⟩ | ⟨a0, b0, b9⟩
    · subst e
      have e1 : (10 * a).toInt = 10 * a.toInt := by rw [imu (by rw [k10]; omega) (by rw [k10]; omega), k10]
      have e2 : (10 * a + t p).toInt = 10 * a.toInt + (t p).toInt := by rw [iad (by rw [e1]; omega) (by rw [e1]; omega), e1]
      have e3 : (10 * a + t p - 48).toInt = 10 * a.toInt + (t p).toInt - 48 := by rw [isb (by rw [e2, k48]; omega) (by rw [e2, k48]; omega), e2, k48]
      rw [if_pos (ile.mpr (by rw [k9]; exact a9)), if_neg (fun g => by have := ile.mp g; rw [km] at this; omega), Int32.mul_comm a 10]
      refine ih (p + 1) _ _ (fun i h1 h2 => ht i (by omega) (by omega)) ?_
      by_cases c : (10 * a + t p - 48).toInt ≤ 99999
      · exact Or.inl ⟨rfl, by omega, c⟩
      · exact Or.inr ⟨by omega, by omega, by omega⟩
    · rw [if_neg (fun g => by have := ile.mp g; rw [k9] at this; omega)]
      by_cases c : 1000000 ≤ b
      · rw [if_pos c]
        -- the class stops
        have stay : ∀ d p, nmOK (mvA t d p a) b := by
          intro d
          induction d with
          | zero => intro p; exact Or.inr ⟨a0, b0, b9⟩
          | succ d ih2 =>
            intro p
            rw [mvA, if_neg (fun g => by have := ile.mp g; rw [k9] at this; omega)]
            exact ih2 (p + 1)
        exact stay d (p + 1)
      · have c' := ilt.mp (Int32.not_le.mp c)
        rw [km] at c'
        rw [if_neg c]
        have e1 : (b * 10).toInt = b.toInt * 10 := by rw [imu (by rw [k10]; omega) (by rw [k10]; omega), k10]
        have e2 : (b * 10 + t p).toInt = b.toInt * 10 + (t p).toInt := by rw [iad (by rw [e1]; omega) (by rw [e1]; omega), e1]
        have e3 : (b * 10 + t p - 48).toInt = b.toInt * 10 + (t p).toInt - 48 := by rw [isb (by rw [e2, k48]; omega) (by rw [e2, k48]; omega), e2, k48]
        exact ih (p + 1) _ _ (fun i h1 h2 => ht i (by omega) (by omega)) (Or.inr ⟨a0, by omega, by omega⟩)
/-- the token is spelt as the k-th string -/
def spB (t : Nat → Int32) (s e k : Nat) : Bool := decide (zSl k = e - s) && decide (∀ i, i < zSl k → zSb k i = t (s + i))
theorem spB_iff {t : Nat → Int32} {s e k : Nat} : spB t s e k = true ↔ zSl k = e - s ∧ ∀ i, i < zSl k → zSb k i = t (s + i) := by
  unfold spB
  rw [Bool.and_eq_true, decide_eq_true_iff, decide_eq_true_iff]
theorem sp_one : ∀ a, a < 10 → ∀ b, b < 10 → zSl a = zSl b → (∀ i, i < zSl a → zSb a i = zSb b i) → a = b := by decide
theorem sp_uniq {t : Nat → Int32} {s e a b : Nat} (ha : a < 10) (hb : b < 10) (h1 : spB t s e a = true) (h2 : spB t s e b = true) : a = b := by
  obtain ⟨x1, x2⟩ := spB_iff.mp h1
  obtain ⟨y1, y2⟩ := spB_iff.mp h2
  exact sp_one a ha b hb (x1.trans y1.symm) (fun i hi => (x2 i hi).trans (y2 i (by omega)).symm)
theorem zSc_sb : ∀ k, k < 11 → ∀ i, i < zSl k → zSc k (nI i) = zSb k i := by decide
theorem zSl_9 : ∀ k, k < 11 → zSl k ≤ 8 := by decide
def cwA (t : Nat → Int32) (s e : Nat) : Nat → Nat → Nat
  | 0, _ => 10
  | d + 1, k => if spB t s e k = true then k else cwA t s e d (k + 1)
theorem cwA_b {t : Nat → Int32} {s e : Nat} : ∀ d k, k + d = 10 → (cwA t s e d k < 10 ∧ spB t s e (cwA t s e d k) = true) ∨ (cwA t s e d k = 10 ∧ ∀ j, k ≤ j → j < 10 → ¬ spB t s e j = true) := by
  intro d
  induction d with
  | zero => intro k h; exact Or.inr ⟨rfl, fun j h1 h2 => by omega⟩
  | succ d ih =>
    intro k h
    rw [cwA]
    by_cases c : spB t s e k = true
    · rw [if_pos c]; exact Or.inl ⟨by omega, c⟩
    · rw [if_neg c]
      rcases ih (k + 1) (by omega) with a | ⟨a, b⟩
      · exact Or.inl a
      · refine Or.inr ⟨a, fun j h1 h2 => ?_⟩
        by_cases e : j = k
        · rw [e]; exact c
        · exact b j (by omega) h2
/-! ## the class's -/
theorem C_num_f {L e : Nat} {t : Nat → Int32} {μ : zI} {ν : zJ} {x1 x2 : Int32} (hT : TC L t μ) (he : μ 3 6 = nI e) (heL : e ≤ L) : ∀ (d p f : Nat) (v : Int32), p + d = e → d < f → ∃ x4, f_Reader_readNumber_8 f x1 x2 v (nI p) μ ν = e_Reader_readNumber_44 x1 x2 (cvA t d p v) x4 μ ν := by
  have h9 := hT.1
  intro d
  induction d with
  | zero =>
    intro p f v hp hf
    obtain ⟨f, rfl⟩ : ∃ i, f = i + 1 := ⟨f - 1, by omega⟩
    exact ⟨nI p, by rw [f_Reader_readNumber_8, he, if_pos (nI_le (by omega) (by omega))]; rfl⟩
  | succ d ih =>
    intro p f v hp hf
    obtain ⟨f, rfl⟩ : ∃ i, f = i + 1 := ⟨f - 1, by omega⟩
    by_cases c : 1000000 ≤ v
    · exact ⟨nI p, by rw [f_Reader_readNumber_8, he, if_neg (nI_ge (by omega) (by omega)), if_pos c, cvA, if_pos c]⟩
    · obtain ⟨x4, a⟩ := ih (p + 1) f (v * 10 + t p - 48) (by omega) (by omega)
      refine ⟨x4, ?_⟩
      rw [f_Reader_readNumber_8, he, if_neg (nI_ge (by omega) (by omega)), if_neg c, ob_eq (hT.sign (by omega)), zlet_eq, cvA, if_neg c, nI_1]
      exact a
theorem C_spelt_f {L s e k : Nat} {t : Nat → Int32} {μ : zI} {ν : zJ} (hT : TC L t μ) (hs : μ 3 5 = nI s) (heL : s + zSl k ≤ L) (hk : k < 11) : ∀ (d i f : Nat), i + d = zSl k → d < f → (∀ j, j < i → zSb k j = t (s + j)) → f_Reader_isSpelt_20 f k (nI i) μ ν = some (if ∀ j, j < zSl k → zSb k j = t (s + j) then 1 else 0, μ, ν) := by
  have h9 := hT.1
  have l8 := zSl_9 k hk
  have k14 : decide (k < 14) = true := decide_eq_true (by omega)
  intro d
  induction d with
  | zero =>
    intro i f hi hf hj
    obtain ⟨f, rfl⟩ : ∃ i, f = i + 1 := ⟨f - 1, by omega⟩
    rw [f_Reader_isSpelt_20, if_pos k14, if_pos (nI_le (by omega) (by omega)), if_pos (fun j h => hj j (by omega))]
  | succ d ih =>
    intro i f hi hf hj
    obtain ⟨f, rfl⟩ : ∃ i, f = i + 1 := ⟨f - 1, by omega⟩
    rw [f_Reader_isSpelt_20, if_pos k14, if_neg (nI_ge (by omega) (by omega)), if_pos k14, if_pos (zin_nI (by omega) (by omega)), hs, nI_add, ob_eq (hT.sign (by omega)), zSc_sb k hk i (by omega), nI_1]
    dsimp only
    by_cases c : zSb k i = t (s + i)
    · rw [if_pos c]
      refine ih (i + 1) f (by omega) (by omega) (fun j h => ?_)
      by_cases e : j = i
      · rw [e]; exact c
      · exact hj j (by omega)
    · rw [if_neg c, if_neg (fun g => c (g i (by omega)))]
theorem C_spelt {L s e k : Nat} {t : Nat → Int32} {μ : zI} {ν : zJ} (hT : TC L t μ) (hs : μ 3 5 = nI s) (he : μ 3 6 = nI e) (hse : s ≤ e) (heL : e ≤ L) (hk : k < 11) : E_Reader_isSpelt k μ ν = some (if spB t s e k = true then 1 else 0, μ, ν) := by
  have h9 := hT.1
  have l8 := zSl_9 k hk
  have k14 : decide (k < 14) = true := decide_eq_true (by omega)
  rw [E_Reader_isSpelt, e_Reader_isSpelt_0, if_pos k14, hs, he, pk_sub hse]
  by_cases c : zSl k = e - s
  · rw [if_pos (by rw [c]), show (0 : Int32) = nI 0 from rfl, C_spelt_f (e := e) hT hs (by omega) hk (zSl k) 0 zFuel (by omega) (by unfold zFuel; omega) (fun j h => by omega)]
    congr 2
    by_cases d : ∀ j, j < zSl k → zSb k j = t (s + j)
    · rw [if_pos d, if_pos (spB_iff.mpr ⟨c, d⟩)]
    · rw [if_neg d, if_neg (fun g => d (spB_iff.mp g).2)]
      rfl
  · rw [if_neg (fun g => c ((nI_eq (by omega) (by omega)).mp g)), if_neg (fun g => c (spB_iff.mp g).1)]
theorem C_word_f {L s e : Nat} {t : Nat → Int32} {μ : zI} {ν : zJ} (hT : TC L t μ) (hs : μ 3 5 = nI s) (he : μ 3 6 = nI e) (hse : s < e) (heL : e ≤ L) (hk2 : μ 3 4 = 2) : ∀ (d k f : Nat), k + d = 10 → d + 1 < f → f_Reader_wordHere_2 f (nI k) μ ν = some (cwA t s e d k, μ, ν) := by
  have h9 := hT.1
  intro d
  induction d with
  | zero =>
    intro k f hk hf
    obtain ⟨f, rfl⟩ : ∃ i, f = i + 1 + 1 := ⟨f - 2, by omega⟩
    have k10 : k = 10 := by omega
    subst k10
    have no : spB t s e 10 = false := by
      cases h : spB t s e 10
      · rfl
      · have := (spB_iff.mp h).1
        rw [show zSl 10 = 0 from by decide] at this
        omega
    rw [f_Reader_wordHere_2, if_neg (by decide), if_pos hk2, if_pos (by decide), if_pos (by decide), show (nI 10).toNatClampNeg = 10 by decide, ob_eq (C_spelt hT hs he (by omega) heL (by decide)), no]
    rw [if_pos (show (if false = true then (1 : Int32) else 0) = 0 by decide), e_Reader_wordHere_39, f_Reader_wordHere_2, if_pos (by decide)]
    rfl
  | succ d ih =>
    intro k f hk hf
    obtain ⟨f, rfl⟩ : ∃ i, f = i + 1 := ⟨f - 1, by omega⟩
    have c10 : (nI k).toNatClampNeg = k := nI_clamp (by omega)
    rw [f_Reader_wordHere_2, if_neg (lge (c := 11) (k := k) 11 rfl (by omega) (by decide)), if_pos hk2, if_pos (zin_nI (by omega) (by decide)), c10, if_pos (decide_eq_true (show k < 11 by omega)), ob_eq (C_spelt hT hs he (by omega) heL (by omega)), cwA]
    dsimp only
    by_cases c : spB t s e k = true
    · rw [if_pos c, if_pos c, if_neg one_ne_0, if_pos (zin_nI (by omega) (by decide))]
    · rw [if_neg c, if_neg c, if_pos rfl, e_Reader_wordHere_39, nI_1]
      exact ih (k + 1) f (by omega) (by omega)
theorem C_word_n {μ : zI} {ν : zJ} (hk2 : ¬ μ 3 4 = 2) : ∀ (d k f : Nat), k + d = 11 → d < f → f_Reader_wordHere_2 f (nI k) μ ν = some (10, μ, ν) := by
  intro d
  induction d with
  | zero =>
    intro k f hk hf
    obtain ⟨f, rfl⟩ : ∃ i, f = i + 1 := ⟨f - 1, by omega⟩
    rw [f_Reader_wordHere_2, if_pos (show (11 : Int32) ≤ nI k from nI_le (a := 11) (by omega) (by omega))]
  | succ d ih =>
    intro k f hk hf
    obtain ⟨f, rfl⟩ : ∃ i, f = i + 1 := ⟨f - 1, by omega⟩
    rw [f_Reader_wordHere_2, if_neg (lge (c := 11) (k := k) 11 rfl (by omega) (by decide)), if_neg hk2, e_Reader_wordHere_39, nI_1]
    exact ih (k + 1) f (by omega) (by omega)
/-- the word here: its number in the class's order, 10: none -/
def cW (t : Nat → Int32) (L s e : Nat) : Nat := if tkK t L s = 2 then cwA t s e 10 0 else 10
theorem C_word {L s e : Nat} {t : Nat → Int32} {μ : zI} {ν : zJ} (hT : TC L t μ) (hs : μ 3 5 = nI s) (he : μ 3 6 = nI e) (h4 : μ 3 4 = tkK t L s) (hse : tkK t L s = 2 → s < e) (heL : e ≤ L) : E_Reader_wordHere μ ν = some (cW t L s e, μ, ν) := by
  rw [E_Reader_wordHere, e_Reader_wordHere_0, cW]
  by_cases c : tkK t L s = 2
  · rw [if_pos c]
    exact C_word_f hT hs he (hse c) heL (h4.trans c) 10 0 zFuel (by omega) (by unfold zFuel; omega)
  · rw [if_neg c]
    exact C_word_n (by rw [h4]; exact c) 11 0 zFuel (by omega) (by unfold zFuel; omega)
